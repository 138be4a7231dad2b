/-! QUERIES: dense (both answer; that the answers are alike is for later) -/
theorem i_nz {x : Int} (h : 0 < x) (h2 : x ≤ 2147483647) : ¬ Int32.ofInt x = 0 := fun q => by
  have e := congrArg Int32.toInt q
  rw [ga_ti (by omega), Int32.toInt_zero] at e
  omega
theorem NC_96 {f : Nat → Int} {R C : Nat} (M : MP f R C) (l : Nat) (z : Int) : 0 ≤ NC f R C l z ∧ NC f R C l z ≤ 96 := by
  have h := NC_nn f R C l z
  have h2 := RC_96 M.1.2.2.1 M.1.2.2.2
  refine ⟨h.1, Int.le_trans h.2 ?_⟩
  have : ((R * C : Nat) : Int) ≤ 96 := by omega
  simpa using this
theorem ref_dense {s : gx_S} {R C : Nat} {x y z : Int} (M : MP (s.1 216) R C) (S : SC s) (hx : i32 x) (hy : i32 y) (hz : i32 z) : ∃ (r : Int) (w : gx_S), gm_203 x y z s = some (r, w) ∧ KRw s w := by
  have hy' := hy
  have hz' := hz
  unfold i32 at hy' hz'
  unfold gm_203
  rw [sp_150 M.2.1, Option.bind_some]
  by_cases h7 : s.1 216 2 = 7
  · rw [if_neg (fun q => (gbD s).mp q h7)]
    dsimp only
    rw [sp_148 s hx, Option.bind_some]
    by_cases a : 0 ≤ x ∧ x ≤ 2
    · rw [if_neg (fun q => (gbD s).mp q a), if_pos hy']
      dsimp only
      rw [in_ s hy (by omega) (by omega), Option.bind_some]
      by_cases b : 0 ≤ y ∧ y ≤ 7
      · rw [if_neg (fun q => (gbD s).mp q b)]
        dsimp only
        have c153 : gm_153 1 y s = _ := sp_153g M 1 y (by omega) hy'
        rw [c153, Option.bind_some]
        by_cases d : 0 < NC (s.1 216) R C 1 y
        · rw [if_neg (fun q => (gbD s).mp q d), if_pos hz']
          dsimp only
          rw [in_ s hz (by omega) (by omega), Option.bind_some]
          by_cases e : 0 ≤ z ∧ z ≤ 3
          · rw [if_pos (fun q => (gbD s).mp q e)]
            dsimp only
            obtain ⟨g, rfl⟩ : ∃ g : Nat, x = g := ⟨x.toNat, by omega⟩
            obtain ⟨y, rfl⟩ : ∃ y' : Nat, y = y' := ⟨y.toNat, by omega⟩
            obtain ⟨u, w, k1, k2, k3, k4, k5, k6, k7⟩ := sp_181f M h7 (show g < 3 by omega) S
            rw [k1, Option.bind_some, k2, Option.bind_some, sp_183 (R := 8) k5 (by omega) (show y < 9 by omega), Option.bind_some]
            dsimp only
            have ew := KR_216 k4
            have T : TT (s.1 216) := by
              unfold TT
              rw [h7]
              decide
            rw [sp_202 ew M T hy, Option.bind_some]
            dsimp only
            have nc := NC_96 M 1 (y : Int)
            have hm := d_q (a := Int32.ofInt (sg (fun x => w.2 224 (9 * x + y)) 8)) (i_nz d (by omega))
            generalize FP.ddiv (FP.i2d (Int32.ofInt (sg (fun x => w.2 224 (9 * x + y)) 8))) (FP.i2d (Int32.ofInt (NC (s.1 216) R C 1 (y : Int)))) = v at hm ⊢
            have hf := hm.fin (by decide)
            have hn := hf.noNaN
            rw [if_pos (d6 hn)]
            by_cases z0 : z = 0
            · rw [if_pos z0]
              exact ⟨_, _, rfl, KR_w k4⟩
            · rw [if_neg z0]
              by_cases z1 : z = 1
              · rw [if_pos z1, if_pos (d3 (Jvm.Free.Fl.d2f_out hn))]
                exact ⟨_, _, rfl, KR_w k4⟩
              · rw [if_neg z1]
                by_cases z2 : z = 2
                · rw [if_pos z2, if_pos (d6 (Jvm.Free.Fl.drem_out hf d_one.1.noNaN d_one.2))]
                  exact ⟨_, _, rfl, KR_w k4⟩
                · rw [if_neg z2, if_pos (d6 (Jvm.Free.Fl.ddiv_out hn d_half.1 d_half.2))]
                  exact ⟨_, _, rfl, KR_w k4⟩
          · rw [if_neg (fun q => q ((gbD s).mpr e))]
            exact ⟨_, s, rfl, KRw_rf s⟩
        · rw [if_pos ((gbD s).mpr d)]
          exact ⟨_, s, rfl, KRw_rf s⟩
      · rw [if_pos ((gbD s).mpr b)]
        exact ⟨_, s, rfl, KRw_rf s⟩
    · rw [if_pos ((gbD s).mpr a)]
      exact ⟨_, s, rfl, KRw_rf s⟩
  · rw [if_pos ((gbD s).mpr h7)]
    exact ⟨_, s, rfl, KRw_rf s⟩
theorem cls_dense {s : gx_S} {f : Nat → Int} {R C n L : Nat} {pf : Nat → Nat → Int} {tb : Nat → Int} {x y z : Int} (c : CV s f R C n pf L tb) (M : MP f R C) (hx : i32 x) (hy : i32 y) (hz : i32 z) : ∃ (r : Int) (u : gx_S), gm_108 x y z s = some (r, u) ∧ KC s u ∧ CV u f R C n pf L tb := by
  have hy' := hy
  have hz' := hz
  unfold i32 at hy' hz'
  have e6 : s.1 1 6 = f 2 := c.1.2.2.1
  have c57 := sp_57 (s := s) (a := 1) (by decide +kernel) (by rw [e6]; exact M.2.1)
  rw [e6] at c57
  unfold gm_108
  rw [sp_114 s hx, Option.bind_some]
  by_cases a : 0 ≤ x ∧ x < 3
  · rw [if_neg (fun q => (gbD s).mp q a)]
    dsimp only
    rw [sp_115 s hy, Option.bind_some]
    by_cases b : 0 ≤ y ∧ y < 8
    · rw [if_neg (fun q => (gbD s).mp q b)]
      dsimp only
      rw [c57, Option.bind_some]
      by_cases h7 : f 2 = 7
      · rw [if_neg (fun q => (gbD s).mp q h7), if_pos hz']
        dsimp only
        by_cases z0 : z < 0
        · rw [if_pos z0]
          exact ⟨_, s, rfl, KC_rf s, c⟩
        · rw [if_neg z0]
          by_cases z3 : z ≤ 3
          · have nc := NC_96 M 1 y
            have c62 : gm_62 1 1 y s = _ := sp_62g c.1 M 1 y (by omega) hy'
            rw [if_pos z3, c62, Option.bind_some]
            dsimp only
            rw [if_pos (by omega)]
            by_cases d : NC f R C 1 y = 0
            · rw [if_neg (fun q => q d)]
              exact ⟨_, s, rfl, KC_rf s, c⟩
            · rw [if_pos d, if_pos a, Option.bind_some]
              obtain ⟨g, rfl⟩ : ∃ g : Nat, x = g := ⟨x.toNat, by omega⟩
              obtain ⟨y, rfl⟩ : ∃ y' : Nat, y = y' := ⟨y.toNat, by omega⟩
              have hg : g < 3 := by omega
              obtain ⟨D, u, u1, u2, u3, u4, u5, u6⟩ := CV_ready (w := 2) (by omega) M h7 hg c
              have u1 : gm_19 (71 + 48 * g) 2 s = some u := u1
              have kc : KC s u := KG_KC (ga_of hg) u3
              rw [vg_ g hg, u1, Option.bind_some, sp_76 (ga_of hg).2.2.2.1 (show y < 9 by omega), Option.bind_some]
              dsimp only
              have hm := d_q (a := Int32.ofInt (sg (fun x => u.1 (71 + 48 * g + 3 + 8) (9 * x + y)) 8)) (i_nz (show 0 < NC f R C 1 (y : Int) by omega) (by omega))
              generalize FP.ddiv (FP.i2d (Int32.ofInt (sg (fun x => u.1 (71 + 48 * g + 3 + 8) (9 * x + y)) 8))) (FP.i2d (Int32.ofInt (NC f R C 1 (y : Int)))) = v at hm ⊢
              have hf := hm.fin (by decide)
              have hn := hf.noNaN
              rw [if_pos (d6 hn)]
              by_cases z0 : z = 0
              · obtain ⟨q, e⟩ := sp_0 u hn
                rw [if_pos z0, e, Option.bind_some]
                exact ⟨_, u, rfl, kc, u2⟩
              · rw [if_neg z0]
                by_cases z1 : z = 1
                · obtain ⟨q, e⟩ := sp_1 u (Jvm.Free.Fl.d2f_out hn)
                  rw [if_pos z1, if_pos (d3 (Jvm.Free.Fl.d2f_out hn)), e, Option.bind_some]
                  exact ⟨_, u, rfl, kc, u2⟩
                · rw [if_neg z1]
                  by_cases z2 : z = 2
                  · have hs := Jvm.Free.Fl.dsub_out hn (Jvm.Free.Fl.l2d_fin (Int64.ofInt ((FP.d2l v).toInt)))
                    obtain ⟨q, e⟩ := sp_0 u hs
                    rw [if_pos z2, if_pos (d6 hs), e, Option.bind_some]
                    exact ⟨_, u, rfl, kc, u2⟩
                  · rw [if_neg z2, if_pos (d6 (Jvm.Free.Fl.ddiv_out hn d_half.1 d_half.2))]
                    exact ⟨_, u, rfl, kc, u2⟩
          · rw [if_neg z3]
            exact ⟨_, s, rfl, KC_rf s, c⟩
      · rw [if_pos ((gbD s).mpr h7)]
        exact ⟨_, s, rfl, KC_rf s, c⟩
    · rw [if_pos ((gbD s).mpr b)]
      exact ⟨_, s, rfl, KC_rf s, c⟩
  · rw [if_pos ((gbD s).mpr a)]
    exact ⟨_, s, rfl, KC_rf s, c⟩
theorem inv_denseW {s : gx_S} (h : INV s) {x y z : Int} (hx : i32 x) (hy : i32 y) (hz : i32 z) : twW s (gm_108 x y z) (gm_203 x y z) := by
  obtain ⟨f, R, C, n, pf, L, tb, c, r, v⟩ := id h
  obtain ⟨a, u, h1, kc, cu⟩ := cls_dense c v.1 hx hy hz
  have ru := RV_KC kc r
  have eu : u.1 216 = f := ru.1
  obtain ⟨b, w, h2, kw⟩ := ref_dense (s := u) (R := R) (C := C) (by rw [eu]; exact v.1) ru.2.2.2.2 hx hy hz
  exact ⟨a, b, u, w, h1, h2, q_inv kc cu r v kw⟩
