/-! QUERIES: off (both answer; that the answers are alike is for later) -/
theorem sp_80e {u : gx_S} {f : Nat → Int} {R C g t i : Nat} (M : MP f R C) (h7 : f 2 = 7) (hg : g < 3) (ht : fx_oc t 7 = true) (V : TM u t f R C g) (hi : i < 72) : ∃ q : Int, gm_80 t i u = some (q, u) := by
  have v1 := V.1 (i / 9) (by omega)
  have v2 := v1.2.2 (i % 9) (by omega)
  have e9 : 9 * (i / 9) + i % 9 = i := by omega
  rw [e9] at v2
  have g1 := (GV_r M h7 hg).1 (i / 9) (i % 9) (by omega) (by omega)
  have g2 := (GV_r M h7 hg).2.1
  have l0 := (LV_r M hg).1
  have g3 : LV f R C g (i / 9) ≤ 89991 := Int.le_trans (sg_at (f := LV f R C g) (n := 8) (fun k hk => l0 k hk) (i / 9) (show i / 9 < 8 by omega)) g2
  have r1 := l0 (i / 9) (by omega)
  have r2 := SO_r M h7 hg ((i / 9 : Nat) : Int) (-1) (decide (SO f R C g ((i / 9 : Nat) : Int) (-1) false = 0))
  have e2 : u.1 (t + 2) (i / 9) = SO f R C g ((i / 9 : Nat) : Int) (-1) (decide (SO f R C g ((i / 9 : Nat) : Int) (-1) false = 0)) := by
    rw [v1.2.1]
    exact SO_row M h7 _ _
  have r3 : 0 ≤ u.1 (t + 4) i ∧ u.1 (t + 4) i ≤ 864 := by
    rw [v2.1]
    exact SO_r M h7 hg _ _ _
  have e8 : u.1 (t + 8) i = GV f R C g (i / 9) (i % 9) := v2.2.2.2
  have e1 : u.1 (t + 1) (i / 9) = LV f R C g (i / 9) := v1.1
  have c9 : ((i : Int) / 9).toNat = i / 9 := by omega
  have ci : ((i : Int)).toNat = i := by omega
  unfold gm_80
  rw [if_pos ht, if_pos (by omega), if_pos (by omega), ci, c9, e8, e2, e1]
  generalize u.1 (t + 4) i = A at r3 ⊢
  generalize GV f R C g (i / 9) (i % 9) = G at g1 ⊢
  generalize LV f R C g (i / 9) = P at g1 g3 r1 ⊢
  generalize SO f R C g ((i / 9 : Nat) : Int) (-1) (decide (SO f R C g ((i / 9 : Nat) : Int) (-1) false = 0)) = W at r2 ⊢
  have m1 := Int.mul_nonneg g1.1 r2.1
  have m2 := Int.mul_le_mul (show G ≤ 89991 by omega) r2.2 r2.1 (by omega)
  have m3 := Int.mul_nonneg r1 r3.1
  have m4 := Int.mul_le_mul g3 r3.2 r3.1 (by omega)
  rw [if_pos (by omega), if_pos (by omega), if_pos (by omega), if_pos (by omega), if_pos (by omega), if_pos (by omega)]
  exact ⟨_, rfl⟩
theorem sl_109_39 {u : gx_S} {f : Nat → Int} {R C g v : Nat} (M : MP f R C) (h7 : f 2 = 7) (hg : g < 3) (ht : fx_oc (v + 3) 7 = true) (V : TM u (v + 3) f R C g) : ∀ (n k : Nat) (x : UInt64), 72 < n + k → k ≤ 72 → Jvm.Free.Fl.Mag64 (1100 + 2 * k) x → ∃ q : Int, gm_109_39 n v x k u = some (q, u) := by
  intro n
  induction n with
  | zero => intro k x h; omega
  | succ n ih =>
    intro k x h hk hx
    have hn := (hx.fin (by omega)).noNaN
    rw [gm_109_39, if_pos (by omega)]
    by_cases z : k = 72
    · obtain ⟨q, e⟩ := sp_0 u hn
      rw [if_pos (by omega), e, Option.bind_some]
      exact ⟨_, rfl⟩
    · have r2 := SO_r M h7 hg ((k / 9 : Nat) : Int) (-1) (decide (SO f R C g ((k / 9 : Nat) : Int) (-1) false = 0))
      have e2 : u.1 (v + 3 + 2) (k / 9) = SO f R C g ((k / 9 : Nat) : Int) (-1) (decide (SO f R C g ((k / 9 : Nat) : Int) (-1) false = 0)) := by
        rw [(V.1 (k / 9) (by omega)).2.1]
        exact SO_row M h7 _ _
      have c9 : ((k : Int) / 9).toNat = k / 9 := by omega
      have ce : ((k : Int) + 1) = ((k + 1 : Nat) : Int) := rfl
      rw [if_neg (by omega), if_pos (by omega), if_pos (by omega), c9, e2]
      generalize SO f R C g ((k / 9 : Nat) : Int) (-1) (decide (SO f R C g ((k / 9 : Nat) : Int) (-1) false = 0)) = W at r2 ⊢
      rw [if_pos (by omega)]
      by_cases y : W ≤ 0
      · rw [if_pos y]
        unfold gm_109_83
        rw [ce]
        exact ih (k + 1) x (by omega) (by omega) (hx.mono (by omega))
      · obtain ⟨q, e⟩ := sp_80e M h7 hg ht V (show k < 72 by omega)
        have hq := d_l (a := Int64.ofInt q) (i_nz (show 0 < W by omega) (by omega))
        have hs := Jvm.Free.Fl.dadd_mag hx (hq.mono (show 1095 ≤ 1100 + 2 * k by omega)) (by omega)
        rw [if_neg y, e, Option.bind_some]
        dsimp only
        rw [if_pos (d6 (hq.fin (by decide)).noNaN), if_pos (d6 (hs.fin (by omega)).noNaN)]
        unfold gm_109_83
        rw [ce]
        exact ih (k + 1) _ (by omega) (by omega) (hs.mono (by omega))
theorem cls_off {s : gx_S} {f : Nat → Int} {R C n L : Nat} {pf : Nat → Nat → Int} {tb : Nat → Int} {x : Int} (c : CV s f R C n pf L tb) (M : MP f R C) (hx : i32 x) : ∃ (r : Int) (u : gx_S), gm_109 x s = some (r, u) ∧ KC s u ∧ CV u f R C n pf L tb := by
  have e6 : s.1 1 6 = f 2 := c.1.2.2.1
  have c57 := sp_57 (s := s) (a := 1) (by decide +kernel) (by rw [e6]; exact M.2.1)
  rw [e6] at c57
  unfold gm_109
  rw [sp_114 s hx, Option.bind_some]
  by_cases a : 0 ≤ x ∧ x < 3
  · rw [if_neg (fun q => (gbD s).mp q a)]
    dsimp only
    rw [c57, Option.bind_some]
    by_cases h7 : f 2 = 7
    · rw [if_pos (fun q => (gbD s).mp q h7)]
      dsimp only
      obtain ⟨g, rfl⟩ : ∃ g : Nat, x = g := ⟨x.toNat, by omega⟩
      have hg : g < 3 := by omega
      obtain ⟨D, u, u1, u2, u3, u4, u5, u6⟩ := CV_ready (w := 2) (by omega) M h7 hg c
      have u1 : gm_19 (71 + 48 * g) 2 s = some u := u1
      have tm := (u4.2.2.2.2.1 u5).2
      have kc : KC s u := KG_KC (ga_of hg) u3
      rw [if_pos a, Option.bind_some, vg_ g hg, u1, Option.bind_some]
      obtain ⟨q, e⟩ := sl_109_39 M h7 hg (ga_of hg).2.2.2.1 tm 100000 0 FP.dconst0 (by omega) (by omega) d_0
      have e : gm_109_39 100000 (71 + 48 * g) FP.dconst0 0 u = some (q, u) := e
      exact ⟨q, u, e, kc, u2⟩
    · rw [if_neg (fun q => q ((gbD s).mpr h7))]
      exact ⟨_, s, rfl, KC_rf s, c⟩
  · rw [if_pos ((gbD s).mpr a)]
    exact ⟨_, s, rfl, KC_rf s, c⟩
theorem sl_204_42 {f : Nat → Int} {R C g x : Nat} {s : gx_S} (K : UInt64 → Int → gx_S → Option (Int × gx_S)) (M : MP f R C) (h7 : f 2 = 7) (hg : g < 3) (hx : x < 8) (e1 : s.1 223 x = sg (fun y => PMV f R C g x y) 9) (e2 : ∀ y, y < 9 → s.1 222 (9 * x + y) = PMV f R C g x y) : ∀ (n y : Nat) (a : UInt64), 9 < n + y → y ≤ 9 → Jvm.Free.Fl.Mag64 (1100 + 2 * (9 * x + y)) a → ∃ b : UInt64, Jvm.Free.Fl.Mag64 (1100 + 2 * (9 * (x + 1))) b ∧ gm_204_42 K n a x y s = K b ((x + 1 : Nat) : Int) s := by
  intro n
  induction n with
  | zero => intro y a h; omega
  | succ n ih =>
    intro y a h hy ha
    have cx : ((x : Int) + 1) = ((x + 1 : Nat) : Int) := rfl
    have ce : ((y : Int) + 1) = ((y + 1 : Nat) : Int) := rfl
    have ix : ((x : Int)).toNat = x := by omega
    rw [gm_204_42, if_pos (by omega)]
    by_cases z : y = 9
    · refine ⟨a, ha.mono (by omega), ?_⟩
      rw [if_pos (by omega), gm_204_120, cx]
    · have r2 := SO_r M h7 hg (x : Int) (-1) (decide (SO f R C g (x : Int) (-1) false = 0))
      have ew : s.1 223 x = SO f R C g (x : Int) (-1) (decide (SO f R C g (x : Int) (-1) false = 0)) := by
        rw [e1]
        exact SO_row M h7 _ _
      have r3 : 0 ≤ s.1 222 (9 * x + y) ∧ s.1 222 (9 * x + y) ≤ 864 := by
        rw [e2 y (by omega)]
        exact SO_r M h7 hg _ _ _
      rw [if_neg (by omega), if_pos (by omega), ix, ew]
      rw [← ew]
      have rw2 : 0 ≤ s.1 223 x ∧ s.1 223 x ≤ 864 := by rw [ew]; exact r2
      rw [if_pos (by omega)]
      by_cases w : s.1 223 x ≤ 0
      · refine ⟨a, ha.mono (by omega), ?_⟩
        rw [if_pos w, gm_204_120, cx]
      · have i9 : ((9 : Int) * (x : Int) + (y : Int)).toNat = 9 * x + y := by omega
        have q1 := d_l (a := Int64.ofInt (s.2 221 x * s.1 222 (9 * x + y))) (i_nz (show 0 < s.1 223 x by omega) (by omega))
        have q2 := Jvm.Free.Fl.dsub_mag ((Jvm.Free.Fl.l2d_mag (Int64.ofInt (s.2 224 (9 * x + y)))).mono (show 1088 ≤ 1095 by decide)) q1 (by decide)
        have q3 := Jvm.Free.Fl.dadd_mag ha ((d_abs q2).mono (show 1095 + 2 ≤ 1100 + 2 * (9 * x + y) by omega)) (by omega)
        rw [if_neg w, sp_160, Option.bind_some]
        dsimp only
        rw [if_pos (by omega), i9, if_pos (by omega), if_pos (d6 (q1.fin (by decide)).noNaN), sp_160, Option.bind_some]
        dsimp only
        rw [if_pos (by omega), i9, if_pos (d6 (q2.fin (by decide)).noNaN), if_pos (d6 (q3.fin (by omega)).noNaN), ce]
        exact ih (y + 1) _ (by omega) (by omega) (q3.mono (by omega))
theorem sl_204_32 {f : Nat → Int} {R C g : Nat} {s : gx_S} (M : MP f R C) (h7 : f 2 = 7) (hg : g < 3) (e : ∀ x, x < 8 → s.1 223 x = sg (fun y => PMV f R C g x y) 9 ∧ ∀ y, y < 9 → s.1 222 (9 * x + y) = PMV f R C g x y) : ∀ (n x : Nat) (a : UInt64), 8 < n + x → x ≤ 8 → Jvm.Free.Fl.Mag64 (1100 + 2 * (9 * x)) a → ∃ q : Int, gm_204_32 n a x s = some (q, s) := by
  intro n
  induction n with
  | zero => intro x a h; omega
  | succ n ih =>
    intro x a h hx ha
    rw [gm_204_32, if_pos (by omega)]
    by_cases z : x = 8
    · rw [if_pos (by omega), if_pos (d6 (ha.fin (by omega)).noNaN)]
      exact ⟨_, rfl⟩
    · have e0 := e x (by omega)
      obtain ⟨b, b1, b2⟩ := sl_204_42 (gm_204_32 n) M h7 hg (show x < 8 by omega) e0.1 e0.2 100000 0 a (by omega) (by omega) ha
      have b2 : gm_204_42 (gm_204_32 n) 100000 a x 0 s = _ := b2
      rw [if_neg (by omega), b2]
      exact ih (x + 1) b (by omega) (by omega) b1
theorem ref_off {s : gx_S} {R C : Nat} {x : Int} (M : MP (s.1 216) R C) (S : SC s) (hx : i32 x) : ∃ (r : Int) (w : gx_S), gm_204 x s = some (r, w) ∧ KRw s w := by
  unfold gm_204
  rw [sp_150 M.2.1, Option.bind_some]
  by_cases h7 : s.1 216 2 = 7
  · rw [if_neg (fun q => (gbD s).mp q h7)]
    dsimp only
    rw [sp_148 s hx, Option.bind_some]
    by_cases a : 0 ≤ x ∧ x ≤ 2
    · rw [if_pos (fun q => (gbD s).mp q a)]
      dsimp only
      obtain ⟨g, rfl⟩ : ∃ g : Nat, x = g := ⟨x.toNat, by omega⟩
      obtain ⟨u, w, k1, k2, k3, k4, k5, k6, k7⟩ := sp_181f M h7 (show g < 3 by omega) S
      rw [k1, Option.bind_some, k2, Option.bind_some]
      obtain ⟨q, e⟩ := sl_204_32 (s := w) M h7 (show g < 3 by omega) (fun x hx => ⟨(k7 x hx).2.1, fun y hy => ((k7 x hx).2.2 y hy).1⟩) 100000 0 FP.dconst0 (by omega) (by omega) d_0
      have e : gm_204_32 100000 FP.dconst0 0 w = some (q, w) := e
      exact ⟨q, w, e, KR_w k4⟩
    · rw [if_neg (fun q => q ((gbD s).mpr a))]
      exact ⟨_, s, rfl, KRw_rf s⟩
  · rw [if_pos ((gbD s).mpr h7)]
    exact ⟨_, s, rfl, KRw_rf s⟩
theorem inv_offW {s : gx_S} (h : INV s) {x : Int} (hx : i32 x) : twW s (gm_109 x) (gm_204 x) := by
  obtain ⟨f, R, C, n, pf, L, tb, c, r, v⟩ := id h
  obtain ⟨a, u, h1, kc, cu⟩ := cls_off c v.1 hx
  have ru := RV_KC kc r
  have eu : u.1 216 = f := ru.1
  obtain ⟨b, w, h2, kw⟩ := ref_off (s := u) (R := R) (C := C) (by rw [eu]; exact v.1) ru.2.2.2.2 hx
  exact ⟨a, b, u, w, h1, h2, q_inv kc cu r v kw⟩
