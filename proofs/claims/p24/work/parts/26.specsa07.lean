/-! QUERIES: surface -/
theorem sl_197 {f : Nat → Int} {R C g : Nat} (M : MP f R C) (h7 : f 2 = 7) (hg : g < 3) : ∀ (n k : Nat) (t : gx_S), R * C < n + k → k ≤ R * C → t.1 216 = f → (∀ z, z < 8 → t.1 236 z = LV f R C g z) → ∃ u : gx_S, gm_197_7 n g k t = some u ∧ u.1 = t.1 ∧ (∀ a i, a ≠ 240 → a ≠ 241 → u.2 a i = t.2 a i) ∧ (∀ j, k ≤ j → j < R * C → u.2 240 j = tpv f R C g j ∧ u.2 241 j = unv f R C g j) ∧ ∀ j, j < k → u.2 240 j = t.2 240 j ∧ u.2 241 j = t.2 241 j := by
  intro n
  induction n with
  | zero => intro k t h; omega
  | succ n ih =>
    intro k t h hk ef hl
    have hRC := RC_96 M.1.2.2.1 M.1.2.2.2
    have M' : MP (t.1 216) R C := by rw [ef]; exact M
    have hm : t.1 216 0 * t.1 216 1 = ((R * C : Nat) : Int) := by rw [ef, M.1.1, M.1.2.1]; simp
    rw [gm_197_7, sp_151, hm, Option.bind_some]
    dsimp only
    rw [if_pos (by omega), if_pos (by omega)]
    by_cases q : k = R * C
    · rw [if_pos (by omega)]
      exact ⟨t, rfl, rfl, fun _ _ _ _ => rfl, fun j h1 h2 => absurd h2 (by omega), fun _ _ => ⟨rfl, rfl⟩⟩
    · have hkk : k < R * C := by omega
      have ce : ((k : Int) + 1) = ((k + 1 : Nat) : Int) := rfl
      have i5 : ((k : Int)).toNat = k := by omega
      have cs := co_s M h7 hkk
      have c52 := sp_152 (s := t) (R := R) (C := C) (MP_mz M') 0 k (by omega) hkk
      have c52 : gm_152 0 k t = some (t.1 216 (52 + 96 * 0 + 12 * (k / C) + k % C), t) := c52
      rw [ef, cs.1.1] at c52
      rw [if_neg (by omega), c52, Option.bind_some]
      dsimp only
      rw [if_pos (by omega), if_pos (by omega), i5]
      obtain ⟨t1, ht1⟩ : ∃ t1, t1 = gw2 (gw2 t 240 k 0) 241 k 1 := ⟨_, rfl⟩
      have e1 : t1.1 = t.1 := by rw [ht1]; rfl
      have et2 : ∀ a i, a ≠ 240 → a ≠ 241 → t1.2 a i = t.2 a i := fun a i h1 h2 => by rw [ht1, gw2_2, if_neg (fun x => h2 x.1), gw2_2, if_neg (fun x => h1 x.1)]
      have et3 : ∀ j, j ≠ k → t1.2 240 j = t.2 240 j ∧ t1.2 241 j = t.2 241 j := fun j h1 => by
        rw [ht1, gw2_2, if_neg (by omega), gw2_2, if_neg (by omega), gw2_2, if_neg (by omega), gw2_2, if_neg (by omega)]
        exact ⟨rfl, rfl⟩
      rw [← ht1]
      by_cases z : co f C 0 k = 8
      · rw [if_pos (by omega)]
        unfold gm_197_96
        rw [ce]
        obtain ⟨u, u1, u2, u3, u4, u5⟩ := ih (k + 1) t1 (by omega) (by omega) (by rw [e1]; exact ef) (fun z hz => by rw [e1]; exact hl z hz)
        refine ⟨u, u1, u2.trans e1, fun a i h1 h2 => (u3 a i h1 h2).trans (et2 a i h1 h2), fun j h1 h2 => ?_, fun j h1 => ?_⟩
        · by_cases p : j = k
          · obtain ⟨x1, x2⟩ := u5 j (by omega)
            rw [x1, x2, p, ht1, gw2_2, if_neg (by omega), gw2_2, if_pos ⟨rfl, rfl⟩, gw2_2, if_pos ⟨rfl, rfl⟩]
            unfold tpv unv
            rw [if_neg (by omega), if_neg (by omega)]
            exact ⟨rfl, rfl⟩
          · exact u4 j (by omega) h2
        · obtain ⟨x1, x2⟩ := u5 j (by omega)
          obtain ⟨y1, y2⟩ := et3 j (by omega)
          exact ⟨x1.trans y1, x2.trans y2⟩
      · have q8 : co f C 0 k < 8 := by omega
        have i6 : ((co f C 0 k : Int)).toNat = co f C 0 k := by omega
        have M1 : MP (t1.1 216) R C := by rw [e1, ef]; exact M
        have h1 : t1.1 216 2 = 7 := by rw [e1, ef]; exact h7
        have c180 := sp_180 M1 h1 hg (show co f C 0 k < 9 by omega)
        rw [e1, ef] at c180
        have lr := (LV_r M hg).1 (co f C 0 k) q8
        have ls := sg_at (LV_r M hg).1 (co f C 0 k) q8
        have ls2 := (GV_r M h7 hg).2.1
        rw [if_neg (by omega), c180, Option.bind_some]
        dsimp only
        rw [if_pos (by omega), i6, e1, hl _ q8, if_pos (by omega)]
        have tail : ∀ (w : Int) (b : Bool), 0 ≤ w → w ≤ 9 → gm_197_77 (gm_197_7 n) g k (co f C 0 k) (gb b) k (LV f R C g (co f C 0 k)) w t1 = gm_197_7 n g ((k + 1 : Nat) : Int) (gw2 (gw2 t1 240 k (LV f R C g (co f C 0 k) * w)) 241 k (SO f R C g (co f C 0 k) (-1) b)) := fun w b w0 w9 => by
          unfold gm_197_77
          rw [if_pos (by omega), if_pos (by omega), i5]
          have c := sp_157g (s := gw2 t1 240 k (LV f R C g (co f C 0 k) * w)) (R := R) (C := C) M1 h1 (co f C 0 k : Int) (-1) b hg (by omega) (by omega)
          have r := SO_r M h7 hg (co f C 0 k) (-1) b
          have c : gm_157 g (co f C 0 k) (-1) (gb b) (gw2 t1 240 k (LV f R C g (co f C 0 k) * w)) = some (SO (t1.1 216) R C g (co f C 0 k) (-1) b, gw2 t1 240 k (LV f R C g (co f C 0 k) * w)) := c
          rw [e1, ef] at c
          rw [c, Option.bind_some]
          dsimp only
          rw [if_pos (by omega), if_pos (by omega)]
          unfold gm_197_96
          rw [ce]
        have fin : ∀ (w : Int) (b : Bool), LV f R C g (co f C 0 k) * w = tpv f R C g k → SO f R C g (co f C 0 k) (-1) b = unv f R C g k → ∃ u : gx_S, gm_197_7 n g ((k + 1 : Nat) : Int) (gw2 (gw2 t1 240 k (LV f R C g (co f C 0 k) * w)) 241 k (SO f R C g (co f C 0 k) (-1) b)) = some u ∧ u.1 = t.1 ∧ (∀ a i, a ≠ 240 → a ≠ 241 → u.2 a i = t.2 a i) ∧ (∀ j, k ≤ j → j < R * C → u.2 240 j = tpv f R C g j ∧ u.2 241 j = unv f R C g j) ∧ ∀ j, j < k → u.2 240 j = t.2 240 j ∧ u.2 241 j = t.2 241 j := fun w b h1 h2 => by
          rw [h1, h2]
          obtain ⟨u, u1, u2, u3, u4, u5⟩ := ih (k + 1) (gw2 (gw2 t1 240 k (tpv f R C g k)) 241 k (unv f R C g k)) (by omega) (by omega) (by show t1.1 216 = f; rw [e1]; exact ef) (fun z hz => by show t1.1 236 z = _; rw [e1]; exact hl z hz)
          refine ⟨u, u1, u2.trans e1, fun a i h1 h2 => ?_, fun j h1 h2 => ?_, fun j h1 => ?_⟩
          · rw [u3 a i h1 h2, gw2_2, if_neg (fun x => h2 x.1), gw2_2, if_neg (fun x => h1 x.1)]
            exact et2 a i h1 h2
          · by_cases p : j = k
            · obtain ⟨x1, x2⟩ := u5 j (by omega)
              rw [x1, x2, p, gw2_2, if_neg (by omega), gw2_2, if_pos ⟨rfl, rfl⟩, gw2_2, if_pos ⟨rfl, rfl⟩]
              exact ⟨rfl, rfl⟩
            · exact u4 j (by omega) h2
          · obtain ⟨x1, x2⟩ := u5 j (by omega)
            obtain ⟨y1, y2⟩ := et3 j (by omega)
            rw [x1, x2, gw2_2, if_neg (by omega), gw2_2, if_neg (by omega), gw2_2, if_neg (by omega), gw2_2, if_neg (by omega)]
            exact ⟨y1, y2⟩
        by_cases y : SO f R C g (co f C 0 k) (-1) false = 0
        · rw [decide_eq_true y, if_neg (show ¬ gb true = 0 by decide), tail 1 true (by omega) (by omega)]
          refine fin 1 true ?_ ?_
          · unfold tpv
            rw [if_pos q8, if_pos y]
          · rw [unv_SO M h7 q8, decide_eq_true y]
        · have c156 := sp_156 (MP_mz M1) (MP_cok M1 h1) g k hg hkk
          have c156 : gm_156 g k t1 = some (t1.1 216 (32 + 4 * g + (t1.1 216 (52 + 96 * 2 + 12 * (k / C) + k % C)).toNat), t1) := c156
          rw [e1, ef] at c156
          have c156 : gm_156 g k t1 = some (wt f C g k, t1) := c156
          have wb := wt_b M h7 hg hkk
          rw [decide_eq_false y, if_pos (show gb false = 0 by decide), c156, Option.bind_some]
          dsimp only
          rw [tail (wt f C g k) false wb.1 wb.2]
          refine fin (wt f C g k) false ?_ ?_
          · unfold tpv
            rw [if_pos q8, if_neg y]
          · rw [unv_SO M h7 q8, decide_eq_false y]
theorem KRw_of3 {s u : gx_S} (h1 : u.1 = s.1) (h2 : ∀ k j, k ≠ 240 → k ≠ 241 → u.2 k j = s.2 k j) : KRw s u := ⟨fun k j _ => by rw [h1], fun k j q => h2 k j (by omega) (by omega), fun S => ⟨fun j hj => by rw [h1, h2 225 j (by decide) (by decide)]; exact S.1 j hj, fun c hc => by rw [h1, h2 229 c (by decide) (by decide), h2 230 c (by decide) (by decide), h2 227 c (by decide) (by decide), h2 228 c (by decide) (by decide)]; exact S.2.1 c hc, fun k hk => by rw [h2 231 k (by decide) (by decide)]; exact S.2.2 k hk⟩⟩
theorem sp_197 {s : gx_S} {R C g : Nat} (M : MP (s.1 216) R C) (h7 : s.1 216 2 = 7) (hg : g < 3) : ∃ u : gx_S, gm_197 g s = some u ∧ KRw s u ∧ ∀ k, k < R * C → u.2 240 k = tpv (s.1 216) R C g k ∧ u.2 241 k = unv (s.1 216) R C g k := by
  obtain ⟨t, t1, t2, t3⟩ := sp_177 (g := g) M hg
  have hRC := RC_96 M.1.2.2.1 M.1.2.2.2
  obtain ⟨u, u1, u2, u3, u4, u5⟩ := sl_197 M h7 hg 100000 0 t (by omega) (by omega) (KR_216 t3) t2
  have u1 : gm_197_7 100000 g 0 t = some u := u1
  refine ⟨u, ?_, KRw_tr (KR_w t3) (KRw_of3 u2 u3), fun k hk => u4 k (by omega) hk⟩
  unfold gm_197
  rw [t1, Option.bind_some, u1]
theorem inv_surface {s : gx_S} (h : INV s) {x y z w : Int} (hx : i32 x) (hy : i32 y) (hz : i32 z) (hw : i32 w) : two s (gm_106 x y z w) (gm_199 x y z w) := by
  obtain ⟨f, R, C, n, pf, L, tb, c, r, v⟩ := id h
  have hx' := hx
  have hw' := hw
  unfold i32 at hx' hw'
  have e6 : s.1 1 6 = f 2 := c.1.2.2.1
  have c57 := sp_57 (s := s) (a := 1) (by decide +kernel) (by rw [e6]; exact v.1.2.1)
  rw [e6] at c57
  have c59 := sp_59 c.1 v.1 hy hz
  have c148 : ∀ t : gx_S, gm_148 x t = _ := fun t => sp_148 t hx
  have c150 : ∀ t : gx_S, t.1 216 = f → gm_150 t = some (decide (f 2 = 7), t) := fun t et => by
    have := sp_150 (s := t) (by rw [et]; exact v.1.2.1)
    rw [et] at this
    exact this
  have s1 : gm_106 x y z w s = if (0 ≤ x ∧ x < 3) ∧ f 2 = 7 ∧ (0 ≤ y ∧ y < R ∧ 0 ≤ z ∧ z < C) ∧ (0 ≤ w ∧ w ≤ 1) then ((some (fx_rf 70 (x).toNat)).bind fun v39 => (gm_19 v39 2 s).bind fun q44 => (gm_27 v39 ((y * (q44.1 1 5)) + z) q44).bind fun q46 => if (-2147483648 ≤ q46.1 ∧ q46.1 ≤ 2147483647) then ((gm_28 v39 ((y * (q44.1 1 5)) + z) q46.2).bind fun q49 => if (-2147483648 ≤ q49.1 ∧ q49.1 ≤ 2147483647) then ((gm_127 q46.1 q49.1 w q49.2).bind fun q52 => some (q52.1, q52.2)) else none) else none) else some (-1, s) := by
    unfold gm_106
    rw [sp_114 s hx, Option.bind_some]
    by_cases a : 0 ≤ x ∧ x < 3
    · rw [if_neg (fun q => (gbD s).mp q a)]
      show ((gm_57 1 s).bind _) = _
      rw [c57, Option.bind_some]
      by_cases b : f 2 = 7
      · rw [if_neg (fun q => (gbD s).mp q b)]
        show ((gm_59 1 y z s).bind _) = _
        rw [c59, Option.bind_some]
        by_cases d : 0 ≤ y ∧ y < R ∧ 0 ≤ z ∧ z < C
        · rw [if_neg (fun q => (gbD s).mp q d), if_pos hw']
          by_cases e : w < 0
          · rw [if_pos e, if_neg (fun t : (0 ≤ x ∧ x < 3) ∧ f 2 = 7 ∧ (0 ≤ y ∧ y < R ∧ 0 ≤ z ∧ z < C) ∧ (0 ≤ w ∧ w ≤ 1) => by have := t.2.2.2; omega)]
            rfl
          · rw [if_neg e]
            by_cases e2 : w ≤ 1
            · rw [if_pos e2, if_pos a, if_pos (show (0 ≤ x ∧ x < 3) ∧ f 2 = 7 ∧ (0 ≤ y ∧ y < R ∧ 0 ≤ z ∧ z < C) ∧ (0 ≤ w ∧ w ≤ 1) from ⟨a, b, d, by omega⟩)]
            · rw [if_neg e2, if_neg (fun t : (0 ≤ x ∧ x < 3) ∧ f 2 = 7 ∧ (0 ≤ y ∧ y < R ∧ 0 ≤ z ∧ z < C) ∧ (0 ≤ w ∧ w ≤ 1) => e2 t.2.2.2.2)]
              rfl
        · rw [if_pos ((gbD s).mpr d), if_neg (fun t : (0 ≤ x ∧ x < 3) ∧ f 2 = 7 ∧ (0 ≤ y ∧ y < R ∧ 0 ≤ z ∧ z < C) ∧ (0 ≤ w ∧ w ≤ 1) => d t.2.2.1)]
          rfl
      · rw [if_pos ((gbD s).mpr b), if_neg (fun t : (0 ≤ x ∧ x < 3) ∧ f 2 = 7 ∧ (0 ≤ y ∧ y < R ∧ 0 ≤ z ∧ z < C) ∧ (0 ≤ w ∧ w ≤ 1) => b t.2.1)]
        rfl
    · rw [if_pos ((gbD s).mpr a), if_neg (fun t : (0 ≤ x ∧ x < 3) ∧ f 2 = 7 ∧ (0 ≤ y ∧ y < R ∧ 0 ≤ z ∧ z < C) ∧ (0 ≤ w ∧ w ≤ 1) => a t.1)]
      rfl
  have s2 : ∀ t : gx_S, t.1 216 = f → gm_199 x y z w t = if (0 ≤ x ∧ x < 3) ∧ f 2 = 7 ∧ (0 ≤ y ∧ y < R ∧ 0 ≤ z ∧ z < C) ∧ (0 ≤ w ∧ w ≤ 1) then ((gm_197 x t).bind fun q39 => if 0 ≤ (((q39.1 216 1) * y) + z) ∧ (((q39.1 216 1) * y) + z) < 96 then ((gm_194 (q39.2 240 ((((q39.1 216 1) * y) + z)).toNat) (q39.2 241 ((((q39.1 216 1) * y) + z)).toNat) w q39).bind fun q48 => some (q48.1, q48.2)) else none) else some (-1, t) := fun t et => by
    unfold gm_199
    rw [c150 t et, Option.bind_some]
    by_cases b : f 2 = 7
    · rw [if_neg (fun q => (gbD t).mp q b)]
      show ((gm_148 x t).bind _) = _
      rw [c148 t, Option.bind_some]
      by_cases a : 0 ≤ x ∧ x ≤ 2
      · rw [if_neg (fun q => (gbD t).mp q a)]
        show ((gm_198 y z t).bind _) = _
        rw [sp_198 et v.1 hy hz, Option.bind_some]
        by_cases d : 0 ≤ y ∧ y < R ∧ 0 ≤ z ∧ z < C
        · rw [if_neg (fun q => (gbD t).mp q d), if_pos hw']
          show ((gm_130 w 0 1 t).bind _) = _
          rw [in_ t hw (by omega) (by omega), Option.bind_some]
          by_cases e : 0 ≤ w ∧ w ≤ 1
          · rw [if_pos (fun q => (gbD t).mp q e), if_pos (show (0 ≤ x ∧ x < 3) ∧ f 2 = 7 ∧ (0 ≤ y ∧ y < R ∧ 0 ≤ z ∧ z < C) ∧ (0 ≤ w ∧ w ≤ 1) from ⟨by omega, b, d, e⟩)]
          · rw [if_neg (fun q => q ((gbD t).mpr e)), if_neg (fun t : (0 ≤ x ∧ x < 3) ∧ f 2 = 7 ∧ (0 ≤ y ∧ y < R ∧ 0 ≤ z ∧ z < C) ∧ (0 ≤ w ∧ w ≤ 1) => e t.2.2.2)]
            rfl
        · rw [if_pos ((gbD t).mpr d), if_neg (fun t : (0 ≤ x ∧ x < 3) ∧ f 2 = 7 ∧ (0 ≤ y ∧ y < R ∧ 0 ≤ z ∧ z < C) ∧ (0 ≤ w ∧ w ≤ 1) => d t.2.2.1)]
          rfl
      · rw [if_pos ((gbD t).mpr a), if_neg (fun t : (0 ≤ x ∧ x < 3) ∧ f 2 = 7 ∧ (0 ≤ y ∧ y < R ∧ 0 ≤ z ∧ z < C) ∧ (0 ≤ w ∧ w ≤ 1) => a (by have := t.1; omega))]
        rfl
    · rw [if_pos ((gbD t).mpr b), if_neg (fun t : (0 ≤ x ∧ x < 3) ∧ f 2 = 7 ∧ (0 ≤ y ∧ y < R ∧ 0 ≤ z ∧ z < C) ∧ (0 ≤ w ∧ w ≤ 1) => b t.2.1)]
      rfl
  by_cases ok : (0 ≤ x ∧ x < 3) ∧ f 2 = 7 ∧ (0 ≤ y ∧ y < R ∧ 0 ≤ z ∧ z < C) ∧ (0 ≤ w ∧ w ≤ 1)
  · rw [if_pos ok] at s1
    obtain ⟨a, h7, d, e⟩ := id ok
    obtain ⟨g, rfl⟩ : ∃ g : Nat, x = g := ⟨x.toNat, by omega⟩
    obtain ⟨y, rfl⟩ : ∃ y' : Nat, y = y' := ⟨y.toNat, by omega⟩
    obtain ⟨z, rfl⟩ : ∃ z' : Nat, z = z' := ⟨z.toNat, by omega⟩
    have hg : g < 3 := by omega
    have hk : y * C + z < R * C := by
      have := Nat.mul_le_mul_right C (show y + 1 ≤ R by omega)
      rw [Nat.add_mul] at this
      omega
    obtain ⟨D, u, u1, u2, u3, u4, u5, u6⟩ := CV_ready (w := 2) (by omega) v.1 h7 hg c
    have u1 : gm_19 (71 + 48 * g) 2 s = some u := u1
    have tm := u4.2.2.2.2.1 u5
    have kc : KC s u := KG_KC (ga_of hg) u3
    have ru := RV_KC kc r
    have eu : u.1 216 = f := ru.1
    have e5 : u.1 1 5 = C := u2.1.2.1.trans v.1.1.2.1
    obtain ⟨t27, t28⟩ := sp_27 (k := y * C + z) u2.1 v.1 h7 hg (ga_of hg).2.2.1 u4.2.2.1 (u4.2.2.2.1 tm.1).1 tm.2 hk
    have ei : (y : Int) * (C : Int) + (z : Int) = ((y * C + z : Nat) : Int) := by rw [Int.natCast_add, Int.natCast_mul]
    have ei2 : (C : Int) * (y : Int) + (z : Int) = ((y * C + z : Nat) : Int) := by rw [Int.natCast_add, Int.natCast_mul, Int.mul_comm]
    obtain ⟨⟨p0, p1⟩, q0, q1⟩ := tpv_r v.1 h7 hg hk
    have up := unv_p v.1 h7 hg hk
    have hRC := RC_96 v.1.1.2.2.1 v.1.1.2.2.2
    have Mu : MP (u.1 216) R C := by rw [eu]; exact v.1
    obtain ⟨t, t1, t2, t3⟩ := sp_197 Mu (by rw [eu]; exact h7) hg
    have t3 := t3 (y * C + z) hk
    rw [eu] at t3
    have s2 := s2 u eu
    rw [if_pos ok, t1, Option.bind_some, KRw_216 t2, eu, v.1.1.2.1, ei2] at s2
    rw [Option.bind_some, vg_ g hg, u1, Option.bind_some, e5, ei, t27, Option.bind_some] at s1
    dsimp only at s1
    obtain ⟨k, hk'⟩ : ∃ k, k = y * C + z := ⟨_, rfl⟩
    rw [← hk'] at s1 s2 t28 t3 p0 p1 q0 q1 up hk
    have i5 : ((k : Int)).toNat = k := by omega
    obtain ⟨p, hp⟩ : ∃ p : Nat, tpv f R C g k = p := ⟨_, (Int.toNat_of_nonneg p0).symm⟩
    obtain ⟨b, hb⟩ : ∃ b : Nat, unv f R C g k = b := ⟨_, (Int.toNat_of_nonneg q0).symm⟩
    rw [hp] at s1 p0 p1
    rw [hb] at t28 q0 q1 up
    rw [hp, hb] at t3
    rw [if_pos (by omega), t28, Option.bind_some] at s1
    dsimp only at s1
    rw [if_pos (by omega), sp_127 u (by omega) (by omega) (by omega) hw, Option.bind_some] at s1
    rw [if_pos (by omega), i5, t3.1, t3.2, sp_194 t (by omega) (by omega) (by omega) hw, Option.bind_some] at s2
    exact ⟨_, u, t, s1, s2, q_inv kc u2 r v t2⟩
  · rw [if_neg ok] at s1
    exact ⟨-1, s, s, s1, (s2 s r.1).trans (if_neg ok), h⟩
