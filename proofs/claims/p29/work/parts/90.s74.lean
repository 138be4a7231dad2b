/-! TEXTS of counts: the reference's whole reading -/
def CR (s u : gx_S) : Prop := u.2 = s.2 ∧ ∀ k j, k ≠ 220 → ¬ (k = 215 ∧ (j = 5 ∨ j = 6 ∨ j = 11)) → u.1 k j = s.1 k j
theorem CR_tr {s t u : gx_S} (a : CR s t) (b : CR t u) : CR s u := ⟨b.1.trans a.1, fun k j h1 h2 => (b.2 k j h1 h2).trans (a.2 k j h1 h2)⟩
theorem CR_TF {s u : gx_S} {L : Nat} {tb : Nat → Int} (a : CR s u) (T : TF s L tb) : TF u L tb := TF_o (a.2 _ _ (by omega) (by omega)) (fun i => a.2 _ _ (by omega) (by omega)) T
theorem CR_1 (s : gx_S) {j : Nat} (x : Int) (h : j = 5 ∨ j = 6 ∨ j = 11) : CR s (gw1 s 215 j x) := ⟨rfl, fun k i q1 q2 => by rw [gw1_1, if_neg (by omega)]⟩
theorem fp_236 (s : gx_S) {x v : Int} (h : 0 ≤ x ∧ x < 9) : ∃ u : gx_S, gm_146_236 x v s = some u ∧ CR s u ∧ u.1 215 6 = s.1 215 6 ∧ u.1 215 5 = s.1 215 5 ∧ u.1 215 11 = bset (s.1 215 11) x ∧ ∀ j, u.1 220 j = uph (s.1 220) x v j := by
  refine ⟨gw1 (gw1 s 220 x.toNat v) 215 11 (bset (s.1 215 11) x), ?_, ⟨rfl, fun k i q1 q2 => by rw [gw1_1, if_neg (by omega), gw1_1, if_neg (by omega)]⟩, by rw [gw1_1, if_neg (by omega), gw1_1, if_neg (by omega)], by rw [gw1_1, if_neg (by omega), gw1_1, if_neg (by omega)], by rw [gw1_1, if_pos ⟨rfl, rfl⟩], fun j => ?_⟩
  · unfold gm_146_236 bset
    rw [if_pos h]
    have e : (gw1 s 220 x.toNat v).1 215 11 = s.1 215 11 := by rw [gw1_1, if_neg (by omega)]
    rw [e]
  · unfold uph
    rw [gw1_1, if_neg (by omega), gw1_1]
    by_cases z : j = x.toNat
    · rw [if_pos ⟨rfl, z⟩, if_pos z]
    · rw [if_neg (fun t => z t.2), if_neg z]
theorem fp_222 (s : gx_S) {x b v : Int} (h : 0 ≤ x ∧ x < 9) (hv : i32 v) (h6 : i32 (s.1 215 6)) (h7 : ¬ s.1 215 6 = -1) : ∃ u : gx_S, gm_146_222 x b v s = some u ∧ CR s u ∧ u.1 215 6 = s.1 215 6 := by
  have hv' := hv
  unfold i32 at hv'
  unfold gm_146_222
  obtain ⟨u, u1, u2, u3, _⟩ := fp_236 s (v := v) h
  rw [if_pos hv', sp_139 h6, if_neg h7, Option.bind_some, u1]
  exact ⟨u, by split <;> rfl, u2, u3⟩
theorem fp_161 (s : gx_S) {x b : Int} (h : 0 ≤ x ∧ x < 9) (h6 : i32 (s.1 215 6)) (h7 : ¬ s.1 215 6 = -1) : ∃ u : gx_S, gm_146_161 x b s = some u ∧ CR s u ∧ u.1 215 6 = s.1 215 6 := by
  have e : gm_146_161 x b s = gm_146_222 x b 0 s := by
    unfold gm_146_161
    rw [gm_146_164, sp_138 h6, Option.bind_some, if_pos ((gbD s).mpr h7)]
  rw [e]
  exact fp_222 s h (by unfold i32; omega) h6 h7
theorem fp_113 (s : gx_S) {x : Int} (h : 0 ≤ x ∧ x < 9) (h6 : i32 (s.1 215 6)) (h7 : ¬ s.1 215 6 = -1) : ∃ u : gx_S, gm_146_113 x s = some u ∧ CR s u ∧ u.1 215 6 = s.1 215 6 := by
  obtain ⟨t, ht⟩ : ∃ t, t = gw1 s 215 5 ((s.1 215 5) + 1) := ⟨_, rfl⟩
  have t6 : t.1 215 6 = s.1 215 6 := by rw [ht, gw1_1, if_neg (by omega)]
  obtain ⟨u, u1, u2, u3⟩ := fp_161 t (b := t.1 215 5) h (by rw [t6]; exact h6) (by rw [t6]; exact h7)
  unfold gm_146_113
  rw [← ht, sp_138 (by rw [t6]; exact h6), Option.bind_some, if_pos ((gbD s).mpr (by rw [t6]; exact h7))]
  exact ⟨u, u1, CR_tr (by rw [ht]; exact CR_1 s _ (by omega)) u2, u3.trans t6⟩
theorem fp_78 (s : gx_S) {x : Int} (h : 0 ≤ x ∧ x < 9) (h6 : i32 (s.1 215 6)) (h7 : ¬ s.1 215 6 = -1) : ∃ u : gx_S, gm_146_78 x s = some u ∧ CR s u ∧ u.1 215 6 = s.1 215 6 := by
  obtain ⟨t, ht⟩ : ∃ t, t = gw1 s 215 5 ((s.1 215 5) + 1) := ⟨_, rfl⟩
  have t6 : t.1 215 6 = s.1 215 6 := by rw [ht, gw1_1, if_neg (by omega)]
  obtain ⟨u, u1, u2, u3⟩ := fp_113 t h (by rw [t6]; exact h6) (by rw [t6]; exact h7)
  unfold gm_146_78
  rw [← ht, sp_138 (by rw [t6]; exact h6), Option.bind_some, if_pos ((gbD s).mpr (by rw [t6]; exact h7))]
  exact ⟨u, u1, CR_tr (by rw [ht]; exact CR_1 s _ (by omega)) u2, u3.trans t6⟩
theorem sp_146 {L p : Nat} {tb : Nat → Int} {T : Int} {s : gx_S} (hT : TF s L tb) (hp : p ≤ L) (e5 : s.1 215 5 = p) (e6 : s.1 215 6 = -1) (e11 : s.1 215 11 = T) : ∃ u : gx_S, gm_146 s = some u ∧ CR s u ∧ u.1 215 6 = prt tb L T p ∧ (prt tb L T p = -1 → u.1 215 5 = (pe tb L p : Int) ∧ u.1 215 11 = bset T (sl (sgn tb L p)) ∧ ∀ j, u.1 220 j = uph (s.1 220) (sl (sgn tb L p)) (pv tb L p) j) := by
  have hL := hT.1
  have sr := sgn_rf hT
  have s0 := sr p
  have r0 := sl_r (sgn tb L p)
  have br := i32r ((Int32.ofInt (((Int32.ofInt T >>> (Int32.ofInt (sl (sgn tb L p)) &&& 31))).toInt) &&& Int32.ofInt 1))
  have br : -2147483648 ≤ bq T (sl (sgn tb L p)) ∧ bq T (sl (sgn tb L p)) ≤ 2147483647 := br
  have g1 : gm_146 s = gm_146_47 p (sl (sgn tb L p)) s := by
    unfold gm_146
    rw [sp_137 hT (by omega) e5, Option.bind_some]
    show (if -2147483648 ≤ sgn tb L p ∧ sgn tb L p ≤ 2147483647 then (if ¬ sgn tb L p = 63 then ((gm_137 s).bind _) else gm_146_47 (s.1 215 5) 8 s) else none) = _
    rw [if_pos (by omega), sp_137 hT (by omega) e5, Option.bind_some]
    show (if ¬ sgn tb L p = 63 then (if -2147483648 ≤ sgn tb L p ∧ sgn tb L p ≤ 2147483647 then ((gm_130 (sgn tb L p) 97 104 s).bind fun q68 => if (gb q68.1) = 0 then gm_146_47 (s.1 215 5) (-1) q68.2 else ((gm_137 q68.2).bind fun q71 => gm_146_47 (s.1 215 5) (q71.1 - 97) q71.2)) else none) else gm_146_47 (s.1 215 5) 8 s) = _
    rw [if_pos (show -2147483648 ≤ sgn tb L p ∧ sgn tb L p ≤ 2147483647 by omega), in_ s (by unfold i32; omega) (by omega) (by omega), Option.bind_some, e5]
    show (if ¬ sgn tb L p = 63 then (if (gb (decide (97 ≤ sgn tb L p ∧ sgn tb L p ≤ 104))) = 0 then gm_146_47 p (-1) s else ((gm_137 s).bind fun q71 => gm_146_47 p (q71.1 - 97) q71.2)) else gm_146_47 p 8 s) = _
    rw [sp_137 hT (by omega) e5, Option.bind_some]
    unfold sl
    by_cases a : sgn tb L p = 63
    · rw [if_neg (fun t => t a), if_pos a]
    · rw [if_pos a, if_neg a]
      by_cases b : 97 ≤ sgn tb L p ∧ sgn tb L p ≤ 104
      · rw [if_neg (fun t => (gbD s).mp t b), if_pos b]
      · rw [if_pos ((gbD s).mpr b), if_neg b]
  rw [g1]
  unfold gm_146_47 prt
  rw [if_pos (by omega)]
  by_cases a : sl (sgn tb L p) = -1
  · rw [if_neg (fun t => t a), sp_139 (by rw [e6]; unfold i32; omega), if_pos e6, Option.bind_some, if_pos a]
    exact ⟨_, rfl, CR_1 s _ (by omega), by rw [gw1_1, if_pos ⟨rfl, rfl⟩], fun h => by omega⟩
  · rw [if_pos a, if_neg a, e11]
    show ∃ u : gx_S, (if (-2147483648 ≤ bq T (sl (sgn tb L p)) ∧ bq T (sl (sgn tb L p)) ≤ 2147483647) then (if ¬ bq T (sl (sgn tb L p)) = 1 then (gm_146_78 (sl (sgn tb L p)) s) else ((gm_139 3 p s).bind fun q6 => gm_146_78 (sl (sgn tb L p)) q6)) else none) = _ ∧ _
    rw [if_pos br]
    by_cases b : bq T (sl (sgn tb L p)) = 1
    · rw [if_neg (fun t => t b), sp_139 (by rw [e6]; unfold i32; omega), if_pos e6, Option.bind_some, if_pos b]
      have t6 : (gw1 s 215 6 (8 * (p : Int) + 3)).1 215 6 = 8 * (p : Int) + 3 := by rw [gw1_1, if_pos ⟨rfl, rfl⟩]
      obtain ⟨u, u1, u2, u3⟩ := fp_78 (gw1 s 215 6 (8 * (p : Int) + 3)) (x := sl (sgn tb L p)) (by omega) (by rw [t6]; unfold i32; omega) (by rw [t6]; omega)
      exact ⟨u, u1, CR_tr (CR_1 s _ (by omega)) u2, u3.trans t6, fun h => by omega⟩
    · rw [if_pos b, if_neg b]
      obtain ⟨t, ht⟩ : ∃ t, t = gw1 s 215 5 ((p + 1 : Nat) : Int) := ⟨_, rfl⟩
      have tC : CR s t := by rw [ht]; exact CR_1 s _ (by omega)
      have tT := CR_TF tC hT
      have t5 : t.1 215 5 = ((p + 1 : Nat) : Int) := by rw [ht, gw1_1, if_pos ⟨rfl, rfl⟩]
      have t6 : t.1 215 6 = -1 := by rw [ht, gw1_1, if_neg (by omega)]; exact e6
      have s1 := sr (p + 1)
      have g2 : gm_146_78 (sl (sgn tb L p)) s = if sgn tb L (p + 1) = 61 then gm_146_113 (sl (sgn tb L p)) t else gm_146_113 (sl (sgn tb L p)) (gw1 t 215 6 (8 * ((p + 1 : Nat) : Int) + 1)) := by
        have et : gw1 s 215 5 ((s.1 215 5) + 1) = t := by rw [e5, ht]; rfl
        unfold gm_146_78
        rw [et, sp_138 (by rw [t6]; unfold i32; omega), Option.bind_some, if_neg (fun q => (gbD s).mp q t6)]
        show ((gm_137 t).bind _) = _
        rw [sp_137 tT (by omega) t5, Option.bind_some]
        show (if -2147483648 ≤ sgn tb L (p + 1) ∧ sgn tb L (p + 1) ≤ 2147483647 then (if sgn tb L (p + 1) = 61 then gm_146_113 (sl (sgn tb L p)) t else ((gm_139 1 (t.1 215 5) t).bind fun q9 => gm_146_113 (sl (sgn tb L p)) q9)) else none) = _
        rw [if_pos (by omega), sp_139 (by rw [t6]; unfold i32; omega), if_pos t6, Option.bind_some, t5]
      rw [g2]
      by_cases c : sgn tb L (p + 1) = 61
      · rw [if_pos c, if_neg (show ¬ ¬ sgn tb L (p + 1) = 61 from fun q => q c)]
        obtain ⟨w, hw⟩ : ∃ w, w = gw1 t 215 5 ((p + 2 : Nat) : Int) := ⟨_, rfl⟩
        have wC : CR t w := by rw [hw]; exact CR_1 t _ (by omega)
        have wT := CR_TF wC tT
        have w5 : w.1 215 5 = ((p + 2 : Nat) : Int) := by rw [hw, gw1_1, if_pos ⟨rfl, rfl⟩]
        have wo : ∀ k j, ¬ (k = 215 ∧ j = 5) → w.1 k j = s.1 k j := fun k j q => by rw [hw, gw1_1, if_neg q, ht, gw1_1, if_neg q]
        have w6 : w.1 215 6 = -1 := by rw [wo _ _ (by omega)]; exact e6
        have s2 := sr (p + 2)
        have g3 : gm_146_113 (sl (sgn tb L p)) t = if 48 ≤ sgn tb L (p + 2) ∧ sgn tb L (p + 2) ≤ 57 then gm_146_161 (sl (sgn tb L p)) ((p + 2 : Nat) : Int) w else gm_146_161 (sl (sgn tb L p)) ((p + 2 : Nat) : Int) (gw1 w 215 6 (8 * ((p + 2 : Nat) : Int) + 1)) := by
          have et : gw1 t 215 5 ((t.1 215 5) + 1) = w := by rw [t5, hw]; rfl
          unfold gm_146_113
          rw [et, sp_138 (by rw [w6]; unfold i32; omega), Option.bind_some, if_neg (fun q => (gbD s).mp q w6)]
          show ((gm_137 w).bind _) = _
          rw [sp_137 wT (by omega) w5, Option.bind_some]
          show (if -2147483648 ≤ sgn tb L (p + 2) ∧ sgn tb L (p + 2) ≤ 2147483647 then ((gm_130 (sgn tb L (p + 2)) 48 57 w).bind fun q8 => if ¬ (gb q8.1) = 0 then gm_146_161 (sl (sgn tb L p)) (w.1 215 5) q8.2 else ((gm_139 1 (q8.2.1 215 5) q8.2).bind fun q11 => gm_146_161 (sl (sgn tb L p)) (w.1 215 5) q11)) else none) = _
          rw [if_pos (by omega), in_ w (by unfold i32; omega) (by omega) (by omega), Option.bind_some]
          show (if ¬ (gb (decide (48 ≤ sgn tb L (p + 2) ∧ sgn tb L (p + 2) ≤ 57))) = 0 then gm_146_161 (sl (sgn tb L p)) (w.1 215 5) w else ((gm_139 1 (w.1 215 5) w).bind fun q11 => gm_146_161 (sl (sgn tb L p)) (w.1 215 5) q11)) = _
          rw [sp_139 (by rw [w6]; unfold i32; omega), if_pos w6, Option.bind_some, w5]
          by_cases d : 48 ≤ sgn tb L (p + 2) ∧ sgn tb L (p + 2) ≤ 57
          · rw [if_pos (fun q => (gbD w).mp q d), if_pos d]
          · rw [if_neg (fun q => q ((gbD w).mpr d)), if_neg d]
        rw [g3]
        by_cases d : 48 ≤ sgn tb L (p + 2) ∧ sgn tb L (p + 2) ≤ 57
        · rw [if_pos d, if_neg (show ¬ ¬ (48 ≤ sgn tb L (p + 2) ∧ sgn tb L (p + 2) ≤ 57) from fun q => q d)]
          have hp2 : p + 2 ≤ L := Nat.le_of_not_lt fun h => by
            have : sgn tb L (p + 2) = -1 := if_neg (by omega)
            omega
          obtain ⟨⟨n1, n2⟩, n3, n4, n5⟩ := nmr (fun q => (sr q).1) 200 0 (p + 2) (by omega) (by omega) hp2
          obtain ⟨u, u1, u2, u3, u4⟩ := sl_146 (sl := sl (sgn tb L p)) (b := ((p + 2 : Nat) : Int)) 200 (p + 2) 100000 0 w (by omega) hp2 (by omega) (by omega) (by omega) wT w5 w6
          have u1 : gm_146_161 (sl (sgn tb L p)) ((p + 2 : Nat) : Int) w = _ := u1
          have u6 : u.1 215 6 = -1 := by rw [u4 _ _ (by omega)]; exact w6
          have uC : CR s u := CR_tr tC (CR_tr wC ⟨u3, fun k j q1 q2 => u4 k j (by omega)⟩)
          rw [u1]
          unfold gm_146_222
          rw [if_pos (by omega), sp_139 (by rw [u6]; unfold i32; omega), if_pos u6, Option.bind_some]
          by_cases e : 9999 < (nm tb L 200 0 (p + 2)).1
          · obtain ⟨v, v1, v2, v3, _⟩ := fp_236 (gw1 u 215 6 (8 * ((p + 2 : Nat) : Int) + 2)) (x := sl (sgn tb L p)) (v := (nm tb L 200 0 (p + 2)).1) (by omega)
            rw [if_neg (show ¬ (nm tb L 200 0 (p + 2)).1 ≤ 9999 by omega), v1, if_pos e]
            exact ⟨v, rfl, CR_tr uC (CR_tr (CR_1 u _ (by omega)) v2), by rw [v3, gw1_1, if_pos ⟨rfl, rfl⟩], fun h => by omega⟩
          · obtain ⟨v, v1, v2, v3, v4, v5, v6⟩ := fp_236 u (x := sl (sgn tb L p)) (v := (nm tb L 200 0 (p + 2)).1) (by omega)
            rw [if_pos (show (nm tb L 200 0 (p + 2)).1 ≤ 9999 by omega), v1, if_neg e]
            refine ⟨v, rfl, CR_tr uC v2, v3.trans u6, fun _ => ⟨v4.trans u2, ?_, fun j => ?_⟩⟩
            · rw [v5, u4 _ _ (by omega), wo _ _ (by omega), e11]
            · rw [v6]
              refine uph_c ?_ _ _
              rw [u4 _ _ (by omega), wo _ _ (by omega)]
        · rw [if_neg d, if_pos (show ¬ (48 ≤ sgn tb L (p + 2) ∧ sgn tb L (p + 2) ≤ 57) from d)]
          have x6 : (gw1 w 215 6 (8 * ((p + 2 : Nat) : Int) + 1)).1 215 6 = 8 * ((p + 2 : Nat) : Int) + 1 := by rw [gw1_1, if_pos ⟨rfl, rfl⟩]
          obtain ⟨u, u1, u2, u3⟩ := fp_161 (gw1 w 215 6 (8 * ((p + 2 : Nat) : Int) + 1)) (x := sl (sgn tb L p)) (b := ((p + 2 : Nat) : Int)) (by omega) (by rw [x6]; unfold i32; omega) (by rw [x6]; omega)
          exact ⟨u, u1, CR_tr tC (CR_tr wC (CR_tr (CR_1 w _ (by omega)) u2)), u3.trans x6, fun h => by omega⟩
      · rw [if_neg c, if_pos (show ¬ sgn tb L (p + 1) = 61 from c)]
        have x6 : (gw1 t 215 6 (8 * ((p + 1 : Nat) : Int) + 1)).1 215 6 = 8 * ((p + 1 : Nat) : Int) + 1 := by rw [gw1_1, if_pos ⟨rfl, rfl⟩]
        obtain ⟨u, u1, u2, u3⟩ := fp_113 (gw1 t 215 6 (8 * ((p + 1 : Nat) : Int) + 1)) (x := sl (sgn tb L p)) (by omega) (by rw [x6]; unfold i32; omega) (by rw [x6]; omega)
        exact ⟨u, u1, CR_tr tC (CR_tr (CR_1 t _ (by omega)) u2), u3.trans x6, fun h => by omega⟩
