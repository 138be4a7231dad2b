/-! QUERIES: byWay, whole -/
theorem KRw_of2 {s u : gx_S} (h1 : ∀ k j, k ≠ 222 → k ≠ 223 → u.1 k j = s.1 k j) (h2 : ∀ k j, k ≠ 221 → u.2 k j = s.2 k j) : KRw s u := ⟨fun k j q => h1 k j (by omega) (by omega), fun k j q => h2 k j (by omega), fun S => ⟨fun j hj => by rw [h1 232 j (by decide) (by decide), h1 233 j (by decide) (by decide), h1 234 j (by decide) (by decide), h2 225 j (by decide)]; exact S.1 j hj, fun c hc => by rw [h1 235 c (by decide) (by decide), h2 229 c (by decide), h2 230 c (by decide), h2 227 c (by decide), h2 228 c (by decide)]; exact S.2.1 c hc, fun k hk => by rw [h2 231 k (by decide)]; exact S.2.2 k hk⟩⟩
theorem sg_48 (F : Nat → Int) (h : ∀ x, 4 ≤ x → x < 8 → F x = 0) : sg F 8 = sg F 4 := by
  have e : sg F 8 = sg F 4 + F 4 + F 5 + F 6 + F 7 := rfl
  rw [e, h 4 (by omega) (by omega), h 5 (by omega) (by omega), h 6 (by omega) (by omega), h 7 (by omega) (by omega)]
  omega
theorem inv_byWay {s : gx_S} (h : INV s) {x z : Int} (hx : i32 x) (hz : i32 z) : two s (gm_103 x z) (gm_189 x z) := by
  obtain ⟨f, R, C, n, pf, L, tb, c, r, v⟩ := id h
  have hx' := hx
  have hz' := hz
  unfold i32 at hx' hz'
  have e6 : s.1 1 6 = f 2 := c.1.2.2.1
  have c57 := sp_57 (s := s) (a := 1) (by decide +kernel) (by rw [e6]; exact v.1.2.1)
  rw [e6] at c57
  have c150 : ∀ t : gx_S, t.1 216 = f → gm_150 t = some (decide (f 2 = 7), t) := fun t et => by
    have := sp_150 (s := t) (by rw [et]; exact v.1.2.1)
    rw [et] at this
    exact this
  have s1 : gm_103 x z s = if (0 ≤ x ∧ x < 3) ∧ (0 ≤ z ∧ z < 8) ∧ f 2 = 7 then (if 0 ≤ x ∧ x < 3 then ((some (fx_rf 70 (x).toNat)).bind fun v27 => (gm_19 v27 16 s).bind fun q32 => (gm_76 (v27 + 30) z q32).bind fun q34 => some (q34.1, q34.2)) else none) else some (-1, s) := by
    unfold gm_103
    rw [sp_114 s hx, Option.bind_some]
    by_cases a : 0 ≤ x ∧ x < 3
    · rw [if_neg (fun q => (gbD s).mp q a)]
      show ((gm_115 z s).bind _) = _
      rw [sp_115 s hz, Option.bind_some]
      by_cases b : 0 ≤ z ∧ z < 8
      · rw [if_neg (fun q => (gbD s).mp q b)]
        show ((gm_57 1 s).bind _) = _
        rw [c57, Option.bind_some]
        by_cases h7 : f 2 = 7
        · rw [if_pos (fun q => (gbD s).mp q h7), if_pos (show (0 ≤ x ∧ x < 3) ∧ (0 ≤ z ∧ z < 8) ∧ f 2 = 7 from ⟨a, b, h7⟩)]
        · rw [if_neg (fun q => q ((gbD s).mpr h7)), if_neg (show ¬ ((0 ≤ x ∧ x < 3) ∧ (0 ≤ z ∧ z < 8) ∧ f 2 = 7) from fun q => h7 q.2.2)]
      · rw [if_pos ((gbD s).mpr b), if_neg (show ¬ ((0 ≤ x ∧ x < 3) ∧ (0 ≤ z ∧ z < 8) ∧ f 2 = 7) from fun q => b q.2.1)]
    · rw [if_pos ((gbD s).mpr a), if_neg (show ¬ ((0 ≤ x ∧ x < 3) ∧ (0 ≤ z ∧ z < 8) ∧ f 2 = 7) from fun q => a q.1)]
  have s2 : ∀ y : gx_S, y.1 216 = f → gm_189 x z y = if (0 ≤ x ∧ x < 3) ∧ (0 ≤ z ∧ z < 8) ∧ f 2 = 7 then ((gm_187 x y).bind fun q56 => (gm_173 q56).bind fun q58 => gm_189_39 100000 x z 0 q58) else some (-1, y) := fun y ey => by
    unfold gm_189
    rw [c150 y ey, Option.bind_some]
    by_cases h7 : f 2 = 7
    · rw [if_neg (fun q => (gbD s).mp q h7)]
      show ((gm_148 x y).bind _) = _
      rw [sp_148 y hx, Option.bind_some]
      by_cases a : 0 ≤ x ∧ x ≤ 2
      · rw [if_neg (fun q => (gbD s).mp q a), if_pos hz', in_ y hz (by omega) (by omega), Option.bind_some]
        by_cases b : 0 ≤ z ∧ z ≤ 7
        · rw [if_pos (fun q => (gbD s).mp q b), if_pos (show (0 ≤ x ∧ x < 3) ∧ (0 ≤ z ∧ z < 8) ∧ f 2 = 7 by omega)]
        · rw [if_neg (fun q => q ((gbD s).mpr b)), if_neg (show ¬ ((0 ≤ x ∧ x < 3) ∧ (0 ≤ z ∧ z < 8) ∧ f 2 = 7) by omega)]
      · rw [if_pos ((gbD s).mpr a), if_neg (show ¬ ((0 ≤ x ∧ x < 3) ∧ (0 ≤ z ∧ z < 8) ∧ f 2 = 7) by omega)]
    · rw [if_pos ((gbD s).mpr h7), if_neg (show ¬ ((0 ≤ x ∧ x < 3) ∧ (0 ≤ z ∧ z < 8) ∧ f 2 = 7) from fun q => h7 q.2.2)]
  by_cases ok : (0 ≤ x ∧ x < 3) ∧ (0 ≤ z ∧ z < 8) ∧ f 2 = 7
  · obtain ⟨a, b, h7⟩ := id ok
    obtain ⟨g, rfl⟩ : ∃ g : Nat, x = g := ⟨x.toNat, by omega⟩
    obtain ⟨z, rfl⟩ : ∃ z' : Nat, z = z' := ⟨z.toNat, by omega⟩
    have hg : g < 3 := by omega
    obtain ⟨D, u, u1, u2, u3, u4, u5, u6⟩ := CV_ready (w := 16) (by omega) v.1 h7 hg c
    have u1 : gm_19 (71 + 48 * g) 16 s = some u := u1
    have tm := u4.2.2.2.2.2.2.2.1 u5
    have kc : KC s u := KG_KC (ga_of hg) u3
    have ru := RV_KC kc r
    have eu : u.1 216 = f := ru.1
    obtain ⟨p, w, p1, p2, p3, p4, p5, p6⟩ := sp_187f (s := u) (R := R) (C := C) (g := g) (by rw [eu]; exact v.1) (by rw [eu]; exact h7) hg ru.2.2.2.2
    rw [eu] at p6
    obtain ⟨A1, A2, A3⟩ := PA_wy v.1 h7 hg
    obtain ⟨y, y1, y2, y3, y4⟩ := sl_189_39 (g := g) (z := (z : Int)) 100000 0 w (by omega) (by omega) p4
    have y1 : gm_189_39 100000 g z 0 w = _ := y1
    have yK : KRw w y := KRw_of (fun k j q => y3 k j (by omega)) fun k j _ => by rw [y2]
    have Ky := KRw_tr p3 yK
    obtain ⟨d, d1, d2, d3, d4, d5, d6, d7⟩ := KR_159 y 4 8
    have Kd := KRw_tr Ky (KR_w d2)
    have ed : d.1 216 = f := (KRw_216 Kd).trans eu
    have d38 : ∀ x, x < 4 → d.1 238 x = Pwy f R C g x := fun x hx => by
      rw [d6 238 x (by decide) (by decide), y4, if_pos (by omega)]
      unfold Pwy
      rw [if_pos hx]
      exact sg_eq fun q hq => p6 q x hq (by omega)
    obtain ⟨e, e1, e2, e3, e4, e5, e6'⟩ := sl_189_70 (z := (z : Int)) v.1 h7 hg (fun x hx => A1.1 x (by omega)) 100000 0 d (by omega) (by omega) ed d4 d38
    have e1 : gm_189_70 100000 g z 0 d = _ := e1
    have Ke := KRw_tr Kd (KRw_of2 e2 e3)
    have e17 : e.1 215 17 = ((4 : Nat) : Int) := by rw [e2 215 17 (by decide) (by decide)]; exact d3
    have e18 : e.1 215 18 = ((8 : Nat) : Int) := by rw [e2 215 18 (by decide) (by decide)]; exact d4
    obtain ⟨o, o1, o2, o3, o4, o5, o6⟩ := TB_ref (md := f 3) (r := e) (R := 4) (m := 8) v.1.2.2.1 A1 (Ke.2.2 ru.2.2.2.2) e17 e18 (by omega) (by omega) (fun _ => A2) (by rw [KRw_216 Ke, eu]) (fun x hx => (e4 x (by omega) hx).1) (fun x y hx hy => (e4 x (by omega) hx).2 y hy) (fun x y hx hy hn => A3 x y hx hy hn)
    have o17 : o.1 215 17 = ((4 : Nat) : Int) := by
      rw [o3.1 215 17 (by decide) (by decide) (by decide) (by decide) (by decide)]
      exact e17
    have s2 := s2 u eu
    rw [if_pos ok, p1, Option.bind_some, p2, Option.bind_some, y1, d1, Option.bind_some, e1, o1, Option.bind_some, sp_183 (R := 4) o17 (by omega) (show z < 9 by omega), Option.bind_some] at s2
    rw [if_pos ok, if_pos a, Option.bind_some, vg_ g hg, u1, Option.bind_some, sp_76 (ga_of hg).2.2.2.2.2.2.1 (show z < 9 by omega), Option.bind_some] at s1
    have s2 : gm_189 g z u = some (sg (fun x => o.2 224 (9 * x + z)) 4, o) := s2
    have ee : sg (fun x => u.1 (71 + 48 * g + 30 + 8) (9 * x + z)) 8 = sg (fun x => o.2 224 (9 * x + z)) 4 := by
      rw [sg_48 _ fun x h1 h2 => by
        rw [((tm x h2).2.2 z (by omega)).2.2.2]
        exact o6 x z h2 (by omega) (by omega)]
      exact sg_eq fun x hx => by rw [((tm x (by omega)).2.2 z (by omega)).2.2.2, o2 x z hx (by omega)]
    rw [← ee] at s2
    exact ⟨_, u, o, s1, s2, q_inv kc u2 r v (KRw_tr Ke (KR_w (KR_rc o3 o4)))⟩
  · rw [if_neg ok] at s1
    exact ⟨-1, s, s, s1, (s2 s r.1).trans (if_neg ok), h⟩
