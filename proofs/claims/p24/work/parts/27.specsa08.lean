/-! QUERIES: densest (both answer, within the map; that the answers are alike is for later) -/
/-- a call on both sides, each with an answer -/
def twW (s : gx_S) (a b : gx_S → Option (Int × gx_S)) : Prop := ∃ (r r' : Int) (u w : gx_S), a s = some (r, u) ∧ b u = some (r', w) ∧ INV w
theorem two_W {s : gx_S} {a b : gx_S → Option (Int × gx_S)} (h : two s a b) : twW s a b := by
  obtain ⟨r, u, w, h1, h2, h3⟩ := h
  exact ⟨r, r, u, w, h1, h2, h3⟩
theorem pr_r {f : Nat → Int} {R C g a b : Nat} (M : MP f R C) (h7 : f 2 = 7) (hg : g < 3) (ha : a < R * C) (hb : b < R * C) : 0 ≤ tpv f R C g a * unv f R C g b ∧ tpv f R C g a * unv f R C g b ≤ 699770016 := by
  obtain ⟨⟨p0, p1⟩, _⟩ := tpv_r M h7 hg ha
  obtain ⟨_, q0, q1⟩ := tpv_r M h7 hg hb
  have x := Int.mul_nonneg p0 q0
  have y := Int.mul_le_mul p1 q1 q0 (by omega)
  omega
theorem sp_200 {f : Nat → Int} {R C g a b : Nat} {t : gx_S} (M : MP f R C) (h7 : f 2 = 7) (hg : g < 3) (ha : a < R * C) (hb : b < R * C) (e : ∀ k, k < R * C → t.2 240 k = tpv f R C g k ∧ t.2 241 k = unv f R C g k) : gm_200 a b t = some (AHb f R C g a b, t) := by
  have hRC := RC_96 M.1.2.2.1 M.1.2.2.2
  have r1 := pr_r M h7 hg ha hb
  have r2 := pr_r M h7 hg hb ha
  have ia : ((a : Int)).toNat = a := by omega
  have ib : ((b : Int)).toNat = b := by omega
  unfold gm_200 AHb
  rw [ia, ib, (e a ha).1, (e a ha).2, (e b hb).1, (e b hb).2, if_pos (by omega), if_pos (by omega), if_pos (by omega), if_pos (by omega)]
  generalize tpv f R C g a * unv f R C g b = p at *
  generalize tpv f R C g b * unv f R C g a = q at *
  by_cases z : p = q
  · rw [if_pos z, if_pos (by omega), if_pos (by omega)]
    by_cases y : (b : Int) ≤ (a : Int)
    · rw [if_pos y, decide_eq_false (show ¬ ((p = q ∧ a < b) ∨ q < p) by omega)]
    · rw [if_neg y, decide_eq_true (show (p = q ∧ a < b) ∨ q < p by omega)]
  · rw [if_neg z]
    by_cases y : p ≤ q
    · rw [if_pos y, decide_eq_false (show ¬ ((p = q ∧ a < b) ∨ q < p) by omega)]
    · rw [if_neg y, decide_eq_true (show (p = q ∧ a < b) ∨ q < p by omega)]
theorem AHn_r (f : Nat → Int) (R C g a : Nat) : ∀ n : Nat, 0 ≤ AHn f R C g a n ∧ AHn f R C g a n ≤ n := by
  intro n
  have e : ∀ b, 0 ≤ gb (AHb f R C g b a) ∧ gb (AHb f R C g b a) ≤ 1 := fun b => by
    cases AHb f R C g b a
    · exact ⟨by decide, by decide⟩
    · exact ⟨by decide, by decide⟩
  refine ⟨sg_nn fun k _ => (e k).1, ?_⟩
  rw [← sg_one n]
  exact sg_le fun k _ => (e k).2
theorem sl_201_53 {f : Nat → Int} {R C g a : Nat} {x : Int} {t : gx_S} (K : Int → Int → gx_S → Option (Int × gx_S)) (M : MP f R C) (h7 : f 2 = 7) (hg : g < 3) (hx : i32 x) (ef : t.1 216 = f) (ha : a < R * C) (e : ∀ k, k < R * C → t.2 240 k = tpv f R C g k ∧ t.2 241 k = unv f R C g k) : ∀ (n b : Nat), R * C < n + b → b ≤ R * C → gm_201_53 K n x a (AHn f R C g a b) b t = if AHn f R C g a (R * C) = x then some (((12 * (a / C) + a % C : Nat) : Int), t) else K x ((a + 1 : Nat) : Int) t := by
  unfold i32 at hx
  intro n
  induction n with
  | zero => intro b h; omega
  | succ n ih =>
    intro b h hb
    have hRC := RC_96 M.1.2.2.1 M.1.2.2.2
    have hm : t.1 216 0 * t.1 216 1 = ((R * C : Nat) : Int) := by rw [ef, M.1.1, M.1.2.1]; simp
    have ar := AHn_r f R C g a b
    have mC := (M.2.2.2.2.2.2.2.2 (by omega)).2.2
    rw [gm_201_53, sp_151, hm, Option.bind_some]
    dsimp only
    rw [if_pos (by omega), if_pos (by omega)]
    by_cases q : b = R * C
    · have c1 : t.1 216 1 = C := by rw [ef, M.1.2.1]
      rw [if_pos (by omega), if_pos (by omega), if_pos hx, q, c1]
      by_cases z : AHn f R C g a (R * C) = x
      · rw [if_neg (fun y => y z), if_pos z, if_pos (show 0 ≤ (a : Int) ∧ (a : Int) ≤ 2147483647 ∧ 0 < (C : Int) ∧ (C : Int) ≤ 2147483647 by have := M.1.2.2.2; omega)]
        rfl
      · rw [if_pos z, if_neg z]
        rfl
    · have ce : ((b : Int) + 1) = ((b + 1 : Nat) : Int) := rfl
      have gd : gb (AHb f R C g b a) = 0 ∨ gb (AHb f R C g b a) = 1 := by
        cases AHb f R C g b a
        · exact .inl rfl
        · exact .inr rfl
      rw [if_neg (by omega), sp_200 M h7 hg (show b < R * C by omega) ha e, Option.bind_some]
      dsimp only
      rw [sp_131 gd, Option.bind_some, ce]
      exact ih (b + 1) (by omega) (by omega)
theorem sl_201_39 {f : Nat → Int} {R C g : Nat} {x : Int} {t : gx_S} (M : MP f R C) (h7 : f 2 = 7) (hg : g < 3) (hx : i32 x) (ef : t.1 216 = f) (e : ∀ k, k < R * C → t.2 240 k = tpv f R C g k ∧ t.2 241 k = unv f R C g k) : ∀ (n a : Nat), R * C < n + a → a ≤ R * C → ∃ r : Int, gm_201_39 n x a t = some (r, t) ∧ ((∃ a' : Nat, a ≤ a' ∧ a' < R * C ∧ AHn f R C g a' (R * C) = x ∧ r = ((12 * (a' / C) + a' % C : Nat) : Int)) ∨ ∀ a' : Nat, a ≤ a' → a' < R * C → ¬ AHn f R C g a' (R * C) = x) := by
  intro n
  induction n with
  | zero => intro a h; omega
  | succ n ih =>
    intro a h ha
    have hRC := RC_96 M.1.2.2.1 M.1.2.2.2
    have hm : t.1 216 0 * t.1 216 1 = ((R * C : Nat) : Int) := by rw [ef, M.1.1, M.1.2.1]; simp
    rw [gm_201_39, sp_151, hm, Option.bind_some]
    dsimp only
    rw [if_pos (by omega), if_pos (by omega)]
    by_cases q : a = R * C
    · rw [if_pos (by omega)]
      exact ⟨-1, rfl, .inr fun a' h1 h2 => by omega⟩
    · rw [if_neg (by omega)]
      have i := sl_201_53 (g := g) (a := a) (gm_201_39 n) M h7 hg hx ef (by omega) e 100000 0 (by omega) (by omega)
      have i : gm_201_53 (gm_201_39 n) 100000 x a 0 0 t = _ := i
      rw [i]
      by_cases z : AHn f R C g a (R * C) = x
      · rw [if_pos z]
        exact ⟨_, rfl, .inl ⟨a, by omega, by omega, z, rfl⟩⟩
      · rw [if_neg z]
        obtain ⟨r, r1, r2⟩ := ih (a + 1) (by omega) (by omega)
        refine ⟨r, r1, ?_⟩
        rcases r2 with ⟨a', b1, b2⟩ | r2
        · exact .inl ⟨a', by omega, b2⟩
        · refine .inr fun a' h1 h2 => ?_
          by_cases y : a' = a
          · rw [y]; exact z
          · exact r2 a' (by omega) h2
theorem AHn_lt {f : Nat → Int} {R C g a b : Nat} (hU : ∀ k, k < R * C → 0 < unv f R C g k) (ha : a < R * C) (hb : b < R * C) (h : AH f R C g a b) : AHn f R C g a (R * C) < AHn f R C g b (R * C) := by
  unfold AHn
  refine sg_lt (i := a) (fun k hk => ?_) ha ?_
  · show gb (decide (AH f R C g k a)) ≤ gb (decide (AH f R C g k b))
    by_cases q : AH f R C g k a
    · rw [decide_eq_true q, decide_eq_true (AH_tr (hU k hk) (hU a ha) (hU b hb) q h)]
      exact Int.le_refl _
    · rw [decide_eq_false q]
      exact (show (0 : Int) ≤ _ from by cases decide (AH f R C g k b) <;> decide)
  · show gb (decide (AH f R C g a a)) < gb (decide (AH f R C g a b))
    rw [decide_eq_false (AH_irr f R C g a), decide_eq_true h]
    decide
theorem inv_densest {s : gx_S} (h : INV s) {x y : Int} (hx : i32 x) (hy : i32 y) : two s (gm_107 x y) (gm_201 x y) := by
  obtain ⟨f, R, C, n, pf, L, tb, c, r, v⟩ := id h
  have hx' := hx
  have hy' := hy
  unfold i32 at hx' hy'
  have hRC := RC_96 v.1.1.2.2.1 v.1.1.2.2.2
  have e6 : s.1 1 6 = f 2 := c.1.2.2.1
  have c57 := sp_57 (s := s) (a := 1) (by decide +kernel) (by rw [e6]; exact v.1.2.1)
  rw [e6] at c57
  have c58 := sp_58 (MR_cz c.1 v.1)
  have c148 : ∀ t : gx_S, gm_148 x t = _ := fun t => sp_148 t hx
  have c150 : ∀ t : gx_S, t.1 216 = f → gm_150 t = some (decide (f 2 = 7), t) := fun t et => by
    have := sp_150 (s := t) (by rw [et]; exact v.1.2.1)
    rw [et] at this
    exact this
  have s1 : gm_107 x y s = if (0 ≤ x ∧ x < 3) ∧ f 2 = 7 ∧ (0 ≤ y ∧ y < ((R * C : Nat) : Int)) then ((some (fx_rf 70 (x).toNat)).bind fun v38 => (gm_19 v38 32 s).bind fun q43 => if 0 ≤ y ∧ y < 96 then (if (-2147483648 ≤ (q43.1 1 5) ∧ (q43.1 1 5) ≤ 2147483647) then (if 0 ≤ (q43.1 (v38 + 2) (y).toNat) ∧ (q43.1 (v38 + 2) (y).toNat) ≤ 2147483647 ∧ 0 < (if 1 < (q43.1 1 5) then (q43.1 1 5) else 1) ∧ (if 1 < (q43.1 1 5) then (q43.1 1 5) else 1) ≤ 2147483647 then some (((12 * ((q43.1 (v38 + 2) (y).toNat) / (if 1 < (q43.1 1 5) then (q43.1 1 5) else 1))) + ((q43.1 (v38 + 2) (y).toNat) % (if 1 < (q43.1 1 5) then (q43.1 1 5) else 1))), q43) else none) else none) else none) else some (-1, s) := by
    unfold gm_107
    rw [sp_114 s hx, Option.bind_some]
    by_cases a : 0 ≤ x ∧ x < 3
    · rw [if_neg (fun q => (gbD s).mp q a)]
      show ((gm_57 1 s).bind _) = _
      rw [c57, Option.bind_some]
      by_cases b : f 2 = 7
      · rw [if_neg (fun q => (gbD s).mp q b), if_pos hy']
        by_cases d : y < 0
        · rw [if_pos d, if_neg (fun t : (0 ≤ x ∧ x < 3) ∧ f 2 = 7 ∧ (0 ≤ y ∧ y < ((R * C : Nat) : Int)) => by have := t.2.2; omega)]
        · rw [if_neg d]
          show ((gm_58 1 s).bind _) = _
          rw [c58, Option.bind_some]
          dsimp only
          rw [if_pos (by omega)]
          by_cases e : y < ((R * C : Nat) : Int)
          · rw [if_pos e, if_pos a, if_pos (show (0 ≤ x ∧ x < 3) ∧ f 2 = 7 ∧ (0 ≤ y ∧ y < ((R * C : Nat) : Int)) from ⟨a, b, by omega, e⟩)]
          · rw [if_neg e, if_neg (fun t : (0 ≤ x ∧ x < 3) ∧ f 2 = 7 ∧ (0 ≤ y ∧ y < ((R * C : Nat) : Int)) => e t.2.2.2)]
      · rw [if_pos ((gbD s).mpr b), if_neg (fun t : (0 ≤ x ∧ x < 3) ∧ f 2 = 7 ∧ (0 ≤ y ∧ y < ((R * C : Nat) : Int)) => b t.2.1)]
    · rw [if_pos ((gbD s).mpr a), if_neg (fun t : (0 ≤ x ∧ x < 3) ∧ f 2 = 7 ∧ (0 ≤ y ∧ y < ((R * C : Nat) : Int)) => a t.1)]
  have s2 : ∀ t : gx_S, t.1 216 = f → gm_201 x y t = if (0 ≤ x ∧ x < 3) ∧ f 2 = 7 ∧ (0 ≤ y ∧ y < ((R * C : Nat) : Int)) then ((gm_197 x t).bind fun q59 => gm_201_39 100000 y 0 q59) else some (-1, t) := fun t et => by
    have hm : t.1 216 0 * t.1 216 1 = ((R * C : Nat) : Int) := by rw [et, v.1.1.1, v.1.1.2.1]; simp
    unfold gm_201
    rw [c150 t et, Option.bind_some]
    by_cases b : f 2 = 7
    · rw [if_neg (fun q => (gbD t).mp q b)]
      show ((gm_148 x t).bind _) = _
      rw [c148 t, Option.bind_some]
      by_cases a : 0 ≤ x ∧ x ≤ 2
      · rw [if_neg (fun q => (gbD t).mp q a), if_pos hy']
        show ((gm_151 t).bind _) = _
        rw [sp_151, hm, Option.bind_some]
        dsimp only
        rw [if_pos (by omega), in_ t hy (by omega) (by omega), Option.bind_some]
        by_cases d : 0 ≤ y ∧ y ≤ ((R * C : Nat) : Int) - 1
        · rw [if_pos (fun q => (gbD t).mp q d), if_pos (show (0 ≤ x ∧ x < 3) ∧ f 2 = 7 ∧ (0 ≤ y ∧ y < ((R * C : Nat) : Int)) from ⟨by omega, b, by omega⟩)]
        · rw [if_neg (fun q => q ((gbD t).mpr d)), if_neg (fun t : (0 ≤ x ∧ x < 3) ∧ f 2 = 7 ∧ (0 ≤ y ∧ y < ((R * C : Nat) : Int)) => d (by have := t.2.2; omega))]
      · rw [if_pos ((gbD t).mpr a), if_neg (fun t : (0 ≤ x ∧ x < 3) ∧ f 2 = 7 ∧ (0 ≤ y ∧ y < ((R * C : Nat) : Int)) => a (by have := t.1; omega))]
    · rw [if_pos ((gbD t).mpr b), if_neg (fun t : (0 ≤ x ∧ x < 3) ∧ f 2 = 7 ∧ (0 ≤ y ∧ y < ((R * C : Nat) : Int)) => b t.2.1)]
  by_cases ok : (0 ≤ x ∧ x < 3) ∧ f 2 = 7 ∧ (0 ≤ y ∧ y < ((R * C : Nat) : Int))
  · rw [if_pos ok] at s1
    obtain ⟨a, h7, d⟩ := id ok
    obtain ⟨g, rfl⟩ : ∃ g : Nat, x = g := ⟨x.toNat, by omega⟩
    obtain ⟨y, rfl⟩ : ∃ y' : Nat, y = y' := ⟨y.toNat, by omega⟩
    have hg : g < 3 := by omega
    obtain ⟨D, u, u1, u2, u3, u4, u5, u6⟩ := CV_ready (w := 32) (by omega) v.1 h7 hg c
    have u1 : gm_19 (71 + 48 * g) 32 s = some u := u1
    obtain ⟨tm1, tm2, tm3⟩ := (u4.2.2.2.2.2.2.2.2 u5).2 y (by omega)
    have tm := And.intro tm1 tm2
    have kc : KC s u := KG_KC (ga_of hg) u3
    have ru := RV_KC kc r
    have eu : u.1 216 = f := ru.1
    have e5 : u.1 1 5 = C := u2.1.2.1.trans v.1.1.2.1
    have mC := v.1.2.2.2.2.2.2.2.2 (by omega)
    have c12 := v.1.1.2.2.2
    have eC : (if (1 : Int) < (C : Int) then (C : Int) else 1) = C := by split <;> omega
    have Mu : MP (u.1 216) R C := by rw [eu]; exact v.1
    obtain ⟨t, t1, t2, t3⟩ := sp_197 Mu (by rw [eu]; exact h7) hg
    rw [eu] at t3
    obtain ⟨r', r1, r2⟩ := sl_201_39 (x := (y : Int)) (t := t) v.1 h7 hg hy (by rw [KRw_216 t2, eu]) t3 100000 0 (by omega) (by omega)
    have r1 : gm_201_39 100000 y 0 t = some (r', t) := r1
    have s2 := s2 u eu
    rw [if_pos ok, t1, Option.bind_some, r1] at s2
    rw [Option.bind_some, vg_ g hg, u1, Option.bind_some, e5, eC, show ((y : Int)).toNat = y by omega, if_pos (by omega), if_pos (by omega), if_pos (by omega)] at s1
    have hm : ((R * C : Nat) : Int) = R * C := Int.natCast_mul R C
    obtain ⟨o, eo⟩ : ∃ o : Nat, u.1 (71 + 48 * g + 2) y = o := ⟨_, (Int.toNat_of_nonneg tm1).symm⟩
    have ol : o < R * C := by
      rw [eo, ← hm] at tm2
      omega
    have et : (u.1 (71 + 48 * g + 2) y).toNat = o := by rw [eo]; omega
    rw [et] at tm3
    have e : r' = ((12 * (o / C) + o % C : Nat) : Int) := by
      rcases r2 with ⟨a', b1, b2, b3, b4⟩ | r2
      · by_cases q : a' = o
        · rw [← q]
          exact b4
        · exfalso
          have hU : ∀ k, k < R * C → 0 < unv f R C g k := fun k hk => unv_p v.1 h7 hg hk
          rcases AH_tot (f := f) (R := R) (C := C) (g := g) q with z | z
          · have := AHn_lt hU b2 ol z
            omega
          · have := AHn_lt hU ol b2 z
            omega
      · exact absurd tm3 (r2 o (Nat.zero_le _) ol)
    rw [eo] at s1
    rw [e] at s2
    exact ⟨_, u, t, s1, s2, q_inv kc u2 r v t2⟩
  · rw [if_neg ok] at s1
    exact ⟨-1, s, s, s1, (s2 s r.1).trans (if_neg ok), h⟩
