/-! CALLS: fit -/
def ff (f : Nat → Int) (g : Nat) (w : Nat → Int) (q : Nat) : Int := if 32 + 4 * g ≤ q ∧ q < 36 + 4 * g then w (q - 32 - 4 * g) else f q
theorem MP_ff {f : Nat → Int} {R C g : Nat} {w : Nat → Int} (M : MP f R C) (hg : g < 3) (W : wB9 w) : MP (ff f g w) R C := by
  obtain ⟨m1, m2, m3, m4, m5, m6, m7, m8, m10⟩ := M
  have o : ∀ q, ¬ (32 + 4 * g ≤ q ∧ q < 36 + 4 * g) → ff f g w q = f q := fun q hq => if_neg hq
  refine ⟨?_, ?_, ?_, ?_, fun h hh => ⟨fun z hz => ?_, ?_⟩, fun q hq => ?_, fun q hq => ?_, fun l hl b k hk => ?_, ?_⟩
  · rw [o 0 (by omega), o 1 (by omega)]; exact m1
  · rw [o 2 (by omega)]; exact m2
  · rw [o 3 (by omega)]; exact m3
  · rw [o 4 (by omega)]; exact m4
  · rw [o _ (by omega)]; exact (m5 h hh).1 z hz
  · rw [sg_eq (g := fun z => f (5 + 9 * h + z)) fun z hz => o _ (by omega)]; exact (m5 h hh).2
  · by_cases p : 4 * g ≤ q ∧ q < 4 * g + 4
    · unfold ff
      rw [if_pos (by omega)]
      exact W _ (by omega)
    · rw [o _ (by omega)]; exact m6 q hq
  · rw [o _ (by omega)]; exact m7 q hq
  · rw [o 2 (by omega)] at b
    rw [o _ (by omega)]
    exact m8 l hl b k hk
  · rw [o 2 (by omega)]; exact m10
theorem MR_ff {u : gx_S} {f : Nat → Int} {R C g : Nat} {w : Nat → Int} (m : MR u 1 f R C) (hg : g < 3) (hw : ∀ l, l < 4 → u.1 63 l = w l) : MR (gcp u 63 0 4 (4 * g) 4) 1 (ff f g w) R C := by
  obtain ⟨m1, m2, m3, m4, m5, m6, m7, m8, m9⟩ := m
  have o : ∀ q, ¬ (32 + 4 * g ≤ q ∧ q < 36 + 4 * g) → ff f g w q = f q := fun q hq => if_neg hq
  have uo : ∀ a i, a ≠ 4 → (gcp u 63 0 4 (4 * g) 4).1 a i = u.1 a i := fun a i h => by rw [gcp_1, if_neg (fun x => h x.1)]
  refine ⟨by rw [uo _ _ (by decide), o 0 (by omega)]; exact m1, by rw [uo _ _ (by decide), o 1 (by omega)]; exact m2, by rw [uo _ _ (by decide), o 2 (by omega)]; exact m3, by rw [uo _ _ (by decide), o 3 (by omega)]; exact m4, by rw [uo _ _ (by decide), o 4 (by omega)]; exact m5, fun i hi => by rw [uo _ _ (by decide), o _ (by omega)]; exact m6 i hi, fun i hi => ?_, fun i hi => by rw [uo _ _ (by decide), o _ (by omega)]; exact m8 i hi, fun l hl b k hk => ?_⟩
  · rw [show (1 : Nat) + 3 = 4 from rfl] at m7 ⊢
    rw [gcp_1]
    unfold ff
    by_cases p : 4 * g ≤ i ∧ i < 4 * g + 4
    · rw [if_pos ⟨rfl, p⟩, if_pos (by omega), show 0 + (i - 4 * g) = i - 4 * g by omega, show 32 + i - 32 - 4 * g = i - 4 * g by omega]
      exact hw _ (by omega)
    · rw [if_neg (fun x => p x.2), if_neg (by omega)]
      exact m7 i hi
  · rw [o 2 (by omega)] at b
    rw [uo _ _ (by decide), o _ (by omega)]
    exact m9 l hl b k hk
def cntf (b o : Nat → Int) (j : Nat) : Int := sg (fun l => if b l = o l then 0 else 1) j
theorem cntf_r (b o : Nat → Int) : ∀ j : Nat, 0 ≤ cntf b o j ∧ cntf b o j ≤ j := by
  intro j
  have := sg_bd (f := fun l => if b l = o l then 0 else 1) (B := 1) (n := j) fun k _ => by
    show 0 ≤ (if b k = o k then (0 : Int) else 1) ∧ (if b k = o k then (0 : Int) else 1) ≤ 1
    split <;> omega
  unfold cntf
  omega
theorem sl_92 {s : gx_S} {g : Nat} {b o : Nat → Int} (hg : g < 3) (hb : ∀ l, l < 4 → s.1 63 l = b l) (ho : ∀ l, l < 4 → s.1 4 (4 * g + l) = o l) (rb : wB9 b) (ro : wB9 o) : ∀ (n j : Nat), 4 < n + j → j ≤ 4 → gm_92_21 n g (cntf b o j) j s = if cntf b o 4 = 0 then some (-2, s) else (gm_119 s).bind fun q6 => some (cntf b o 4, gcp q6 63 0 4 (4 * g) 4) := by
  intro n
  induction n with
  | zero => intro j h; omega
  | succ n ih =>
    intro j h hj
    have cr := cntf_r b o j
    rw [gm_92_21, if_pos (by omega)]
    by_cases q : j = 4
    · have i1 : ((g : Int) * 4).toNat = 4 * g := by omega
      rw [if_pos (by omega), if_pos (by omega), q, i1]
      by_cases y : cntf b o 4 = 0
      · rw [if_neg (fun x => x y), if_pos y]
      · rw [if_pos y, if_neg y]
        congr 1
        funext q6
        rw [if_pos (by omega)]
    · have ce : ((j : Int) + 1) = ((j + 1 : Nat) : Int) := rfl
      have i1 : ((j : Int)).toNat = j := by omega
      have i2 : (((g : Int) * 4) + (j : Int)).toNat = 4 * g + j := by omega
      have r1 := rb j (by omega)
      have r2 := ro j (by omega)
      rw [if_neg (by omega), if_pos (by omega), if_pos (by omega), i1, i2, hb j (by omega), ho j (by omega), if_pos (by omega), if_pos (by omega)]
      unfold gm_92_54
      rw [ce]
      have i := ih (j + 1) (by omega) (by omega)
      have e : cntf b o (j + 1) = cntf b o j + (if b j = o j then 0 else 1) := rfl
      rw [e] at i
      by_cases y : b j = o j
      · rw [if_pos y, Int.add_zero] at i
        rw [if_pos y]
        exact i
      · rw [if_neg y] at i
        rw [if_neg y]
        exact i
theorem sl_212_45 {s : gx_S} {g : Nat} {b o : Nat → Int} (hg : g < 3) (hb : ∀ l, l < 4 → s.1 244 l = b l) (ho : ∀ l, l < 4 → s.1 216 (32 + 4 * g + l) = o l) (rb : wB9 b) (ro : wB9 o) : ∀ (n j : Nat), 4 < n + j → j ≤ 4 → gm_212_45 n g (cntf b o j) j s = if cntf b o 4 = 0 then some (-2, s) else (gm_132 s).bind fun q6 => gm_212_102 100000 g (cntf b o 4) 0 q6 := by
  intro n
  induction n with
  | zero => intro j h; omega
  | succ n ih =>
    intro j h hj
    have cr := cntf_r b o j
    rw [gm_212_45, if_pos (by omega)]
    by_cases q : j = 4
    · rw [if_pos (by omega), if_pos (by omega), q]
      by_cases y : cntf b o 4 = 0
      · rw [if_neg (fun x => x y), if_pos y]
      · rw [if_pos y, if_neg y]
    · have ce : ((j : Int) + 1) = ((j + 1 : Nat) : Int) := rfl
      have i1 : ((j : Int)).toNat = j := by omega
      have i2 : ((32 + (4 * (g : Int))) + (j : Int)).toNat = 32 + 4 * g + j := by omega
      have r1 := rb j (by omega)
      have r2 := ro j (by omega)
      rw [if_neg (by omega), if_pos (by omega), if_pos (by omega), i1, i2, hb j (by omega), ho j (by omega), if_pos (by omega), if_pos (by omega)]
      unfold gm_212_78
      rw [ce]
      have i := ih (j + 1) (by omega) (by omega)
      have e : cntf b o (j + 1) = cntf b o j + (if b j = o j then 0 else 1) := rfl
      rw [e] at i
      by_cases y : b j = o j
      · rw [if_pos y] at i
        rw [if_pos y, sp_131 (.inl rfl), Option.bind_some]
        exact i
      · rw [if_neg y] at i
        rw [if_neg y, sp_131 (.inr rfl), Option.bind_some]
        exact i
theorem sl_212_102 {g : Nat} {x : Int} (hg : g < 3) : ∀ (n j : Nat) (t : gx_S), 4 < n + j → j ≤ 4 → ∃ u : gx_S, gm_212_102 n g x j t = some (x, u) ∧ u.2 = t.2 ∧ (∀ a i, a ≠ 216 → u.1 a i = t.1 a i) ∧ ∀ i, u.1 216 i = if 32 + 4 * g + j ≤ i ∧ i < 36 + 4 * g then t.1 244 (i - 32 - 4 * g) else t.1 216 i := by
  intro n
  induction n with
  | zero => intro j t h; omega
  | succ n ih =>
    intro j t h hj
    rw [gm_212_102, if_pos (by omega)]
    by_cases q : j = 4
    · rw [if_pos (by omega)]
      exact ⟨t, rfl, rfl, fun _ _ _ => rfl, fun i => by rw [if_neg (by omega)]⟩
    · have ce : ((j : Int) + 1) = ((j + 1 : Nat) : Int) := rfl
      have i1 : ((j : Int)).toNat = j := by omega
      have i2 : ((32 + (4 * (g : Int))) + (j : Int)).toNat = 32 + 4 * g + j := by omega
      rw [if_neg (by omega), if_pos (by omega), if_pos (by omega), i1, i2, ce]
      obtain ⟨u, u1, u2, u3, u4⟩ := ih (j + 1) (gw1 t 216 (32 + 4 * g + j) (t.1 244 j)) (by omega) (by omega)
      refine ⟨u, u1, u2, fun a i h => by rw [u3 a i h, gw1_1, if_neg (fun x => h x.1)], fun i => ?_⟩
      rw [u4, gw1_1 t 216 (32 + 4 * g + j) _ 244, if_neg (show ¬ ((244 : Nat) = 216 ∧ i - 32 - 4 * g = 32 + 4 * g + j) by omega), gw1_1]
      by_cases z : i = 32 + 4 * g + j
      · rw [if_neg (show ¬ (32 + 4 * g + (j + 1) ≤ i ∧ i < 36 + 4 * g) by omega), if_pos (show (216 : Nat) = 216 ∧ i = 32 + 4 * g + j from ⟨rfl, z⟩), if_pos (show 32 + 4 * g + j ≤ i ∧ i < 36 + 4 * g by omega), show i - 32 - 4 * g = j by omega]
      · rw [if_neg (show ¬ ((216 : Nat) = 216 ∧ i = 32 + 4 * g + j) from fun x => z x.2)]
        by_cases y : 32 + 4 * g + (j + 1) ≤ i ∧ i < 36 + 4 * g
        · rw [if_pos y, if_pos (show 32 + 4 * g + j ≤ i ∧ i < 36 + 4 * g by omega)]
        · rw [if_neg y, if_neg (show ¬ (32 + 4 * g + j ≤ i ∧ i < 36 + 4 * g) by omega)]
theorem LC_some {f : Nat → Int} {R C g : Nat} (M : MP f R C) (h7 : f 2 = 7) (hg : g < 3) (p : 0 < CP f R C g) : ∃ l, l < 4 ∧ 0 < LC (CL f R C) l := by
  refine Classical.byContradiction fun h => ?_
  have B := CL_XB M hg
  have x0 : ∀ z, z < 8 → ∀ l, l < 4 → CL f R C z l = 0 := fun z hz l hl => by
    have a := sg_at (f := fun z => CL f R C z l) (n := 8) (fun k hk => (B.1 k l hk hl).1) z hz
    have b := (B.1 z l hz hl).1
    have d : ¬ 0 < LC (CL f R C) l := fun q => h ⟨l, hl, q⟩
    unfold LC at d
    omega
  have l0 : ∀ z, z < 8 → L0 f R C g z = 0 := fun z hz => by
    have e := CL_NC (z := z) M h7
    rw [sg_0 (f := fun l => CL f R C z l) fun l hl => x0 z hz l hl] at e
    unfold L0
    rw [if_neg (by omega)]
  have e : CP f R C g = 0 := sg_0 l0
  omega
theorem inv_fit {s : gx_S} (h : INV s) {x : Int} (hx : i32 x) : two s (gm_92 x) (gm_212 x) := by
  obtain ⟨f, R, C, n, pf, L, tb, c, r, v⟩ := id h
  have hx' := hx
  unfold i32 at hx'
  have c148 : ∀ t : gx_S, gm_148 x t = _ := fun t => sp_148 t hx
  have c150 : ∀ t : gx_S, t.1 216 = f → gm_150 t = some (decide (f 2 = 7), t) := fun t et => by
    have := sp_150 (s := t) (by rw [et]; exact v.1.2.1)
    rw [et] at this
    exact this
  obtain ⟨c21, c21'⟩ := sp_121 c.1 v.1 hx
  have s2 : ∀ t : gx_S, t.1 216 = f → gm_212 x t = if (0 ≤ x ∧ x < 3) ∧ f 2 = 7 then ((gm_205 x t).bind fun q45 => if (-2147483648 ≤ (q45.1 215 42) ∧ (q45.1 215 42) ≤ 2147483647) then (if ¬ (q45.1 215 42) = 0 then ((gm_211 x 0 (gw1 q45 215 43 0)).bind fun q49 => gm_212_45 100000 x 0 0 q49) else some ((-1), q45)) else none) else some (-1, t) := fun t et => by
    unfold gm_212
    rw [c150 t et, Option.bind_some]
    by_cases b : f 2 = 7
    · rw [if_neg (fun q => (gbD t).mp q b)]
      show ((gm_148 x t).bind _) = _
      rw [c148 t, Option.bind_some]
      by_cases a : 0 ≤ x ∧ x ≤ 2
      · rw [if_pos (fun q => (gbD t).mp q a), if_pos (show (0 ≤ x ∧ x < 3) ∧ f 2 = 7 from ⟨by omega, b⟩)]
      · rw [if_neg (fun q => q ((gbD t).mpr a)), if_neg (fun q : (0 ≤ x ∧ x < 3) ∧ f 2 = 7 => a (by have := q.1; omega))]
    · rw [if_pos ((gbD t).mpr b), if_neg (fun q : (0 ≤ x ∧ x < 3) ∧ f 2 = 7 => b q.2)]
  unfold two
  by_cases ok : (0 ≤ x ∧ x < 3) ∧ f 2 = 7
  · obtain ⟨a, h7⟩ := id ok
    obtain ⟨g, rfl⟩ : ∃ g : Nat, x = g := ⟨x.toNat, by omega⟩
    have hg : g < 3 := by omega
    have B := CL_XB v.1 hg
    have W := W0_b v.1 hg
    obtain ⟨u, u1, u2, u3, u4, u5⟩ := c21' g rfl hg h7
    -- the reference ahead of its search
    have kr : ∀ w : gx_S, w.1 216 = f → ∃ z : gx_S, KRw w z ∧ z.1 216 = f ∧ gm_212 g w = (if ¬ CP f R C g = 0 then ((gm_211 g 0 (gw1 z 215 43 0)).bind fun q49 => gm_212_45 100000 g 0 0 q49) else some (-1, z)) ∧ RSw z (CL f R C) (W0 f g) ∧ z.1 215 42 = CP f R C g := fun w ew => by
      obtain ⟨z, z1, z2, z3, z4, z5⟩ := sp_205 ew v.1 h7 hg
      refine ⟨z, KRw_of4 (fun k j q1 q2 _ q3 => z5 k j q1 q2 (by omega)) (fun k j _ => by rw [z4]), by funext i; rw [z5 _ _ (by decide) (by decide) (by omega), ew], ?_, z2, z3⟩
      rw [s2 w ew, if_pos ok, z1, Option.bind_some, z3, if_pos (by have := B.2.2; omega)]
    have e92 : gm_92 g s = if ¬ gb (decide (0 < CP f R C g)) = 0 then ((gm_15 u).bind fun q28 => gm_92_21 100000 g 0 0 q28) else some (-1, u) := by
      unfold gm_92
      rw [u1, Option.bind_some]
    have ku : ∀ a i, ¬ (62 ≤ a ∧ a ≤ 68) → u.1 a i = s.1 a i := fun a i q => u4 a i (by omega)
    by_cases p0 : 0 < CP f R C g
    · obtain ⟨w, w1, w2, w3⟩ := sp_15 B W u2 u3
      obtain ⟨l, hl, hL⟩ := LC_some v.1 h7 hg p0
      obtain ⟨i, hi⟩ := BI_some (c := Cc f g) (P := CP f R C g) B W hl hL
      obtain ⟨_, _, best⟩ := w2.2 i hi
      have rb := RE_B (CL f R C) W i
      obtain ⟨b, hb⟩ : ∃ b, b = RE (CL f R C) (W0 f g) i := ⟨_, rfl⟩
      rw [← hb] at best rb
      have kw1 : ∀ a i, ¬ (62 ≤ a ∧ a ≤ 68) → w.1 a i = s.1 a i := fun a i q => (w3.1 a i (by omega) (by omega) (by omega)).trans (ku a i q)
      have kw2 : ∀ a i, a ≠ 62 → w.2 a i = s.2 a i := fun a i q => (w3.2 a i (by omega)).trans (u5 a i q)
      have cw := CV_fit kw1 c
      have kc := KC_fit kw1 kw2
      have rw' := RV_KC kc r
      have e4 : ∀ l, l < 4 → w.1 4 (4 * g + l) = W0 f g l := fun l hl => by
        rw [kw1 _ _ (by omega)]
        have := c.1.2.2.2.2.2.2.1 (4 * g + l) (by omega)
        rw [show (1 : Nat) + 3 = 4 from rfl] at this
        rw [this]
        unfold W0
        rw [Nat.add_assoc]
      have s1 := sl_92 (s := w) hg best e4 rb W 100000 0 (by omega) (by omega)
      have s1 : gm_92_21 100000 g 0 0 w = _ := s1
      rw [if_pos (fun q => (gbD s).mp q p0), w1, Option.bind_some, s1] at e92
      -- the reference's search
      have kr2 : ∀ y : gx_S, y.1 216 = f → ∃ t : gx_S, KRw y t ∧ t.1 216 = f ∧ (∀ l, l < 4 → t.1 244 l = b l) ∧ gm_212 g y = if cntf b (W0 f g) 4 = 0 then some (-2, t) else (gm_132 t).bind fun q6 => gm_212_102 100000 g (cntf b (W0 f g) 4) 0 q6 := fun y ey => by
        obtain ⟨z, z1, z2, z3, z4, z5⟩ := kr y ey
        obtain ⟨a, ha⟩ : ∃ a, a = gw1 z 215 43 0 := ⟨_, rfl⟩
        have a1 : ∀ d j, ¬ (d = 215 ∧ j = 43) → a.1 d j = z.1 d j := fun d j q => by rw [ha, gw1_1, if_neg q]
        have a2 : a.2 = z.2 := by rw [ha]; rfl
        have a216 : a.1 216 = f := by funext j; rw [a1 _ _ (by omega), z2]
        obtain ⟨t, t1, t2, t3⟩ := sp_211 (t := a) (o := W0 f g) (c := Cc f g) B W hg ⟨fun q l hq hl => by rw [a1 _ _ (by omega)]; exact z4.1 q l hq hl, by rw [a1 _ _ (by omega)]; exact z5, fun q hq => by rw [a216]; rfl, fun l hl _ => by rw [a1 _ _ (by omega)]; exact z4.2 l hl⟩ (by rw [ha, gw1_1, if_pos ⟨rfl, rfl⟩])
        have ka : KRw z a := KRw_of4 (fun k j _ _ _ q => a1 k j (by omega)) fun k j _ => by rw [a2]
        have kt : KRw a t := KRw_of4 (fun k j _ q1 q2 q3 => t3.1 k j q1 q2 (by omega)) fun k j q => t3.2 k j (fun x => q x.1)
        have et : t.1 216 = f := (KRw_216 kt).trans a216
        have e244 : ∀ l, l < 4 → t.1 244 l = b l := by rw [hb]; exact (t2.2 i hi).2.2.2
        refine ⟨t, KRw_tr z1 (KRw_tr ka kt), et, e244, ?_⟩
        have l45 := sl_212_45 (s := t) hg e244 (fun l hl => by rw [et]; rfl) rb W 100000 0 (by omega) (by omega)
        have l45 : gm_212_45 100000 g 0 0 t = _ := l45
        rw [z3, if_pos (by omega), ← ha, t1, Option.bind_some, l45]
      by_cases c0 : cntf b (W0 f g) 4 = 0
      · obtain ⟨t, t1, t2, t3, t4⟩ := kr2 w rw'.1
        rw [if_pos c0] at e92 t4
        exact ⟨-2, w, t, e92, t4, q_inv kc cw r v t1⟩
      · obtain ⟨d, d1, d2, d3, d4, d5⟩ := act_pre2 cw rw' v
        obtain ⟨y, hy⟩ : ∃ y, y = gcp d 63 0 4 (4 * g) 4 := ⟨_, rfl⟩
        have y1 : ∀ k j, 6 ≤ k → y.1 k j = d.1 k j := fun k j q => by rw [hy, gcp_1, if_neg (by omega)]
        have y2 : y.2 = d.2 := by rw [hy]; rfl
        have y3 : y.1 216 = f := by funext j; rw [y1 _ _ (by omega), d3]
        have d63 : ∀ l, l < 4 → d.1 63 l = b l := fun l hl => by rw [d4 _ _ (by omega) (by omega)]; exact best l hl
        have my : MR y 1 (ff f g b) R C := by rw [hy]; exact MR_ff d2 hg d63
        obtain ⟨t, t1, t2, t3, t4⟩ := kr2 y y3
        obtain ⟨sy, _, q, q1, q2, q3, q4⟩ := d5 y t y1 y2 t1
        obtain ⟨p, p1, p2, p3, p4⟩ := sl_212_102 (g := g) (x := cntf b (W0 f g) 4) hg 100000 0 q (by omega) (by omega)
        have p1 : gm_212_102 100000 g (cntf b (W0 f g) 4) 0 q = _ := p1
        rw [if_neg c0, d1, Option.bind_some, ← hy] at e92
        rw [if_neg c0, q1, Option.bind_some, p1] at t4
        refine ⟨_, y, p, e92, t4, q4 p (ff f g b) R C p3 p2 (MP_ff v.1 hg rb) my fun j hj => ?_⟩
        rw [p4, q2]
        unfold ff
        by_cases z : 32 + 4 * g ≤ j ∧ j < 36 + 4 * g
        · rw [if_pos (by omega), if_pos z, q3 244 _ (by decide) (by omega)]
          exact t3 _ (by omega)
        · rw [if_neg (by omega), if_neg z]
    · have pn : CP f R C g = 0 := by have := B.2.2; omega
      rw [if_neg (fun q => q ((gbD s).mpr p0))] at e92
      obtain ⟨z, z1, z2, z3, z4, z5⟩ := kr u (by funext j; rw [ku _ _ (by omega), r.1])
      rw [if_neg (fun q => q pn)] at z3
      exact ⟨-1, u, z, e92, z3, q_inv (KC_fit ku u5) (CV_fit ku c) r v z1⟩
  · refine ⟨-1, s, s, ?_, (s2 s r.1).trans (if_neg ok), h⟩
    unfold gm_92
    rw [c21 ok, Option.bind_some, if_neg (fun q => q rfl)]
