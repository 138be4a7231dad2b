/-! THE CLASS: cells sorted (that it ends, within the cells), ready -/
theorem tpv_r {f : Nat → Int} {R C g k : Nat} (M : MP f R C) (h7 : f 2 = 7) (hg : g < 3) (hk : k < R * C) : (0 ≤ tpv f R C g k ∧ tpv f R C g k ≤ 809919) ∧ (0 ≤ unv f R C g k ∧ unv f R C g k ≤ 864) := by
  obtain ⟨p1, p2⟩ := PA_mv M h7 hg
  obtain ⟨v1, v2, v3⟩ := GV_r M h7 hg
  obtain ⟨l1, l2⟩ := LV_r M hg
  refine ⟨?_, ?_⟩
  · unfold tpv
    by_cases q : co f C 0 k < 8
    · rw [if_pos q]
      have a := l1 (co f C 0 k) q
      have b := sg_at l1 (co f C 0 k) q
      have w := wt_b M h7 hg hk
      split
      · omega
      · have x := Int.mul_nonneg a w.1
        have y := Int.mul_le_mul (show LV f R C g (co f C 0 k) ≤ 89991 by omega) w.2 w.1 (by omega)
        omega
    · rw [if_neg q]
      omega
  · unfold unv
    by_cases q : co f C 0 k < 8
    · rw [if_pos q]
      have nn : ∀ x, x < 8 → 0 ≤ sg (fun y => PMV f R C g x y) 9 := fun x hx => sg_nn fun y hy => (p1.2.1 x y hx hy).1
      have := sg_at (f := fun x => sg (fun y => PMV f R C g x y) 9) (n := 8) nn (co f C 0 k) q
      have := nn (co f C 0 k) q
      omega
    · rw [if_neg q]
      omega
theorem sp_27 {s : gx_S} {f : Nat → Int} {R C g a k : Nat} (m : MR s 1 f R C) (M : MP f R C) (h7 : f 2 = 7) (hg : g < 3) (ho : fx_oc a 2 = true) (e9 : s.1 a 9 = g) (hl : ∀ z, z < 8 → s.1 (a + 1) z = LV f R C g z) (hT : TM s (a + 3) f R C g) (hk : k < R * C) : gm_27 a k s = some (tpv f R C g k, s) ∧ gm_28 a k s = some (unv f R C g k, s) := by
  obtain ⟨g0, g1, g2⟩ := sp_60g m M h7 hk
  have g3 := sp_61g m M h7 hg hk
  constructor
  · unfold gm_27 tpv
    rw [if_pos ho, g0, Option.bind_some, if_pos (by have := (co_s M h7 hk).1.2; omega)]
    by_cases q : co f C 0 k < 8
    · have i5 : ((co f C 0 k : Int)).toNat = co f C 0 k := by omega
      have pv := hT.2 (co f C 0 k) q
      rw [if_pos (by omega), if_pos (by omega), if_pos q]
      show (if (-2147483648 ≤ (s.1 (a + 3 + 3) (co f C 0 k : Int).toNat) ∧ (s.1 (a + 3 + 3) (co f C 0 k : Int).toNat) ≤ 2147483647) then (if ¬ (s.1 (a + 3 + 3) (co f C 0 k : Int).toNat) = 1 then ((gm_61 1 (s.1 a 9) k s).bind fun q25 => gm_27_47 a (co f C 0 k) q25.1 q25.2) else gm_27_47 a (co f C 0 k) 1 s) else none) = _
      rw [i5, pv]
      have st : ∀ v : Int, gm_27_47 a (co f C 0 k) v s = some (LV f R C g (co f C 0 k) * v, s) := fun v => by
        unfold gm_27_47
        rw [if_pos (by omega), i5, hl _ q]
      by_cases z : SO f R C g (co f C 0 k) (-1) false = 0
      · rw [if_pos z, if_pos (by decide), if_neg (by decide), st, if_pos z]
      · rw [if_neg z, if_pos (by decide), if_pos (by decide), e9, g3, Option.bind_some, if_neg z]
        exact st _
    · rw [if_neg (by omega), if_neg q]
  · unfold gm_28 unv
    rw [if_pos ho, g0, Option.bind_some, if_pos (by have := (co_s M h7 hk).1.2; omega)]
    by_cases q : co f C 0 k < 8
    · have i5 : ((co f C 0 k : Int)).toNat = co f C 0 k := by omega
      rw [if_neg (by omega), if_pos (by omega), if_pos q]
      show some (s.1 (a + 3 + 2) (co f C 0 k : Int).toNat, s) = _
      rw [i5, (hT.1 _ q).2.1]
    · rw [if_pos (by omega), if_neg q]
/-- the order's cells alone change -/
def OR (a : Nat) (s u : gx_S) : Prop := u.2 = s.2 ∧ ∀ k j, k ≠ a + 2 → u.1 k j = s.1 k j
theorem OR_w (a : Nat) (s : gx_S) (i : Nat) (v : Int) : OR a s (gw1 s (a + 2) i v) := ⟨rfl, fun k j h => by rw [gw1_1, if_neg (fun x => h x.1)]⟩
theorem OR_tr {a : Nat} {s t u : gx_S} (x : OR a s t) (y : OR a t u) : OR a s u := ⟨y.1.trans x.1, fun k j h => (y.2 k j h).trans (x.2 k j h)⟩
/-- what the sort stands on -/
def SB (s : gx_S) (f : Nat → Int) (R C g a : Nat) : Prop := MR s 1 f R C ∧ s.1 a 9 = g ∧ (∀ z, z < 8 → s.1 (a + 1) z = LV f R C g z) ∧ TM s (a + 3) f R C g
theorem SB_o {s u : gx_S} {f : Nat → Int} {R C g a : Nat} (h71 : 71 ≤ a) (o : OR a s u) (h : SB s f R C g a) : SB u f R C g a := ⟨MR_o (fun k j h1 h2 => o.2 k j (by omega)) h.1, (o.2 _ _ (by omega)).trans h.2.1, fun z hz => (o.2 _ _ (by omega)).trans (h.2.2.1 z hz), TM_o (fun k j h1 h2 => o.2 k j (by omega)) h.2.2.2⟩
theorem sl_29_33 {f : Nat → Int} {R C g a c : Nat} (k : Nat → Int → Int → gx_S → Option gx_S) (M : MP f R C) (h7 : f 2 = 7) (hg : g < 3) (h71 : 71 ≤ a) (ho : fx_oc a 2 = true) (hc : c < R * C) : ∀ (p n : Nat) (s : gx_S), p < n → p ≤ c → SB s f R C g a → HO f R C g (s.1 (a + 2)) c p → ∃ u : gx_S, gm_29_33 k n a ((R * C : Nat) : Int) c (tpv f R C g c) (unv f R C g c) p s = k a ((R * C : Nat) : Int) ((c + 1 : Nat) : Int) u ∧ OR a s u ∧ OY f R C g (u.1 (a + 2)) (c + 1) := by
  have hU : ∀ k, k < R * C → 0 < unv f R C g k := fun k hk => unv_p M h7 hg hk
  have hRC := RC_96 M.1.2.2.1 M.1.2.2.2
  have hRC' : ((R * C : Nat) : Int) = R * C := Int.natCast_mul R C
  intro p
  induction p with
  | zero =>
    intro n s hn hp B hj
    obtain ⟨n, rfl⟩ : ∃ n', n = n' + 1 := ⟨n - 1, by omega⟩
    have ce : ((c : Int) + 1) = ((c + 1 : Nat) : Int) := rfl
    refine ⟨gw1 s (a + 2) 0 c, ?_, OR_w a s 0 c, HO_put hU hc hp hj (.inl rfl) (by rw [gw1_1, if_pos ⟨rfl, rfl⟩]) fun j hn => by rw [gw1_1, if_neg (fun x => hn x.2)]⟩
    rw [gm_29_33, if_pos (by decide), if_pos (by decide)]
    unfold gm_29_97
    rw [if_pos (by decide), ce]
    rfl
  | succ p ih =>
    intro n s hn hp B hj
    obtain ⟨n, rfl⟩ : ∃ n', n = n' + 1 := ⟨n - 1, by omega⟩
    have ce : ((c : Int) + 1) = ((c + 1 : Nat) : Int) := rfl
    obtain ⟨o, eo, oc⟩ := hj.1 p (by omega) (by omega)
    have ho' : o < R * C := by omega
    have et : (s.1 (a + 2) p).toNat = o := by rw [eo]; omega
    obtain ⟨b1, b2, b3, b4⟩ := B
    obtain ⟨c27, c28⟩ := sp_27 b1 M h7 hg ho b2 b3 b4 ho'
    obtain ⟨r1, r2⟩ := tpv_r M h7 hg ho'
    obtain ⟨r3, r4⟩ := tpv_r M h7 hg hc
    have i1 : (((p + 1 : Nat) : Int) - 1).toNat = p := by omega
    have i2 : (((p + 1 : Nat) : Int)).toNat = p + 1 := by omega
    have i3 : (((p + 1 : Nat) : Int) + (-1)) = (p : Int) := by omega
    rw [gm_29_33, if_pos (by omega), if_neg (by omega), if_pos (by omega), i1, eo, c28, Option.bind_some]
    show ∃ u : gx_S, (if (-2147483648 ≤ unv f R C g o ∧ unv f R C g o ≤ 2147483647) then ((gm_27 a (s.1 (a + 2) p) s).bind fun q12 => if (-2147483648 ≤ q12.1 ∧ q12.1 ≤ 2147483647) then (if (-9223372036854775808 ≤ (tpv f R C g c * unv f R C g o) ∧ (tpv f R C g c * unv f R C g o) ≤ 9223372036854775807) then (if (-9223372036854775808 ≤ (q12.1 * unv f R C g c) ∧ (q12.1 * unv f R C g c) ≤ 9223372036854775807) then (if (tpv f R C g c * unv f R C g o) ≤ (q12.1 * unv f R C g c) then (gm_29_97 k a ((R * C : Nat) : Int) c ((p + 1 : Nat) : Int) q12.2) else (if 0 ≤ ((p + 1 : Nat) : Int) ∧ ((p + 1 : Nat) : Int) < 96 then (gm_29_33 k n a ((R * C : Nat) : Int) c (tpv f R C g c) (unv f R C g c) (((p + 1 : Nat) : Int) + (-1)) (gw1 q12.2 (a + 2) (((p + 1 : Nat) : Int)).toNat (q12.2.1 (a + 2) p))) else none)) else none) else none) else none) else none) = _ ∧ _
    rw [if_pos (by omega), eo, c27, Option.bind_some]
    have m1 := Int.mul_nonneg r3.1 r2.1
    have m2 := Int.mul_le_mul r3.2 r2.2 r2.1 (by omega)
    have m3 := Int.mul_nonneg r1.1 r4.1
    have m4 := Int.mul_le_mul r1.2 r4.2 r4.1 (by omega)
    show ∃ u : gx_S, (if (-2147483648 ≤ tpv f R C g o ∧ tpv f R C g o ≤ 2147483647) then (if (-9223372036854775808 ≤ (tpv f R C g c * unv f R C g o) ∧ (tpv f R C g c * unv f R C g o) ≤ 9223372036854775807) then (if (-9223372036854775808 ≤ (tpv f R C g o * unv f R C g c) ∧ (tpv f R C g o * unv f R C g c) ≤ 9223372036854775807) then (if (tpv f R C g c * unv f R C g o) ≤ (tpv f R C g o * unv f R C g c) then (gm_29_97 k a ((R * C : Nat) : Int) c ((p + 1 : Nat) : Int) s) else (if 0 ≤ ((p + 1 : Nat) : Int) ∧ ((p + 1 : Nat) : Int) < 96 then (gm_29_33 k n a ((R * C : Nat) : Int) c (tpv f R C g c) (unv f R C g c) (((p + 1 : Nat) : Int) + (-1)) (gw1 s (a + 2) (((p + 1 : Nat) : Int)).toNat (s.1 (a + 2) p))) else none)) else none) else none) else none) = _ ∧ _
    rw [if_pos (by omega), if_pos (by omega), if_pos (by omega)]
    by_cases z : (tpv f R C g c * unv f R C g o) ≤ (tpv f R C g o * unv f R C g c)
    · rw [if_pos z]
      have hl : AH f R C g o c := (AH_tot (show o ≠ c by omega)).resolve_right fun q => by
        unfold AH at q
        omega
      refine ⟨gw1 s (a + 2) (p + 1) c, ?_, OR_w a s (p + 1) c, HO_put hU hc hp hj (.inr (by rw [show p + 1 - 1 = p from rfl, et]; exact hl)) (by rw [gw1_1, if_pos ⟨rfl, rfl⟩]) fun j hn => by rw [gw1_1, if_neg (fun x => hn x.2)]⟩
      unfold gm_29_97
      rw [if_pos (by omega), i2, ce]
    · rw [if_neg z, if_pos (by omega), i2, i3]
      have ow := OR_w a s (p + 1) (s.1 (a + 2) p)
      obtain ⟨u, u1, u2, u3⟩ := ih n (gw1 s (a + 2) (p + 1) (s.1 (a + 2) p)) (by omega) (by omega) (SB_o h71 ow ⟨b1, b2, b3, b4⟩) (HO_move hp hj (by rw [et]; exact .inr (by omega)) (by rw [gw1_1, if_pos ⟨rfl, rfl⟩]) fun j hn => by rw [gw1_1, if_neg (fun x => hn x.2)])
      exact ⟨u, u1, OR_tr ow u2, u3⟩
theorem sl_29_10 {f : Nat → Int} {R C g a : Nat} (M : MP f R C) (h7 : f 2 = 7) (hg : g < 3) (h71 : 71 ≤ a) (ho : fx_oc a 2 = true) : ∀ (r c n : Nat) (s : gx_S), c + r = R * C → r < n → SB s f R C g a → OY f R C g (s.1 (a + 2)) c → ∃ u : gx_S, gm_29_10 n a ((R * C : Nat) : Int) c s = some u ∧ OR a s u ∧ OY f R C g (u.1 (a + 2)) (R * C) := by
  have hRC := RC_96 M.1.2.2.1 M.1.2.2.2
  intro r
  induction r with
  | zero =>
    intro c n s hk hn B hj
    obtain ⟨n, rfl⟩ : ∃ n', n = n' + 1 := ⟨n - 1, by omega⟩
    refine ⟨s, ?_, ⟨rfl, fun _ _ _ => rfl⟩, (show c = R * C by omega) ▸ hj⟩
    rw [gm_29_10, if_pos (by omega), if_pos (by omega), if_pos (by omega)]
  | succ r ih =>
    intro c n s hk hn B hj
    obtain ⟨n, rfl⟩ : ∃ n', n = n' + 1 := ⟨n - 1, by omega⟩
    have hc : c < R * C := by omega
    obtain ⟨b1, b2, b3, b4⟩ := id B
    obtain ⟨c27, c28⟩ := sp_27 b1 M h7 hg ho b2 b3 b4 hc
    obtain ⟨r3, r4⟩ := tpv_r M h7 hg hc
    rw [gm_29_10, if_pos (by omega), if_pos (by omega), if_neg (by omega), c27, Option.bind_some, if_pos (by omega)]
    show ∃ u : gx_S, ((gm_28 a c s).bind fun q8 => if (-2147483648 ≤ q8.1 ∧ q8.1 ≤ 2147483647) then (gm_29_33 (gm_29_10 n) 100000 a ((R * C : Nat) : Int) c (tpv f R C g c) q8.1 c q8.2) else none) = some u ∧ _
    rw [c28, Option.bind_some, if_pos (by omega)]
    obtain ⟨t, t1, t2, t3⟩ := sl_29_33 (gm_29_10 n) M h7 hg h71 ho hc c 100000 s (by omega) (Nat.le_refl c) B ⟨fun j h1 h2 => hj.1 j (by omega), fun i j h1 h2 h3 h4 => hj.2 i j h1 (by omega), fun j h1 h2 => absurd h1 (by omega)⟩
    show ∃ u : gx_S, gm_29_33 (gm_29_10 n) 100000 a ((R * C : Nat) : Int) c (tpv f R C g c) (unv f R C g c) c s = some u ∧ _
    rw [t1]
    obtain ⟨u, u1, u2, u3⟩ := ih (c + 1) n t (by omega) (by omega) (SB_o h71 t2 B) t3
    exact ⟨u, u1, OR_tr t2 u2, u3⟩
theorem rd_32 {s : gx_S} {f : Nat → Int} {R C g a D : Nat} (m : MR s 1 f R C) (M : MP f R C) (h7 : f 2 = 7) (hg : g < 3) (ha : ga a) (G : GGD s f R C g a D) (l1 : D / 1 % 2 = 1) (l2 : D / 2 % 2 = 1) : ∃ (D' : Nat) (u : gx_S), gm_19_201 a 32 s = some u ∧ KG a s u ∧ GGD u f R C g a D' ∧ D' / 32 % 2 = 1 ∧ D' / 1 % 2 = 1 ∧ D' / 2 % 2 = 1 := by
  obtain ⟨a71, a215, ho, t3, t12, t21, t30, t39⟩ := id ha
  obtain ⟨hD, e8, e9, g1, g2, g4, g8, g16, g32⟩ := G
  obtain ⟨D', t, q1, q2, q3, q4, q5, q6, q7⟩ := sp_21 (w := 32) ho hD (by decide) e8
  have q1 : gm_21 a 32 s = some (decide (¬ D / 32 % 2 = 1), t) := q1
  have n1 := q7 1 (by decide) (by decide)
  have n2 := q7 2 (by decide) (by decide)
  have n4 := q7 4 (by decide) (by decide)
  have n8 := q7 8 (by decide) (by decide)
  have n16 := q7 16 (by decide) (by decide)
  have to : ∀ k j, ¬ (k = a ∧ j = 8) → t.1 k j = s.1 k j := q3
  obtain ⟨li1, li2, li3⟩ := g1 l1
  have hRC := RC_96 M.1.2.2.1 M.1.2.2.2
  unfold gm_19_201
  rw [if_pos (by decide), if_neg (by decide), q1, Option.bind_some]
  by_cases z : D / 32 % 2 = 1
  · rw [decide_eq_false (fun h => h z), if_pos (show gb (false, t).1 = 0 from (by decide : gb false = 0))]
    refine ⟨D', t, rfl, ⟨q2, fun k j h1 h2 => to k j (by omega)⟩, ⟨q5, q4, (to a 9 (by omega)).trans e9, fun _ => ⟨fun z hz => (to _ _ (by omega)).trans (li1 z hz), (to _ _ (by omega)).trans li2, (to _ _ (by omega)).trans li3⟩, fun h => ?_, fun h => ?_, fun h => ?_, fun h => ?_, fun h => ?_⟩, q6, n1.trans l1, n2.trans l2⟩
    · exact ⟨n1.trans l1, TM_o (fun k j h1 h2 => to k j (by omega)) (g2 l2).2⟩
    · exact TR_o (fun k j h1 h2 => to k j (by omega)) (g4 (n4 ▸ h))
    · exact ⟨n1.trans l1, TR_o (fun k j h1 h2 => to k j (by omega)) (g8 (n8 ▸ h)).2⟩
    · exact TR_o (fun k j h1 h2 => to k j (by omega)) (g16 (n16 ▸ h))
    · obtain ⟨x1, x2⟩ := g32 z
      exact ⟨n2.trans x1, fun k hk => by rw [to _ _ (by omega)]; exact x2 k hk⟩
  · rw [decide_eq_true z, if_neg (show ¬ gb (true, t).1 = 0 from (by decide : ¬ gb true = 0))]
    have B : SB t f R C g a := ⟨MR_o (fun k j h1 h2 => to k j (by omega)) m, (to a 9 (by omega)).trans e9, fun z hz => (to _ _ (by omega)).trans (li1 z hz), TM_o (fun k j h1 h2 => to k j (by omega)) (g2 l2).2⟩
    obtain ⟨u, u1, u2, u3⟩ := sl_29_10 M h7 hg a71 ho (R * C) 0 100000 t (by omega) (by omega) B ⟨fun j h => absurd h (by omega), fun i j h1 h2 => absurd h2 (by omega)⟩
    have u1 : gm_29_10 100000 a ((R * C : Nat) : Int) 0 t = some u := u1
    have st : gm_29 a t = some u := by
      unfold gm_29
      rw [if_pos ho, sp_58 (MR_cz B.1 M), Option.bind_some, u1]
    have wo : ∀ k j, k ≠ a + 2 → ¬ (k = a ∧ j = 8) → u.1 k j = s.1 k j := fun k j h1 h2 => (u2.2 k j h1).trans (to k j h2)
    show ∃ (D' : Nat) (w : gx_S), ((gm_29 a t).bind fun q7 => gm_19_220 a q7) = some w ∧ _
    rw [st, Option.bind_some]
    refine ⟨D', u, rfl, ⟨u2.1.trans q2, fun k j h1 h2 => wo k j (by omega) (by omega)⟩, ⟨q5, (u2.2 _ _ (by omega)).trans q4, (wo a 9 (by omega) (by omega)).trans e9, fun _ => ⟨fun z hz => (wo _ _ (by omega) (by omega)).trans (li1 z hz), (wo _ _ (by omega) (by omega)).trans li2, (wo _ _ (by omega) (by omega)).trans li3⟩, fun h => ?_, fun h => ?_, fun h => ?_, fun h => ?_, fun h => ?_⟩, q6, n1.trans l1, n2.trans l2⟩
    · exact ⟨n1.trans l1, TM_o (fun k j h1 h2 => wo k j (by omega) (by omega)) (g2 l2).2⟩
    · exact TR_o (fun k j h1 h2 => wo k j (by omega) (by omega)) (g4 (n4 ▸ h))
    · exact ⟨n1.trans l1, TR_o (fun k j h1 h2 => wo k j (by omega) (by omega)) (g8 (n8 ▸ h)).2⟩
    · exact TR_o (fun k j h1 h2 => wo k j (by omega) (by omega)) (g16 (n16 ▸ h))
    · exact ⟨n2.trans l2, OY_QK u3⟩
/-- ready: what is asked for is there -/
theorem sp_19 {s : gx_S} {f : Nat → Int} {R C g a D w : Nat} (hw : w = 2 ∨ w = 4 ∨ w = 8 ∨ w = 16 ∨ w = 32) (m : MR s 1 f R C) (M : MP f R C) (h7 : f 2 = 7) (hg : g < 3) (ha : ga a) (G : GGD s f R C g a D) : ∃ (D' : Nat) (u : gx_S), gm_19 a w s = some u ∧ KG a s u ∧ GGD u f R C g a D' ∧ D' / w % 2 = 1 ∧ (w = 2 ∨ w = 4 ∨ w = 32 → D' / 2 % 2 = 1 ∧ D' / 1 % 2 = 1) := by
  obtain ⟨a71, a215, ho, _⟩ := id ha
  obtain ⟨D1, s1, p1, p2, p3, p4⟩ := sp_20 m M hg ha G
  have m1 := KG_MR ha p2 m
  unfold gm_19
  rw [if_pos ho, p1, Option.bind_some]
  rcases hw with e | e | e | e | e
  · obtain ⟨D2, s2, q1, q2, q3, q4, q5⟩ := rd_2 (what := 2) m1 M h7 hg ha p3 p4
    rw [e]
    refine ⟨D2, s2, ?_, KG_tr p2 q2, q3, q5, fun _ => ⟨q5, q4⟩⟩
    show (if (-2147483648 ≤ (2 : Int) ∧ (2 : Int) ≤ 2147483647) then (if (2 : Int) = 2 then gm_19_20 a 2 s1 else _) else none) = _
    rw [if_pos (by decide), if_pos rfl, q1]
    rfl
  · obtain ⟨D2, s2, q1, q2, q3, q4, q5⟩ := rd_2 (what := 4) m1 M h7 hg ha p3 p4
    obtain ⟨D3, s3, r1, r2, r3, r4, r5, r6⟩ := rd_4 (KG_MR ha q2 m1) M h7 hg ha q3 q4 q5
    rw [e]
    refine ⟨D3, s3, ?_, KG_tr (KG_tr p2 q2) r2, r3, r4, fun _ => ⟨r6, r5⟩⟩
    show (if (-2147483648 ≤ (4 : Int) ∧ (4 : Int) ≤ 2147483647) then (if (4 : Int) = 2 then _ else (if (4 : Int) = 4 then gm_19_20 a 4 s1 else _)) else none) = _
    rw [if_pos (by decide), if_neg (by decide), if_pos rfl, q1, r1]
    rfl
  · obtain ⟨D3, s3, r1, r2, r3, r4, r5⟩ := rd_8 (what := 8) (.inl rfl) m1 M h7 hg ha p3 p4
    rw [e]
    refine ⟨D3, s3, ?_, KG_tr p2 r2, r3, r4, fun h => absurd h (by omega)⟩
    show (if (-2147483648 ≤ (8 : Int) ∧ (8 : Int) ≤ 2147483647) then (if (8 : Int) = 2 then _ else (if (8 : Int) = 4 then _ else (if ¬ (8 : Int) = 32 then gm_19_59 a 8 s1 else _))) else none) = _
    rw [if_pos (by decide), if_neg (by decide), if_neg (by decide), if_pos (by decide)]
    show gm_19_103 a 8 s1 = _
    rw [r1]
    rfl
  · obtain ⟨D3, s3, r1, r2, r3, r4, r5⟩ := rd_8 (what := 16) (.inr rfl) m1 M h7 hg ha p3 p4
    obtain ⟨D4, s4, t1, t2, t3, t4, t5⟩ := rd_16 (KG_MR ha r2 m1) M h7 hg ha r3 r5 r4
    rw [e]
    refine ⟨D4, s4, ?_, KG_tr (KG_tr p2 r2) t2, t3, t4, fun h => absurd h (by omega)⟩
    show (if (-2147483648 ≤ (16 : Int) ∧ (16 : Int) ≤ 2147483647) then (if (16 : Int) = 2 then _ else (if (16 : Int) = 4 then _ else (if ¬ (16 : Int) = 32 then gm_19_59 a 16 s1 else _))) else none) = _
    rw [if_pos (by decide), if_neg (by decide), if_neg (by decide), if_pos (by decide)]
    show gm_19_103 a 16 s1 = _
    rw [r1, t1]
    rfl
  · obtain ⟨D2, s2, q1, q2, q3, q4, q5⟩ := rd_2 (what := 32) m1 M h7 hg ha p3 p4
    obtain ⟨D3, s3, r1, r2, r3, r4, r5, r6⟩ := rd_32 (KG_MR ha q2 m1) M h7 hg ha q3 q4 q5
    rw [e]
    refine ⟨D3, s3, ?_, KG_tr (KG_tr p2 q2) r2, r3, r4, fun _ => ⟨r6, r5⟩⟩
    show (if (-2147483648 ≤ (32 : Int) ∧ (32 : Int) ≤ 2147483647) then (if (32 : Int) = 2 then _ else (if (32 : Int) = 4 then _ else (if ¬ (32 : Int) = 32 then _ else gm_19_20 a 32 s1))) else none) = _
    rw [if_pos (by decide), if_neg (by decide), if_neg (by decide), if_neg (by decide), q1]
    show gm_19_201 a 32 s2 = _
    exact r1
