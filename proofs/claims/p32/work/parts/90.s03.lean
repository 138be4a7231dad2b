section
/-! THE REFERENCE: laysLiving -/
theorem sp_158 {s : gx_S} {R C : Nat} (M : MP (s.1 216) R C) (h : s.1 216 2 / 2 ^ 0 % 2 = 1) (z : Int) (hz : -2147483648 ≤ z ∧ z ≤ 2147483647) : gm_158 z s = some (NC (s.1 216) R C 0 z, s) := by
  have e := sl_158 (MP_mz M) z hz (fun k hk => by
    have := M.2.2.2.2.2.2.2.1 0 (by omega) h k hk
    have e : cdx s C 0 k = s.1 216 (52 + 96 * 0 + 12 * (k / C) + k % C) := rfl
    rw [e]
    rw [if_neg (by omega)] at this
    omega) 100000 0 (by omega) (by
    have := RC_96 M.1.2.2.1 M.1.2.2.2
    omega)
  have e2 : NC (s.1 216) R C 0 z = sg (fun k => bi (cdx s C 0 k = z)) (R * C) := if_pos h
  rw [e2]
  exact e
theorem sl_177_21 {f : Nat → Int} {R C g : Nat} (M : MP f R C) (hg : g < 3) : ∀ (n j : Nat) (t : gx_S), 8 < n + j → j ≤ 8 → t.1 216 = f → ∃ (n' : Nat) (u : gx_S), gm_177_21 n g j t = gm_177_21 (n' + 1) g 8 u ∧ u.2 = t.2 ∧ (∀ k i, k ≠ 222 → k ≠ 236 → u.1 k i = t.1 k i) ∧ (∀ z, j ≤ z → z < 8 → u.1 236 z = L0 f R C g z ∧ u.1 222 z = L0 f R C g z) ∧ ∀ i, ¬ (j ≤ i ∧ i < 8) → u.1 222 i = t.1 222 i ∧ u.1 236 i = t.1 236 i := by
  intro n
  induction n with
  | zero => intro j t h; omega
  | succ n ih =>
    intro j t h hj ef
    by_cases q : j = 8
    · rw [q]
      exact ⟨n, t, rfl, rfl, fun _ _ _ _ => rfl, fun z h1 h2 => by omega, fun i _ => ⟨rfl, rfl⟩⟩
    · have ce : ((j : Int) + 1) = ((j + 1 : Nat) : Int) := rfl
      have i5 : ((j : Int)).toNat = j := by omega
      have c53 := sp_153g (s := t) (R := R) (C := C) (by rw [ef]; exact M) 0 j (by omega) (by omega)
      have c53 : gm_153 0 j t = _ := c53
      rw [ef] at c53
      have st : ∀ v : Int, gm_177_51 (gm_177_21 n) g j j v t = gm_177_21 n g ((j + 1 : Nat) : Int) (gw1 (gw1 t 236 j v) 222 j v) := fun v => by
        unfold gm_177_51
        rw [if_pos (by omega), if_pos (by omega), if_pos (by omega), i5, ce, gw1_1 t 236 j v 236 j, if_pos ⟨rfl, rfl⟩]
      have one : gm_177_21 (n + 1) g j t = gm_177_21 n g ((j + 1 : Nat) : Int) (gw1 (gw1 t 236 j (L0 f R C g j)) 222 j (L0 f R C g j)) := by
        rw [gm_177_21, if_pos (by omega), if_neg (by omega), c53, Option.bind_some]
        by_cases z : 0 < NC f R C 0 j
        · rw [decide_eq_true z, if_neg (show ¬ gb (true, t).1 = 0 from (by decide : ¬ gb true = 0))]
          show ((gm_155 g j t).bind _) = _
          rw [sp_155 g j hg (by omega), Option.bind_some, ef]
          show gm_177_51 (gm_177_21 n) g j j (f (5 + 9 * g + j)) t = _
          rw [st, show L0 f R C g j = f (5 + 9 * g + j) from if_pos z]
        · rw [decide_eq_false z, if_pos (show gb (false, t).1 = 0 from (by decide : gb false = 0))]
          show gm_177_51 (gm_177_21 n) g j j 0 t = _
          rw [st, show L0 f R C g j = 0 from if_neg z]
      obtain ⟨n', u, u1, u2, u3, u4, u5⟩ := ih (j + 1) (gw1 (gw1 t 236 j (L0 f R C g j)) 222 j (L0 f R C g j)) (by omega) (by omega) (by
        funext i
        rw [gw1_1, if_neg (by omega), gw1_1, if_neg (by omega), ef])
      refine ⟨n', u, one.trans u1, u2, fun k i h1 h2 => ?_, fun z h1 h2 => ?_, fun i h => ?_⟩
      · rw [u3 k i h1 h2, gw1_1, if_neg (fun x => h1 x.1), gw1_1, if_neg (fun x => h2 x.1)]
      · by_cases e : z = j
        · obtain ⟨v1, v2⟩ := u5 z (by omega)
          rw [v1, v2, e]
          exact ⟨by rw [gw1_1, if_neg (by omega), gw1_1, if_pos ⟨rfl, rfl⟩], by rw [gw1_1, if_pos ⟨rfl, rfl⟩]⟩
        · exact u4 z (by omega) h2
      · obtain ⟨v1, v2⟩ := u5 i (by omega)
        rw [v1, v2]
        exact ⟨by rw [gw1_1, if_neg (by omega), gw1_1, if_neg (by omega)], by rw [gw1_1, if_neg (by omega), gw1_1, if_neg (by omega)]⟩
theorem sl_177_88 {f : Nat → Int} {R C : Nat} (M : MP f R C) (hb : f 2 / 2 ^ 0 % 2 = 1) : ∀ (n j : Nat) (t : gx_S), 8 < n + j → j ≤ 8 → t.1 216 = f → ∃ u : gx_S, gm_177_88 n j t = ((gm_161 0 u).bind fun q => gm_177_117 q.2) ∧ u.2 = t.2 ∧ (∀ k i, k ≠ 222 → u.1 k i = t.1 k i) ∧ (∀ z, j ≤ z → z < 8 → u.1 222 z = NC f R C 0 z) ∧ ∀ i, ¬ (j ≤ i ∧ i < 8) → u.1 222 i = t.1 222 i := by
  intro n
  induction n with
  | zero => intro j t h; omega
  | succ n ih =>
    intro j t h hj ef
    rw [gm_177_88, if_pos (by omega)]
    by_cases q : j = 8
    · rw [if_pos (by omega)]
      exact ⟨t, rfl, rfl, fun _ _ _ => rfl, fun z h1 h2 => by omega, fun i _ => rfl⟩
    · have ce : ((j : Int) + 1) = ((j + 1 : Nat) : Int) := rfl
      have i5 : ((j : Int)).toNat = j := by omega
      have c58 := sp_158 (s := t) (R := R) (C := C) (by rw [ef]; exact M) (by rw [ef]; exact hb) j (by omega)
      rw [ef] at c58
      rw [if_neg (by omega), c58, Option.bind_some, if_pos (by omega), i5, ce]
      obtain ⟨u, u1, u2, u3, u4, u5⟩ := ih (j + 1) (gw1 t 222 j (NC f R C 0 j)) (by omega) (by omega) (by
        funext i
        rw [gw1_1, if_neg (by omega), ef])
      refine ⟨u, u1, u2, fun k i h1 => ?_, fun z h1 h2 => ?_, fun i h => ?_⟩
      · rw [u3 k i h1, gw1_1, if_neg (fun x => h1 x.1)]
      · by_cases e : z = j
        · rw [u5 z (by omega), e, gw1_1, if_pos ⟨rfl, rfl⟩]
        · exact u4 z (by omega) h2
      · rw [u5 i (by omega), gw1_1, if_neg (by omega)]
theorem sl_177_124 : ∀ (n j : Nat) (t : gx_S), 8 < n + j → j ≤ 8 → ∃ u : gx_S, gm_177_124 n j t = some u ∧ u.2 = t.2 ∧ (∀ k i, k ≠ 236 → u.1 k i = t.1 k i) ∧ ∀ i, u.1 236 i = t.1 236 i + if j ≤ i ∧ i < 8 then t.2 224 i else 0 := by
  intro n
  induction n with
  | zero => intro j t h; omega
  | succ n ih =>
    intro j t h hj
    rw [gm_177_124, if_pos (by omega)]
    by_cases q : j = 8
    · rw [if_pos (by omega)]
      exact ⟨t, rfl, rfl, fun _ _ _ => rfl, fun i => by rw [if_neg (by omega)]; omega⟩
    · have ce : ((j : Int) + 1) = ((j + 1 : Nat) : Int) := rfl
      have i5 : ((j : Int)).toNat = j := by omega
      rw [if_neg (by omega), if_pos (by omega), if_pos (by omega), i5, ce]
      obtain ⟨u, u1, u2, u3, u4⟩ := ih (j + 1) (gw1 t 236 j (t.1 236 j + t.2 224 j)) (by omega) (by omega)
      refine ⟨u, u1, u2, fun k i h1 => ?_, fun i => ?_⟩
      · rw [u3 k i h1, gw1_1, if_neg (fun x => h1 x.1)]
      · rw [u4, gw1_1, gw1_2]
        by_cases e : i = j
        · rw [if_pos ⟨rfl, e⟩, if_neg (by omega), if_pos (by omega), e]
          omega
        · rw [if_neg (fun x => e x.2)]
          by_cases e2 : j + 1 ≤ i ∧ i < 8
          · rw [if_pos e2, if_pos (by omega)]
          · rw [if_neg e2, if_neg (by omega)]
/-- the row of the unknown, laid and given -/
theorem sl_177_117 {f : Nat → Int} {R C g : Nat} (M : MP f R C) (hg : g < 3) {t : gx_S} (h17 : t.1 215 17 = 1) (h18 : t.1 215 18 = 8) (hp : t.2 221 0 = Psh f R C g 0) (ha : ∀ y, y < 8 → t.1 222 y = Ash f R C g 0 y) (hw : t.1 223 0 = sg (fun y => t.1 222 y) 8) (hl : ∀ z, z < 8 → t.1 236 z = L0 f R C g z) : ∃ u : gx_S, gm_177_117 t = some u ∧ (∀ z, z < 8 → u.1 236 z = LV f R C g z) ∧ (∀ k i, k ≠ 236 → u.1 k i = t.1 k i) ∧ (∀ k i, k ≠ 224 → k ≠ 225 → u.2 k i = t.2 k i) ∧ ∀ i, 0 ≤ t.2 225 i ∧ t.2 225 i ≤ 1000000000 → 0 ≤ u.2 225 i ∧ u.2 225 i ≤ 1000000000 := by
  obtain ⟨p1, p2⟩ := PA_sh M hg
  obtain ⟨w, w1, w2, w3, w4, w5⟩ := TB_163 (r := t) p1 h17 h18 hp ha hw p2
  obtain ⟨u, u1, u2, u3, u4⟩ := sl_177_124 100000 0 w (by omega) (by omega)
  have u1 : gm_177_124 100000 0 w = _ := u1
  refine ⟨u, ?_, fun z hz => ?_, fun k i h => ?_, fun k i h1 h2 => ?_, fun i h => ?_⟩
  · unfold gm_177_117
    rw [w1, Option.bind_some, u1]
  · rw [u4, if_pos (by omega), w3, hl z hz, w2 z hz]
    rfl
  · rw [u3 k i h, w3]
  · rw [u2, w4 k i h1 h2]
  · rw [u2]
    exact w5 i h
theorem sp_177 {s : gx_S} {R C g : Nat} (M : MP (s.1 216) R C) (hg : g < 3) : ∃ u : gx_S, gm_177 g s = some u ∧ (∀ z, z < 8 → u.1 236 z = LV (s.1 216) R C g z) ∧ KR s u := by
  obtain ⟨a, a1, a2, a3, a4, a5, a6, a7⟩ := KR_159 s 1 8
  have ea : a.1 216 = s.1 216 := KR_216 a2
  have cu := sp_174 (s := a) (R := R) (C := C) (by rw [ea]; exact M) hg
  rw [ea] at cu
  obtain ⟨un0, un1⟩ := UN_r M hg
  obtain ⟨n', b, b1, b2, b3, b4, b5⟩ := sl_177_21 M hg 100000 0 (gw2 a 221 0 (UN (s.1 216) R C g)) (by omega) (by omega) ea
  have b1 : gm_177_21 100000 g 0 (gw2 a 221 0 (UN (s.1 216) R C g)) = gm_177_21 (n' + 1) g 8 b := b1
  have bk : ∀ k i, k ≠ 222 → k ≠ 236 → b.1 k i = a.1 k i := fun k i h1 h2 => b3 k i h1 h2
  have b2' : ∀ k i, ¬ (k = 221 ∧ i = 0) → b.2 k i = a.2 k i := fun k i h => by rw [b2, gw2_2, if_neg h]
  have eb : b.1 216 = s.1 216 := by
    funext i
    rw [bk 216 i (by decide) (by decide), ea]
  obtain ⟨v, v1, v2⟩ := sp_175 (s := b) (R := R) (C := C) (by rw [eb]; exact M)
  rw [eb] at v2
  have hd : gm_177 g s = gm_177_21 (n' + 1) g 8 b := by
    unfold gm_177
    rw [a1, Option.bind_some, cu, Option.bind_some, if_pos (by omega)]
    exact b1
  have KRb : KR a b := ⟨fun k j q => bk k j (by omega) (by omega), fun k j q => b2' k j (by omega), fun S => ⟨fun j hj => by rw [b2' 225 j (by omega), bk 232 j (by decide) (by decide), bk 233 j (by decide) (by decide), bk 234 j (by decide) (by decide)]; exact S.1 j hj, fun c hc => by rw [b2' 229 c (by omega), b2' 230 c (by omega), b2' 227 c (by omega), b2' 228 c (by omega), bk 235 c (by decide) (by decide)]; exact S.2.1 c hc, fun k hk => by rw [b2' 231 k (by omega)]; exact S.2.2 k hk⟩⟩
  have hst : gm_177_21 (n' + 1) g 8 b = if v = true then ((gm_161 0 b).bind fun q7 => if (-2147483648 ≤ q7.1 ∧ q7.1 ≤ 2147483647) then (if ¬ q7.1 = 0 then gm_177_117 q7.2 else gm_177_88 100000 0 q7.2) else none) else some b := by
    rw [gm_177_21, if_pos (by decide), if_pos (by decide), v1, Option.bind_some]
    cases v with
    | true => rw [if_pos rfl, if_pos (show ¬ gb (true, b).1 = 0 from (by decide : ¬ gb true = 0))]
    | false => rw [if_neg Bool.false_ne_true, if_neg (show ¬ ¬ gb (false, b).1 = 0 from (by decide : ¬ ¬ gb false = 0))]
  rw [hd, hst]
  obtain ⟨p1, p2⟩ := PA_sh M hg
  obtain ⟨l1, l2⟩ := L0_r M hg
  have msum := (M.2.2.2.2.1 g hg).2
  cases v with
  | false =>
    have ns : ¬ SHr (s.1 216) R C := fun h => Bool.false_ne_true (v2.mpr h)
    refine ⟨b, if_neg Bool.false_ne_true, fun z hz => ?_, KR_tr a2 KRb⟩
    rw [(b4 z (by omega) hz).1]
    unfold LV
    have t0 := (TB_0 (.inl rfl) p1 (fun h => absurd h (by decide))).1 0 z (by omega) (by omega)
    have q0 : Psh (s.1 216) R C g 0 = 0 := by
      show (if 0 = 0 then UN (s.1 216) R C g - ASf (s.1 216) R C g else 0) = 0
      rw [if_pos rfl, show ASf (s.1 216) R C g = UN (s.1 216) R C g from if_neg ns]
      omega
    rw [q0] at t0
    omega
  | true =>
    have sh := v2.mp rfl
    have told : s.1 216 2 / 2 ^ 0 % 2 = 1 := by
      refine Classical.byContradiction fun h => ?_
      have : KD (s.1 216) R C 0 8 = 0 := sg_0 fun z hz => by
        have e : NC (s.1 216) R C 0 z = 0 := if_neg h
        rw [e]
        rfl
      have := sh.2
      omega
    have P0 : Psh (s.1 216) R C g 0 = UN (s.1 216) R C g := by
      show (if 0 = 0 then UN (s.1 216) R C g - ASf (s.1 216) R C g else 0) = _
      rw [if_pos rfl, show ASf (s.1 216) R C g = 0 from if_pos sh]
      omega
    have i0 : ∀ y, 9 * 0 + y = y := fun y => by omega
    have b17 : b.1 215 17 = 1 := (bk 215 17 (by decide) (by decide)).trans a3
    have b18 : b.1 215 18 = 8 := (bk 215 18 (by decide) (by decide)).trans a4
    have b21 : b.2 221 0 = UN (s.1 216) R C g := by rw [b2, gw2_2, if_pos ⟨rfl, rfl⟩]
    have e61 : ∀ t : gx_S, t.1 215 18 = 8 → gm_161 0 t = some (sg (fun y => t.1 222 y) 8, gw1 t 223 0 (sg (fun y => t.1 222 y) 8)) := fun t h => by
      have e := sp_161 (s := t) (r := 0) (m := 8) (by omega) (by omega) h
      simp only [i0] at e
      exact e
    rw [if_pos rfl, e61 b b18, Option.bind_some]
    have sb : sg (fun y => b.1 222 y) 8 = sg (L0 (s.1 216) R C g) 8 := sg_eq fun y hy => (b4 y (by omega) hy).2
    have nn := sg_nn l1
    rw [sb]
    obtain ⟨U0, U1⟩ := UN_r M hg
    have fin : ∀ t u : gx_S, KR s t → gm_177_117 t = some u → (∀ k i, k ≠ 236 → u.1 k i = t.1 k i) → (∀ k i, k ≠ 224 → k ≠ 225 → u.2 k i = t.2 k i) → (∀ i, 0 ≤ t.2 225 i ∧ t.2 225 i ≤ 1000000000 → 0 ≤ u.2 225 i ∧ u.2 225 i ≤ 1000000000) → KR s u := fun t u K _ u2 u3 u4 => KR_tr K ⟨fun k j q => u2 k j (by omega), fun k j q => u3 k j (by omega) (by omega), fun S => ⟨fun j hj => by
      have := S.1 j hj
      rw [u2 232 j (by decide), u2 233 j (by decide), u2 234 j (by decide)]
      exact ⟨this.1, this.2.1, this.2.2.1, u4 j this.2.2.2⟩, fun c hc => by rw [u3 229 c (by decide) (by decide), u3 230 c (by decide) (by decide), u3 227 c (by decide) (by decide), u3 228 c (by decide) (by decide), u2 235 c (by decide)]; exact S.2.1 c hc, fun k hk => by rw [u3 231 k (by decide) (by decide)]; exact S.2.2 k hk⟩⟩
    have KRw : ∀ (t : gx_S) (v : Int), KR t (gw1 t 223 0 v) := fun t v => by
      have o : ∀ k j, k ≠ 223 → (gw1 t 223 0 v).1 k j = t.1 k j := fun k j h => by rw [gw1_1, if_neg (fun x => h x.1)]
      refine ⟨fun k j q => o k j (by omega), fun _ _ _ => rfl, fun S => ⟨fun j hj => ?_, fun c hc => ?_, S.2.2⟩⟩
      · rw [o 232 j (by decide), o 233 j (by decide), o 234 j (by decide)]
        exact S.1 j hj
      · rw [o 235 c (by decide)]
        exact S.2.1 c hc
    show ∃ u : gx_S, (if (-2147483648 ≤ sg (L0 (s.1 216) R C g) 8 ∧ sg (L0 (s.1 216) R C g) 8 ≤ 2147483647) then (if ¬ sg (L0 (s.1 216) R C g) 8 = 0 then gm_177_117 (gw1 b 223 0 (sg (L0 (s.1 216) R C g) 8)) else gm_177_88 100000 0 (gw1 b 223 0 (sg (L0 (s.1 216) R C g) 8))) else none) = some u ∧ _
    rw [if_pos (by omega)]
    obtain ⟨c, hc⟩ : ∃ c, c = gw1 b 223 0 (sg (L0 (s.1 216) R C g) 8) := ⟨_, rfl⟩
    rw [← hc]
    have ck : ∀ k i, k ≠ 223 → c.1 k i = b.1 k i := fun k i h => by rw [hc, gw1_1, if_neg (fun x => h x.1)]
    have c2 : c.2 = b.2 := by rw [hc]; rfl
    have Kc : KR s c := KR_tr (KR_tr a2 KRb) (by rw [hc]; exact KRw b _)
    by_cases z : sg (L0 (s.1 216) R C g) 8 = 0
    · rw [if_neg (fun h => h z)]
      have ec : c.1 216 = s.1 216 := KR_216 Kc
      obtain ⟨d, d1, d2, d3, d4, d5⟩ := sl_177_88 M told 100000 0 c (by omega) (by omega) ec
      have d1 : gm_177_88 100000 0 c = _ := d1
      have Kd : KR c d := ⟨fun k j q => d3 k j (by omega), fun k j _ => by rw [d2], fun S => ⟨fun j hj => by rw [d2, d3 232 j (by decide), d3 233 j (by decide), d3 234 j (by decide)]; exact S.1 j hj, fun c hc => by rw [d2, d3 235 c (by decide)]; exact S.2.1 c hc, fun k hk => by rw [d2]; exact S.2.2 k hk⟩⟩
      rw [d1, e61 d (by rw [d3 215 18 (by decide), ck 215 18 (by decide)]; exact b18), Option.bind_some]
      obtain ⟨e, he⟩ : ∃ e, e = gw1 d 223 0 (sg (fun y => d.1 222 y) 8) := ⟨_, rfl⟩
      show ∃ u : gx_S, gm_177_117 (gw1 d 223 0 (sg (fun y => d.1 222 y) 8)) = some u ∧ _
      rw [← he]
      have ek : ∀ k i, k ≠ 223 → e.1 k i = d.1 k i := fun k i h => by rw [he, gw1_1, if_neg (fun x => h x.1)]
      have Ke : KR s e := KR_tr (KR_tr Kc Kd) (by rw [he]; exact KRw d _)
      obtain ⟨u, u1, u2, u3, u4, u5⟩ := sl_177_117 M hg (t := e) (by rw [ek 215 17 (by decide), d3 215 17 (by decide), ck 215 17 (by decide)]; exact b17) (by rw [ek 215 18 (by decide), d3 215 18 (by decide), ck 215 18 (by decide)]; exact b18) (by rw [P0, he, gw1_2, d2, c2]; exact b21) (fun y hy => by
        rw [ek 222 y (by decide), d4 y (by omega) hy]
        unfold Ash
        rw [if_pos ⟨rfl, hy⟩, if_pos z]) (by
        rw [he, gw1_1, if_pos ⟨rfl, rfl⟩]
        exact sg_eq fun y _ => by rw [gw1_1, if_neg (by omega)]) (fun x hx => by rw [ek 236 x (by decide), d3 236 x (by decide), ck 236 x (by decide)]; exact (b4 x (by omega) hx).1)
      exact ⟨u, u1, u2, fin e u Ke u1 u3 u4 u5⟩
    · rw [if_pos z]
      obtain ⟨u, u1, u2, u3, u4, u5⟩ := sl_177_117 M hg (t := c) (by rw [ck 215 17 (by decide)]; exact b17) (by rw [ck 215 18 (by decide)]; exact b18) (by rw [P0, c2]; exact b21) (fun y hy => by
        rw [ck 222 y (by decide), (b4 y (by omega) hy).2]
        unfold Ash
        rw [if_pos ⟨rfl, hy⟩, if_neg z]) (by
        rw [hc, gw1_1, if_pos ⟨rfl, rfl⟩, ← sb]
        exact sg_eq fun y _ => by rw [gw1_1, if_neg (by omega)]) (fun x hx => by rw [ck 236 x (by decide)]; exact (b4 x (by omega) hx).1)
      exact ⟨u, u1, u2, fin c u Kc u1 u3 u4 u5⟩
end
section
/-! THE REFERENCE: laysMoved -/
theorem sg_single {f : Nat → Int} {n i : Nat} (hi : i < n) (h : ∀ c, c < n → c ≠ i → f c = 0) : sg f n = f i := by
  have a := sg_updn (f := fun _ => 0) (g := f) (i := i) (n := n) (x := f i) hi (Int.zero_add _).symm fun c hc e => h c hc e
  rw [a, sg_0 (f := fun _ => 0) fun _ _ => rfl]
  exact Int.zero_add _
theorem sg_swap3 (f : Nat → Nat → Nat → Int) (n m K : Nat) : sg (fun x => sg (fun y => sg (fun k => f x y k) K) m) n = sg (fun k => sg (fun x => sg (fun y => f x y k) m) n) K := by
  have a : sg (fun x => sg (fun y => sg (fun k => f x y k) K) m) n = sg (fun x => sg (fun k => sg (fun y => f x y k) m) K) n := sg_eq fun x _ => sg_swap (fun y k => f x y k) K m
  rw [a]
  exact sg_swap (fun x k => sg (fun y => f x y k) m) K n
/-- cells, or weights, that are so in both zonings -/
def SO (f : Nat → Int) (R C g : Nat) (o z : Int) (b : Bool) : Int := sg (fun k => if (o = -1 ∨ f (52 + 96 * 0 + 12 * (k / C) + k % C) = o) ∧ (z = -1 ∨ f (52 + 96 * 1 + 12 * (k / C) + k % C) = z) then (if b = true then 1 else f (32 + 4 * g + (f (52 + 96 * 2 + 12 * (k / C) + k % C)).toNat)) else 0) (R * C)
def PMV (f : Nat → Int) (R C g x y : Nat) : Int := SO f R C g x y (decide (SO f R C g x (-1) false = 0))
theorem MP_cok {s : gx_S} {R C : Nat} (M : MP (s.1 216) R C) (h : s.1 216 2 = 7) : cok s R C := by
  have m8 := M.2.2.2.2.2.2.2.1
  refine ⟨fun k hk => ?_, fun k hk => ?_, fun k hk => ?_⟩
  · have := m8 0 (by omega) (by rw [h]; rfl) k hk
    rw [if_neg (by omega)] at this
    exact this
  · have := m8 1 (by omega) (by rw [h]; rfl) k hk
    rw [if_neg (by omega)] at this
    exact this
  · have := m8 2 (by omega) (by rw [h]; rfl) k hk
    rw [if_pos rfl] at this
    exact this
theorem sp_157g {s : gx_S} {R C : Nat} (M : MP (s.1 216) R C) (h : s.1 216 2 = 7) {g : Nat} (o z : Int) (b : Bool) (hg : g < 3) (ho : -1 ≤ o ∧ o ≤ 8) (hz : -1 ≤ z ∧ z ≤ 8) : gm_157 g o z (gb b) s = some (SO (s.1 216) R C g o z b, s) := sp_157 (MP_mz M) (MP_cok M h) g o z b hg ho hz
/-- each cell's own weight (or 1) is within 0 and 9 -/
theorem wt_r {f : Nat → Int} {R C g k : Nat} (M : MP f R C) (h : f 2 = 7) (hg : g < 3) (hk : k < R * C) (b : Bool) : 0 ≤ (if b = true then 1 else f (32 + 4 * g + (f (52 + 96 * 2 + 12 * (k / C) + k % C)).toNat)) ∧ (if b = true then 1 else f (32 + 4 * g + (f (52 + 96 * 2 + 12 * (k / C) + k % C)).toNat)) ≤ 9 := by
  have l := M.2.2.2.2.2.2.2.1 2 (by omega) (by rw [h]; rfl) k hk
  rw [if_pos rfl] at l
  split
  · omega
  · rw [show 32 + 4 * g + (f (52 + 96 * 2 + 12 * (k / C) + k % C)).toNat = 32 + (4 * g + (f (52 + 96 * 2 + 12 * (k / C) + k % C)).toNat) by omega]
    exact M.2.2.2.2.2.1 _ (by omega)
theorem SO_r {f : Nat → Int} {R C g : Nat} (M : MP f R C) (h : f 2 = 7) (hg : g < 3) (o z : Int) (b : Bool) : 0 ≤ SO f R C g o z b ∧ SO f R C g o z b ≤ 864 := by
  have hRC := RC_96 M.1.2.2.1 M.1.2.2.2
  have t : ∀ k, k < R * C → 0 ≤ (if (o = -1 ∨ f (52 + 96 * 0 + 12 * (k / C) + k % C) = o) ∧ (z = -1 ∨ f (52 + 96 * 1 + 12 * (k / C) + k % C) = z) then (if b = true then 1 else f (32 + 4 * g + (f (52 + 96 * 2 + 12 * (k / C) + k % C)).toNat)) else 0) ∧ (if (o = -1 ∨ f (52 + 96 * 0 + 12 * (k / C) + k % C) = o) ∧ (z = -1 ∨ f (52 + 96 * 1 + 12 * (k / C) + k % C) = z) then (if b = true then 1 else f (32 + 4 * g + (f (52 + 96 * 2 + 12 * (k / C) + k % C)).toNat)) else 0) ≤ 9 := fun k hk => by
    have w := wt_r M h hg hk b
    split
    · exact w
    · omega
  unfold SO
  refine ⟨sg_nn fun k hk => (t k hk).1, ?_⟩
  have e := sg_le (n := R * C) (g := fun _ => 9 * 1) fun k hk => (by
    have := (t k hk).2
    show _ ≤ (9 : Int) * 1
    rw [Int.mul_one]
    exact this)
  rw [sg_mul, sg_one] at e
  refine Int.le_trans e ?_
  omega
/-- all of the parts together -/
theorem SO_B {f : Nat → Int} {R C g : Nat} (M : MP f R C) (h : f 2 = 7) (hg : g < 3) (b : Nat → Nat → Bool) (n m : Nat) : sg (fun x => sg (fun y => SO f R C g x y (b x y)) m) n ≤ 864 := by
  have hRC := RC_96 M.1.2.2.1 M.1.2.2.2
  have e1 : sg (fun x => sg (fun y => SO f R C g x y (b x y)) m) n = sg (fun k => sg (fun x => sg (fun y => if (((x : Nat) : Int) = -1 ∨ f (52 + 96 * 0 + 12 * (k / C) + k % C) = x) ∧ (((y : Nat) : Int) = -1 ∨ f (52 + 96 * 1 + 12 * (k / C) + k % C) = y) then (if b x y = true then 1 else f (32 + 4 * g + (f (52 + 96 * 2 + 12 * (k / C) + k % C)).toNat)) else 0) m) n) (R * C) := by
    unfold SO
    exact sg_swap3 (fun x y k => if (((x : Nat) : Int) = -1 ∨ f (52 + 96 * 0 + 12 * (k / C) + k % C) = x) ∧ (((y : Nat) : Int) = -1 ∨ f (52 + 96 * 1 + 12 * (k / C) + k % C) = y) then (if b x y = true then 1 else f (32 + 4 * g + (f (52 + 96 * 2 + 12 * (k / C) + k % C)).toNat)) else 0) n m (R * C)
  rw [e1]
  have e := sg_le (n := R * C) (g := fun _ => 9 * 1) (f := fun k => sg (fun x => sg (fun y => if (((x : Nat) : Int) = -1 ∨ f (52 + 96 * 0 + 12 * (k / C) + k % C) = x) ∧ (((y : Nat) : Int) = -1 ∨ f (52 + 96 * 1 + 12 * (k / C) + k % C) = y) then (if b x y = true then 1 else f (32 + 4 * g + (f (52 + 96 * 2 + 12 * (k / C) + k % C)).toNat)) else 0) m) n) fun k hk => by
    have w := fun b => wt_r M h hg hk b
    have l0 := M.2.2.2.2.2.2.2.1 0 (by omega) (by rw [h]; rfl) k hk
    have l1 := M.2.2.2.2.2.2.2.1 1 (by omega) (by rw [h]; rfl) k hk
    rw [if_neg (by omega)] at l0 l1
    obtain ⟨a, ea⟩ : ∃ a : Nat, f (52 + 96 * 0 + 12 * (k / C) + k % C) = a := ⟨_, (Int.toNat_of_nonneg l0.1).symm⟩
    obtain ⟨d, ed⟩ : ∃ d : Nat, f (52 + 96 * 1 + 12 * (k / C) + k % C) = d := ⟨_, (Int.toNat_of_nonneg l1.1).symm⟩
    rw [ea, ed]
    have z : ∀ x y : Nat, ¬ (x = a ∧ y = d) → (if (((x : Nat) : Int) = -1 ∨ (a : Int) = x) ∧ (((y : Nat) : Int) = -1 ∨ (d : Int) = y) then (if b x y = true then 1 else f (32 + 4 * g + (f (52 + 96 * 2 + 12 * (k / C) + k % C)).toNat)) else 0) = 0 := fun x y q => if_neg (by omega)
    have zin : ∀ x : Nat, sg (fun y => if (((x : Nat) : Int) = -1 ∨ (a : Int) = x) ∧ (((y : Nat) : Int) = -1 ∨ (d : Int) = y) then (if b x y = true then 1 else f (32 + 4 * g + (f (52 + 96 * 2 + 12 * (k / C) + k % C)).toNat)) else 0) m ≤ 9 := fun x => by
      by_cases q : d < m
      · rw [sg_single q fun y _ hy => z x y fun t => hy t.2]
        have := w (b x d)
        show (if _ then _ else _) ≤ (9 : Int)
        split
        · exact this.2
        · omega
      · rw [sg_0 fun y hy => z x y fun t => by omega]
        omega
    by_cases q : a < n
    · rw [sg_single q fun x _ hx => sg_0 fun y _ => z x y fun t => hx t.1]
      exact zin a
    · rw [sg_0 fun x hx => sg_0 fun y _ => z x y fun t => by omega]
      omega
  rw [sg_mul, sg_one] at e
  refine Int.le_trans e ?_
  omega
theorem LV_r {f : Nat → Int} {R C g : Nat} (M : MP f R C) (hg : g < 3) : (∀ z, z < 8 → 0 ≤ LV f R C g z) ∧ sg (LV f R C g) 8 + ASf f R C g ≤ sg (fun z => f (5 + 9 * g + z)) 9 := by
  obtain ⟨p1, p2⟩ := PA_sh M hg
  obtain ⟨l1, l2⟩ := L0_r M hg
  obtain ⟨t1, t2⟩ := TB_0 (md := 0) (.inl rfl) p1 (fun h => absurd h (by decide))
  refine ⟨fun z hz => ?_, ?_⟩
  · have := l1 z hz
    have := (t1 0 z (by omega) (by omega)).1
    unfold LV
    omega
  · have e := sg_add (L0 f R C g) (fun z => TB 0 (Psh f R C g) (Ash f R C g) 0 z) 8
    have a := t2 0 (by omega)
    have d : sg (fun z => TB 0 (Psh f R C g) (Ash f R C g) 0 z) 9 = sg (fun z => TB 0 (Psh f R C g) (Ash f R C g) 0 z) 8 + TB 0 (Psh f R C g) (Ash f R C g) 0 8 := rfl
    have n8 := (t1 0 8 (by omega) (by omega)).1
    have q0 : Psh f R C g 0 = UN f R C g - ASf f R C g := if_pos rfl
    have u0 := UN_r M hg
    have q1 : 0 ≤ UN f R C g - ASf f R C g := by
      unfold ASf
      split <;> omega
    have eL : sg (LV f R C g) 8 = sg (fun z => L0 f R C g z + TB 0 (Psh f R C g) (Ash f R C g) 0 z) 8 := rfl
    rw [q0] at a
    split at a <;> omega
theorem PA_mv {f : Nat → Int} {R C g : Nat} (M : MP f R C) (h : f 2 = 7) (hg : g < 3) : PA (LV f R C g) (PMV f R C g) ∧ sg (fun x => sg (fun y => PMV f R C g x y) 9) 8 ≤ 864 := by
  obtain ⟨a, b⟩ := LV_r M hg
  have m := (M.2.2.2.2.1 g hg).2
  have u0 := UN_r M hg
  have as0 : 0 ≤ ASf f R C g := by
    unfold ASf
    split <;> omega
  have B := SO_B M h hg (fun x y => decide (SO f R C g x (-1) false = 0)) 8 9
  have B : sg (fun x => sg (fun y => PMV f R C g x y) 9) 8 ≤ 864 := B
  refine ⟨⟨fun x hx => ⟨a x hx, ?_⟩, fun x y _ _ => ?_, by omega⟩, B⟩
  · have := sg_at a x hx
    omega
  · have := SO_r M h hg x y (decide (SO f R C g x (-1) false = 0))
    unfold PMV
    omega
end
section
/-! THE REFERENCE: laysMoved, its fills, sums of rows and columns -/
theorem sp_180 {s : gx_S} {R C : Nat} (M : MP (s.1 216) R C) (h : s.1 216 2 = 7) {g x : Nat} (hg : g < 3) (hx : x < 9) : gm_180 g x s = some (decide (SO (s.1 216) R C g x (-1) false = 0), s) := by
  have r := SO_r M h hg x (-1) false
  have c57 := sp_157g M h (x : Int) (-1) false hg (by omega) (by omega)
  have c57 : gm_157 g x (-1) 0 s = _ := c57
  unfold gm_180
  rw [c57, Option.bind_some]
  generalize SO (s.1 216) R C g x (-1) false = S at *
  rw [if_pos (by omega)]
  by_cases z : S = 0
  · rw [if_neg (fun q => q z), decide_eq_true z]
  · rw [if_pos z, decide_eq_false z]
theorem sl_181_44 {f : Nat → Int} {R C g x : Nat} (k : Int → Int → gx_S → Option gx_S) (M : MP f R C) (h7 : f 2 = 7) (hg : g < 3) (hx : x < 8) (b : Bool) : ∀ (n y : Nat) (s : gx_S), 9 < n + y → y ≤ 9 → s.1 216 = f → ∃ u : gx_S, gm_181_44 k n g x (gb b) y s = k g ((x + 1 : Nat) : Int) u ∧ u.2 = s.2 ∧ (∀ k i, k ≠ 222 → u.1 k i = s.1 k i) ∧ (∀ y', y ≤ y' → y' < 9 → u.1 222 (9 * x + y') = SO f R C g x y' b) ∧ ∀ i, ¬ (9 * x + y ≤ i ∧ i < 9 * x + 9) → u.1 222 i = s.1 222 i := by
  intro n
  induction n with
  | zero => intro y s h; omega
  | succ n ih =>
    intro y s h hy ef
    rw [gm_181_44, if_pos (by omega)]
    by_cases q : y = 9
    · rw [if_pos (by omega)]
      exact ⟨s, rfl, rfl, fun _ _ _ => rfl, fun y' h1 h2 => by omega, fun _ _ => rfl⟩
    · have ce : ((y : Int) + 1) = ((y + 1 : Nat) : Int) := rfl
      have i1 : ((9 * (x : Int) + (y : Int))).toNat = 9 * x + y := by omega
      have c57 := sp_157g (s := s) (R := R) (C := C) (by rw [ef]; exact M) (by rw [ef]; exact h7) (x : Int) (y : Int) b hg (by omega) (by omega)
      rw [ef] at c57
      rw [if_neg (by omega), sp_160, Option.bind_some]
      show ∃ u : gx_S, ((gm_157 g x y (gb b) s).bind _) = k g ((x + 1 : Nat) : Int) u ∧ _
      rw [c57, Option.bind_some, if_pos (by omega), i1, ce]
      obtain ⟨u, u1, u2, u3, u4, u5⟩ := ih (y + 1) (gw1 s 222 (9 * x + y) (SO f R C g x y b)) (by omega) (by omega) (by
        funext i
        rw [gw1_1, if_neg (by omega), ef])
      refine ⟨u, u1, u2, fun k i h1 => by rw [u3 k i h1, gw1_1, if_neg (fun x => h1 x.1)], fun y' h1 h2 => ?_, fun i h1 => ?_⟩
      · by_cases e : y' = y
        · rw [e, u5 _ (by omega), gw1_1, if_pos ⟨rfl, rfl⟩]
        · exact u4 y' (by omega) h2
      · rw [u5 i (by omega), gw1_1, if_neg (by omega)]
theorem sl_181_15 {f : Nat → Int} {R C g : Nat} (M : MP f R C) (h7 : f 2 = 7) (hg : g < 3) : ∀ (n x : Nat) (s : gx_S), 8 < n + x → x ≤ 8 → s.1 216 = f → (∀ z, z < 8 → s.1 236 z = LV f R C g z) → ∃ u : gx_S, gm_181_15 n g x s = some u ∧ (∀ k i, k ≠ 222 → u.1 k i = s.1 k i) ∧ (∀ k i, k ≠ 221 → u.2 k i = s.2 k i) ∧ (∀ x', x ≤ x' → x' < 8 → u.2 221 x' = LV f R C g x' ∧ ∀ y, y < 9 → u.1 222 (9 * x' + y) = PMV f R C g x' y) ∧ (∀ i, i < x → u.2 221 i = s.2 221 i) ∧ ∀ i, i < 9 * x → u.1 222 i = s.1 222 i := by
  intro n
  induction n with
  | zero => intro x s h; omega
  | succ n ih =>
    intro x s h hx ef hl
    rw [gm_181_15, if_pos (by omega)]
    by_cases q : x = 8
    · rw [if_pos (by omega)]
      exact ⟨s, rfl, fun _ _ _ => rfl, fun _ _ _ => rfl, fun x' h1 h2 => by omega, fun _ _ => rfl, fun _ _ => rfl⟩
    · have i5 : ((x : Int)).toNat = x := by omega
      obtain ⟨p1, p2⟩ := PA_mv M h7 hg
      have lr := p1.1 x (by omega)
      have c80 := sp_180 (s := gw2 s 221 x (LV f R C g x)) (R := R) (C := C) (by show MP (s.1 216) R C; rw [ef]; exact M) (by show s.1 216 2 = 7; rw [ef]; exact h7) hg (show x < 9 by omega)
      have e16 : (gw2 s 221 x (LV f R C g x)).1 216 = f := ef
      rw [e16] at c80
      rw [if_neg (by omega), if_pos (by omega), i5, hl x (by omega), if_pos (by omega), c80, Option.bind_some]
      obtain ⟨t, t1, t2, t3, t4, t5⟩ := sl_181_44 (gm_181_15 n) M h7 hg (show x < 8 by omega) (decide (SO f R C g x (-1) false = 0)) 100000 0 (gw2 s 221 x (LV f R C g x)) (by omega) (by omega) ef
      have t1 : gm_181_44 (gm_181_15 n) 100000 g x (gb (decide (SO f R C g x (-1) false = 0))) 0 (gw2 s 221 x (LV f R C g x)) = gm_181_15 n g ((x + 1 : Nat) : Int) t := t1
      show ∃ u : gx_S, gm_181_44 (gm_181_15 n) 100000 g x (gb (decide (SO f R C g x (-1) false = 0))) 0 (gw2 s 221 x (LV f R C g x)) = some u ∧ _
      rw [t1]
      have tk : ∀ k i, k ≠ 222 → t.1 k i = s.1 k i := fun k i h1 => t3 k i h1
      obtain ⟨u, u1, u2, u3, u4, u5, u6⟩ := ih (x + 1) t (by omega) (by omega) (by
        funext i
        rw [tk 216 i (by decide), ef]) (fun z hz => by rw [tk 236 z (by decide)]; exact hl z hz)
      refine ⟨u, u1, fun k i h1 => (u2 k i h1).trans (tk k i h1), fun k i h1 => ?_, fun x' h1 h2 => ?_, fun i h1 => ?_, fun i h1 => ?_⟩
      · rw [u3 k i h1, t2, gw2_2, if_neg (fun x => h1 x.1)]
      · by_cases e : x' = x
        · rw [e]
          refine ⟨?_, fun y hy => ?_⟩
          · rw [u5 x (by omega), t2, gw2_2, if_pos ⟨rfl, rfl⟩]
          · rw [u6 _ (by omega), t4 y (by omega) hy]
            rfl
        · exact u4 x' (by omega) h2
      · rw [u5 i (by omega), t2, gw2_2, if_neg (by omega)]
      · rw [u6 i (by omega), t5 i (by omega)]
        rfl
theorem sp_181 {s : gx_S} {R C g : Nat} (M : MP (s.1 216) R C) (h7 : s.1 216 2 = 7) (hg : g < 3) : ∃ u : gx_S, gm_181 g s = some u ∧ KR s u ∧ u.1 215 17 = 8 ∧ u.1 215 18 = 9 ∧ ∀ x, x < 8 → u.2 221 x = LV (s.1 216) R C g x ∧ ∀ y, y < 9 → u.1 222 (9 * x + y) = PMV (s.1 216) R C g x y := by
  obtain ⟨a, a1, a2, a3⟩ := sp_177 M hg
  obtain ⟨b, b1, b2, b3, b4, b5, b6, b7⟩ := KR_159 a 8 9
  have Kb := KR_tr a3 b2
  obtain ⟨u, u1, u2, u3, u4, u5, u6⟩ := sl_181_15 M h7 hg 100000 0 b (by omega) (by omega) (KR_216 Kb) fun z hz => by
    rw [b6 236 z (by decide) (by decide)]
    exact a2 z hz
  have u1 : gm_181_15 100000 g 0 b = _ := u1
  refine ⟨u, ?_, KR_tr Kb ⟨fun k j q => u2 k j (by omega), fun k j q => u3 k j (by omega), fun S => ⟨fun j hj => by rw [u2 232 j (by decide), u2 233 j (by decide), u2 234 j (by decide), u3 225 j (by decide)]; exact S.1 j hj, fun c hc => by rw [u2 235 c (by decide), u3 229 c (by decide), u3 230 c (by decide), u3 227 c (by decide), u3 228 c (by decide)]; exact S.2.1 c hc, fun k hk => by rw [u3 231 k (by decide)]; exact S.2.2 k hk⟩⟩, (u2 215 17 (by decide)).trans b3, (u2 215 18 (by decide)).trans b4, fun x hx => u4 x (by omega) hx⟩
  unfold gm_181
  rw [a1, Option.bind_some, b1, Option.bind_some, u1]
/-- where those of the old zones go, in whole persons -/
def GV (f : Nat → Int) (R C g : Nat) : Nat → Nat → Int := TB (f 3) (LV f R C g) (PMV f R C g)
theorem sp_181f {s : gx_S} {R C g : Nat} (M : MP (s.1 216) R C) (h7 : s.1 216 2 = 7) (hg : g < 3) (S : SC s) : ∃ u w : gx_S, gm_181 g s = some u ∧ gm_173 u = some w ∧ KR s u ∧ KR s w ∧ w.1 215 17 = 8 ∧ w.1 215 18 = 9 ∧ (∀ x, x < 8 → w.2 221 x = LV (s.1 216) R C g x ∧ w.1 223 x = sg (fun y => PMV (s.1 216) R C g x y) 9 ∧ ∀ y, y < 9 → w.1 222 (9 * x + y) = PMV (s.1 216) R C g x y ∧ w.2 224 (9 * x + y) = GV (s.1 216) R C g x y) := by
  obtain ⟨u, u1, u2, u3, u4, u5⟩ := sp_181 M h7 hg
  obtain ⟨p1, p2⟩ := PA_mv M h7 hg
  obtain ⟨w, w1, w2, w3, w4, w5, w6⟩ := TB_ref (md := s.1 216 3) (r := u) (R := 8) (m := 9) M.2.2.1 p1 (u2.2.2 S) u3 u4 (by omega) (by omega) (fun _ => p2) (by rw [KR_216 u2]) (fun x hx => (u5 x hx).1) (fun x y hx hy => (u5 x hx).2 y hy) (fun x y hx hy hn => absurd ⟨hx, hy⟩ hn)
  refine ⟨u, w, u1, w1, u2, KR_tr u2 (KR_rc w3 w4), ?_, ?_, fun x hx => ⟨?_, w5 x hx, fun y hy => ⟨?_, w2 x y hx hy⟩⟩⟩
  · rw [w3.1 215 17 (by decide) (by decide) (by decide) (by decide) (by decide)]
    exact u3
  · rw [w3.1 215 18 (by decide) (by decide) (by decide) (by decide) (by decide)]
    exact u4
  · rw [w3.2 221 x (by omega) (by omega)]
    exact (u5 x hx).1
  · rw [w3.1 222 _ (by decide) (by decide) (by decide) (by decide) (by decide)]
    exact (u5 x hx).2 y hy
theorem sp_183 {s : gx_S} {R y : Nat} (h : s.1 215 17 = R) (R8 : R ≤ 8) (hy : y < 9) : gm_183 y s = some (sg (fun x => s.2 224 (9 * x + y)) R, s) := by
  have e : ∀ (n j : Nat), R < n + j → j ≤ R → gm_183_4 n y (sg (fun x => s.2 224 (9 * x + y)) j) j s = some (sg (fun x => s.2 224 (9 * x + y)) R, s) := by
    intro n
    induction n with
    | zero => intro j h; omega
    | succ n ih =>
      intro j h' hj
      rw [gm_183_4, h, if_pos (by omega), if_pos (by omega)]
      by_cases q : j = R
      · rw [if_pos (by omega), q]
      · have ce : ((j : Int) + 1) = ((j + 1 : Nat) : Int) := rfl
        have i1 : ((9 * (j : Int) + (y : Int))).toNat = 9 * j + y := by omega
        rw [if_neg (by omega), sp_160, Option.bind_some, if_pos (by omega), i1, ce]
        exact ih (j + 1) (by omega) (by omega)
  exact e 100000 0 (by omega) (by omega)
theorem sp_182 {s : gx_S} {m x : Nat} (h : s.1 215 18 = m) (m9 : m ≤ 9) (hx : x < 8) : gm_182 x s = some (sg (fun y => s.2 224 (9 * x + y)) m, s) := by
  have e : ∀ (n j : Nat), m < n + j → j ≤ m → gm_182_4 n x (sg (fun y => s.2 224 (9 * x + y)) j) j s = some (sg (fun y => s.2 224 (9 * x + y)) m, s) := by
    intro n
    induction n with
    | zero => intro j h; omega
    | succ n ih =>
      intro j h' hj
      rw [gm_182_4, h, if_pos (by omega), if_pos (by omega)]
      by_cases q : j = m
      · rw [if_pos (by omega), q]
      · have ce : ((j : Int) + 1) = ((j + 1 : Nat) : Int) := rfl
        have i1 : ((9 * (x : Int) + (j : Int))).toNat = 9 * x + j := by omega
        rw [if_neg (by omega), sp_160, Option.bind_some, if_pos (by omega), i1, ce]
        exact ih (j + 1) (by omega) (by omega)
  exact e 100000 0 (by omega) (by omega)
theorem sp_184 {s : gx_S} {R m : Nat} (h : s.1 215 17 = R) (h18 : s.1 215 18 = m) (R8 : R ≤ 8) (m9 : m ≤ 9) : gm_184 s = some (sg (fun x => sg (fun y => s.2 224 (9 * x + y)) m) R, s) := by
  have e : ∀ (n j : Nat), R < n + j → j ≤ R → gm_184_4 n (sg (fun x => sg (fun y => s.2 224 (9 * x + y)) m) j) j s = some (sg (fun x => sg (fun y => s.2 224 (9 * x + y)) m) R, s) := by
    intro n
    induction n with
    | zero => intro j h; omega
    | succ n ih =>
      intro j h' hj
      rw [gm_184_4, h, if_pos (by omega), if_pos (by omega)]
      by_cases q : j = R
      · rw [if_pos (by omega), q]
      · have ce : ((j : Int) + 1) = ((j + 1 : Nat) : Int) := rfl
        rw [if_neg (by omega), sp_182 h18 m9 (by omega), Option.bind_some, ce]
        exact ih (j + 1) (by omega) (by omega)
  exact e 100000 0 (by omega) (by omega)
end
section
/-! THE CLASS: fill, clear, add; its map beside the reference's -/
theorem gx_a_s {t k n : Nat} (h : gx_a t k n = true) : k < fx_N ∧ (fx_sh k).1 = t ∧ (fx_sh k).2 = n := by
  simp only [gx_a, Bool.and_eq_true] at h
  exact ⟨Nat.le_of_ble_eq_true h.1.1.1, Nat.eq_of_beq_eq_true h.1.1.2, Nat.eq_of_beq_eq_true h.1.2⟩
theorem sl_235g {k n : Nat} {v : Int} (h : gx_a 0 k n = true) (hn : n ≤ 1000) : ∀ (m i : Nat) (s : gx_S), n < m + i → i ≤ n → ∃ t : gx_S, gm_235_5 m k v i n s = some t ∧ t.2 = s.2 ∧ (∀ k' j, k' ≠ k → t.1 k' j = s.1 k' j) ∧ ∀ j, t.1 k j = if i ≤ j ∧ j < n then v else s.1 k j := by
  obtain ⟨h1, h2, h3⟩ := gx_a_s h
  have hp : gx_p k = true := by
    unfold gx_p
    rw [h3]
    exact h
  intro m
  induction m with
  | zero => intro i s q; omega
  | succ m ih =>
    intro i s q hi
    rw [gm_235_5, if_pos (by omega), if_pos (by omega)]
    by_cases e : i = n
    · rw [if_pos (by omega)]
      exact ⟨s, rfl, rfl, fun _ _ _ => rfl, fun j => by rw [if_neg (by omega)]⟩
    · have ce : ((i : Int) + 1) = ((i + 1 : Nat) : Int) := rfl
      have i5 : ((i : Int)).toNat = i := by omega
      rw [if_neg (by omega), if_pos hp, if_pos (by rw [h3]; omega), i5, ce]
      obtain ⟨t, t1, t2, t3, t4⟩ := ih (i + 1) (gw1 s k i v) (by omega) (by omega)
      refine ⟨t, t1, t2, fun k' j x => by rw [t3 k' j x, gw1_1, if_neg (fun y => x y.1)], fun j => ?_⟩
      rw [t4, gw1_1]
      by_cases e2 : j = i
      · rw [if_neg (by omega), if_pos ⟨rfl, e2⟩, if_pos (by omega)]
      · rw [if_neg (show ¬ (k = k ∧ j = i) from fun y => e2 y.2)]
        by_cases e3 : i + 1 ≤ j ∧ j < n
        · rw [if_pos e3, if_pos (by omega)]
        · rw [if_neg e3, if_neg (by omega)]
theorem sp_235g {k n : Nat} (v : Int) (s : gx_S) (h : gx_a 0 k n = true) (h0 : 0 < n) (hn : n ≤ 1000) : ∃ t : gx_S, gm_235 k v s = some t ∧ t.2 = s.2 ∧ (∀ k' j, k' ≠ k → t.1 k' j = s.1 k' j) ∧ ∀ j, t.1 k j = if j < n then v else s.1 k j := by
  obtain ⟨h1, h2, h3⟩ := gx_a_s h
  obtain ⟨t, t1, t2, t3, t4⟩ := sl_235g (v := v) h hn 100000 0 s (by omega) (by omega)
  have t1 : gm_235_5 100000 k v 0 n s = some t := t1
  refine ⟨t, ?_, t2, t3, fun j => ?_⟩
  · unfold gm_235
    rw [if_pos, h3, t1]
    refine ⟨?_, Prod.ext h2 rfl⟩
    unfold fx_ok
    rw [h3]
    simp only [Bool.and_eq_true]
    refine ⟨⟨⟨Nat.ble_eq_true_of_le h1, Nat.beq_refl _⟩, by decide⟩, Nat.ble_eq_true_of_le ?_⟩
    show (0 : Int32).toNatClampNeg + 1 ≤ n
    have : (0 : Int32).toNatClampNeg = 0 := by decide
    omega
  · rw [t4]
    by_cases e : j < n
    · rw [if_pos ⟨by omega, e⟩, if_pos e]
    · rw [if_neg (fun x => e x.2), if_neg e]
theorem sp_68 {t : Nat} (s : gx_S) (ht : fx_oc t 7 = true) : ∃ u : gx_S, gm_68 t s = some u ∧ u.2 = s.2 ∧ (∀ j, j < 8 → u.1 (t + 1) j = 0) ∧ (∀ j, j < 72 → u.1 (t + 4) j = 0 ∧ u.1 (t + 5) j = 0) ∧ ∀ k j, k ≠ t + 1 → k ≠ t + 4 → k ≠ t + 5 → u.1 k j = s.1 k j := by
  obtain ⟨a, a1, a2, a3, a4⟩ := sp_235g 0 s (ga_7_0 ht) (by omega) (by omega)
  obtain ⟨b, b1, b2, b3, b4⟩ := sp_235g 0 a (ga_7_3 ht) (by omega) (by omega)
  obtain ⟨c, c1, c2, c3, c4⟩ := sp_235g 0 b (ga_7_4 ht) (by omega) (by omega)
  refine ⟨c, ?_, c2.trans (b2.trans a2), fun j hj => ?_, fun j hj => ⟨?_, ?_⟩, fun k j h1 h2 h3 => ?_⟩
  · unfold gm_68
    rw [if_pos ht, a1, Option.bind_some, b1, Option.bind_some, c1, Option.bind_some]
  · rw [c3 _ _ (by omega), b3 _ _ (by omega), a4, if_pos hj]
  · rw [c3 _ _ (by omega), b4, if_pos hj]
  · rw [c4, if_pos hj]
  · rw [c3 _ _ h3, b3 _ _ h2, a3 _ _ h1]
/-- an entry gets more weight and more cells -/
def adt (s : gx_S) (t x y : Nat) (v w : Int) : gx_S := gw1 (gw1 s (t + 4) (9 * x + y) (s.1 (t + 4) (9 * x + y) + v)) (t + 5) (9 * x + y) (s.1 (t + 5) (9 * x + y) + w)
theorem sp_69 {t x y : Nat} {v w : Int} (s : gx_S) (ht : fx_oc t 7 = true) (hx : x < 8) (hy : y < 9) : gm_69 t x y v w s = some (adt s t x y v w) := by
  have i1 : (((x : Int) * 9 + (y : Int))).toNat = 9 * x + y := by omega
  unfold gm_69
  rw [if_pos ht, if_pos (by omega), i1, gw1_1 s (t + 4) (9 * x + y) _ (t + 5) (9 * x + y), if_neg (by omega)]
  rfl
theorem adt_4 (s : gx_S) (t x y : Nat) (v w : Int) (i : Nat) : (adt s t x y v w).1 (t + 4) i = s.1 (t + 4) i + if i = 9 * x + y then v else 0 := by
  unfold adt
  rw [gw1_1, if_neg (by omega), gw1_1]
  by_cases e : i = 9 * x + y
  · rw [if_pos ⟨rfl, e⟩, if_pos e, e]
  · rw [if_neg (fun h => e h.2), if_neg e]
    omega
theorem adt_5 (s : gx_S) (t x y : Nat) (v w : Int) (i : Nat) : (adt s t x y v w).1 (t + 5) i = s.1 (t + 5) i + if i = 9 * x + y then w else 0 := by
  unfold adt
  rw [gw1_1]
  by_cases e : i = 9 * x + y
  · rw [if_pos ⟨rfl, e⟩, if_pos e, e]
  · rw [if_neg (fun h => e h.2), gw1_1, if_neg (by omega), if_neg e]
    omega
theorem adt_o (s : gx_S) (t x y : Nat) (v w : Int) (k i : Nat) (h1 : k ≠ t + 4) (h2 : k ≠ t + 5) : (adt s t x y v w).1 k i = s.1 k i := by
  unfold adt
  rw [gw1_1, if_neg (fun x => h2 x.1), gw1_1, if_neg (fun x => h1 x.1)]
/-- a State of the class beside a map of the reference -/
def MR (s : gx_S) (a : Nat) (f : Nat → Int) (R C : Nat) : Prop := s.1 a 4 = f 0 ∧ s.1 a 5 = f 1 ∧ s.1 a 6 = f 2 ∧ s.1 a 7 = f 3 ∧ s.1 a 8 = f 4 ∧ (∀ i, i < 27 → s.1 (a + 2) i = f (5 + i)) ∧ (∀ i, i < 12 → s.1 (a + 3) i = f (32 + i)) ∧ (∀ z, z < 8 → s.1 (a + 4) z = f (44 + z)) ∧ ∀ l, l < 3 → f 2 / 2 ^ l % 2 = 1 → ∀ k, k < R * C → s.1 (a + 1) (96 * l + k) = f (52 + 96 * l + 12 * (k / C) + k % C)
theorem MR_cz {s : gx_S} {f : Nat → Int} {R C : Nat} (h : MR s 1 f R C) (M : MP f R C) : cz s 1 R C := ⟨by decide +kernel, h.1.trans M.1.1, h.2.1.trans M.1.2.1, M.1.2.2.1, M.1.2.2.2⟩
theorem sp_62g {s : gx_S} {f : Nat → Int} {R C : Nat} (h : MR s 1 f R C) (M : MP f R C) (l : Nat) (z : Int) (hl : l < 3) (hz : -2147483648 ≤ z ∧ z ≤ 2147483647) : gm_62 1 l z s = some (NC f R C l z, s) := by
  obtain ⟨h1, h2, h3, h4, h5, h6, h7, h8, h9⟩ := id h
  have e6 := h3
  unfold NC
  by_cases b : f 2 / 2 ^ l % 2 = 1
  · have m8 := M.2.2.2.2.2.2.2.1 l hl b
    have c := sp_62 (MR_cz h M) l z hl (by rw [e6]; exact M.2.1) hz (fun k hk => by
      rw [show (1 : Nat) + 1 = 2 from rfl]
      have a := h9 l hl b k hk
      have d := m8 k hk
      rw [show (1 : Nat) + 1 = 2 from rfl] at a
      rw [a]
      split at d <;> omega)
    rw [c, e6, if_pos b, if_pos b]
    have q : sg (fun k => bi (s.1 (1 + 1) (96 * l + k) = z)) (R * C) = sg (fun k => bi (f (52 + 96 * l + 12 * (k / C) + k % C) = z)) (R * C) := sg_eq fun k hk => by rw [h9 l hl b k hk]
    rw [q]
  · have c62 : gm_62 1 l z s = some (0, s) := by
      unfold gm_62
      rw [if_pos (by decide +kernel), sp_56 (by decide +kernel) l hl (by rw [e6]; exact M.2.1), e6, decide_eq_false b, Option.bind_some]
      rfl
    rw [c62, if_neg b]
theorem sp_66g {s : gx_S} {f : Nat → Int} {R C g : Nat} (h : MR s 1 f R C) (hg : g < 3) : gm_66 1 g s = some (sg (fun z => f (5 + 9 * g + z)) 9, s) := by
  have c := sp_66 (s := s) (a := 1) (by decide +kernel) g hg
  rw [c]
  have e : sg (fun k => s.1 (1 + 2) (9 * g + k)) 9 = sg (fun z => f (5 + 9 * g + z)) 9 := sg_eq fun z hz => by
    rw [h.2.2.2.2.2.1 (9 * g + z) (by omega)]
    congr 1
    omega
  rw [e]
end
section
/-! THE CLASS: who lives where -/
theorem gm_41_74 {t : Nat} {s v u : gx_S} (ht : fx_oc t 7 = true) (h : gm_70 t s = some v) (h' : gm_41 t 0 s = some u) : gm_74 t v = some u := by
  unfold gm_41 at h'
  rw [if_pos ht, h, Option.bind_some, if_pos (by decide), if_neg (by decide)] at h'
  cases e : gm_74 t v with
  | none =>
    rw [e] at h'
    cases h'
  | some w =>
    rw [e, Option.bind_some] at h'
    exact h'
theorem sl_22_13 {f : Nat → Int} {R C g a : Nat} (M : MP f R C) (hg : g < 3) (h71 : 71 ≤ a) (ho : fx_oc a 2 = true) (ht : fx_oc (a + 39) 7 = true) : ∀ (n j : Nat) (s : gx_S), 8 < n + j → j ≤ 8 → MR s 1 f R C → s.1 a 9 = g → ∃ (n' : Nat) (u : gx_S), gm_22_13 n a (sg (L0 f R C g) j) (sg (fun z => NC f R C 0 z) j) j s = gm_22_13 (n' + 1) a (sg (L0 f R C g) 8) (sg (fun z => NC f R C 0 z) 8) 8 u ∧ u.2 = s.2 ∧ (∀ k i, k ≠ a + 1 → k ≠ a + 39 + 4 → k ≠ a + 39 + 5 → u.1 k i = s.1 k i) ∧ (∀ i, u.1 (a + 1) i = if j ≤ i ∧ i < 8 then L0 f R C g i else s.1 (a + 1) i) ∧ (∀ i, u.1 (a + 39 + 4) i = s.1 (a + 39 + 4) i + if j ≤ i ∧ i < 8 then L0 f R C g i else 0) ∧ ∀ i, u.1 (a + 39 + 5) i = s.1 (a + 39 + 5) i + if j ≤ i ∧ i < 8 then NC f R C 0 i else 0 := by
  intro n
  induction n with
  | zero => intro j s h; omega
  | succ n ih =>
    intro j s h hj m e9
    by_cases q : j = 8
    · rw [q]
      exact ⟨n, s, rfl, rfl, fun _ _ _ _ _ => rfl, fun i => by rw [if_neg (by omega)], fun i => by rw [if_neg (by omega)]; omega, fun i => by rw [if_neg (by omega)]; omega⟩
    · have ce : ((j : Int) + 1) = ((j + 1 : Nat) : Int) := rfl
      have i5 : ((j : Int)).toNat = j := by omega
      have c62 := sp_62g m M 0 j (by omega) (by omega)
      have c62 : gm_62 1 0 j s = _ := c62
      obtain ⟨p1, p2⟩ := gx_a_p (ga_2_0 ho)
      have nn := NC_nn f R C 0 j
      have hRC := RC_96 M.1.2.2.1 M.1.2.2.2
      rw [← Int.natCast_mul] at nn
      have st : ∀ v : Int, gm_22_61 (gm_22_13 n) a (sg (L0 f R C g) j) (sg (fun z => NC f R C 0 z) j) j (NC f R C 0 j) (a + 1) j v s = gm_22_13 n a (sg (L0 f R C g) j + v) (sg (fun z => NC f R C 0 z) j + NC f R C 0 j) ((j + 1 : Nat) : Int) (adt (gw1 s (a + 1) j v) (a + 39) 0 j v (NC f R C 0 j)) := fun v => by
        have x1 : (gw1 s (a + 1) j v).1 (a + 1) j = v := by rw [gw1_1, if_pos ⟨rfl, rfl⟩]
        have x2 : (adt (gw1 s (a + 1) j v) (a + 39) 0 j v (NC f R C 0 j)).1 (a + 1) j = v := by rw [adt_o _ _ _ _ _ _ _ _ (by omega) (by omega), x1]
        have c69 := sp_69 (t := a + 39) (x := 0) (y := j) (v := v) (w := NC f R C 0 j) (gw1 s (a + 1) j v) ht (by omega) (by omega)
        have c69 : gm_69 (a + 39) 0 j v (NC f R C 0 j) (gw1 s (a + 1) j v) = _ := c69
        unfold gm_22_61
        rw [if_pos p1, if_pos (by rw [p2]; omega), if_pos (by omega), i5, x1, c69, Option.bind_some, x2, ce]
      have one : gm_22_13 (n + 1) a (sg (L0 f R C g) j) (sg (fun z => NC f R C 0 z) j) j s = gm_22_13 n a (sg (L0 f R C g) (j + 1)) (sg (fun z => NC f R C 0 z) (j + 1)) ((j + 1 : Nat) : Int) (adt (gw1 s (a + 1) j (L0 f R C g j)) (a + 39) 0 j (L0 f R C g j) (NC f R C 0 j)) := by
        have s1 : sg (L0 f R C g) (j + 1) = sg (L0 f R C g) j + L0 f R C g j := rfl
        have s2 : sg (fun z => NC f R C 0 z) (j + 1) = sg (fun z => NC f R C 0 z) j + NC f R C 0 j := rfl
        rw [s1, s2, ← st, gm_22_13, if_pos (by omega), if_neg (by omega), c62, Option.bind_some, if_pos (by omega)]
        by_cases z : NC f R C 0 j ≤ 0
        · rw [if_pos z, show L0 f R C g j = 0 from if_neg (by omega)]
        · have e3 : s.1 3 (9 * g + j) = f (5 + 9 * g + j) := by
            have := m.2.2.2.2.2.1 (9 * g + j) (by omega)
            rw [show (1 : Nat) + 2 = 3 from rfl] at this
            rw [this]
            congr 1
            omega
          have i3 : (((g : Int) * 9) + (j : Int)).toNat = 9 * g + j := by omega
          rw [if_neg z, e9, if_pos (by omega), i3, e3, show L0 f R C g j = f (5 + 9 * g + j) from if_pos (by omega)]
      obtain ⟨t, ht'⟩ : ∃ t, t = adt (gw1 s (a + 1) j (L0 f R C g j)) (a + 39) 0 j (L0 f R C g j) (NC f R C 0 j) := ⟨_, rfl⟩
      rw [← ht'] at one
      have to : ∀ k i, k ≠ a + 1 → k ≠ a + 39 + 4 → k ≠ a + 39 + 5 → t.1 k i = s.1 k i := fun k i h1 h2 h3 => by
        rw [ht', adt_o _ _ _ _ _ _ _ _ h2 h3, gw1_1, if_neg (fun x => h1 x.1)]
      have t2 : t.2 = s.2 := by rw [ht']; rfl
      have tm : MR t 1 f R C := by
        obtain ⟨m1, m2, m3, m4, m5, m6, m7, m8, m9⟩ := m
        refine ⟨by rw [to _ _ (by omega) (by omega) (by omega)]; exact m1, by rw [to _ _ (by omega) (by omega) (by omega)]; exact m2, by rw [to _ _ (by omega) (by omega) (by omega)]; exact m3, by rw [to _ _ (by omega) (by omega) (by omega)]; exact m4, by rw [to _ _ (by omega) (by omega) (by omega)]; exact m5, fun i hi => by rw [to _ _ (by omega) (by omega) (by omega)]; exact m6 i hi, fun i hi => by rw [to _ _ (by omega) (by omega) (by omega)]; exact m7 i hi, fun i hi => by rw [to _ _ (by omega) (by omega) (by omega)]; exact m8 i hi, fun l hl b k hk => by rw [to _ _ (by omega) (by omega) (by omega)]; exact m9 l hl b k hk⟩
      have t1 : ∀ i, t.1 (a + 1) i = if i = j then L0 f R C g j else s.1 (a + 1) i := fun i => by
        rw [ht', adt_o _ _ _ _ _ _ _ _ (by omega) (by omega), gw1_1]
        by_cases e : i = j
        · rw [if_pos ⟨rfl, e⟩, if_pos e]
        · rw [if_neg (fun h => e h.2), if_neg e]
      have t4 : ∀ i, t.1 (a + 39 + 4) i = s.1 (a + 39 + 4) i + if i = j then L0 f R C g j else 0 := fun i => by
        rw [ht', adt_4, gw1_1, if_neg (by omega)]
        by_cases e : i = j
        · rw [if_pos (by omega), if_pos e]
        · rw [if_neg (by omega), if_neg e]
      have t5 : ∀ i, t.1 (a + 39 + 5) i = s.1 (a + 39 + 5) i + if i = j then NC f R C 0 j else 0 := fun i => by
        rw [ht', adt_5, gw1_1, if_neg (by omega)]
        by_cases e : i = j
        · rw [if_pos (by omega), if_pos e]
        · rw [if_neg (by omega), if_neg e]
      obtain ⟨n', u, u1, u2, u3, u4, u5, u6⟩ := ih (j + 1) t (by omega) (by omega) tm (by rw [to _ _ (by omega) (by omega) (by omega)]; exact e9)
      refine ⟨n', u, one.trans u1, u2.trans t2, fun k i h1 h2 h3 => (u3 k i h1 h2 h3).trans (to k i h1 h2 h3), fun i => ?_, fun i => ?_, fun i => ?_⟩
      · rw [u4, t1]
        by_cases e : i = j
        · rw [if_neg (by omega), if_pos e, if_pos (by omega), e]
        · rw [if_neg e]
          by_cases e2 : j + 1 ≤ i ∧ i < 8
          · rw [if_pos e2, if_pos (by omega)]
          · rw [if_neg e2, if_neg (by omega)]
      · rw [u5, t4]
        by_cases e : i = j
        · rw [if_neg (show ¬ (j + 1 ≤ i ∧ i < 8) by omega), if_pos e, if_pos (show j ≤ i ∧ i < 8 by omega), e]
          omega
        · rw [if_neg e]
          by_cases e2 : j + 1 ≤ i ∧ i < 8
          · rw [if_pos e2, if_pos (by omega)]
            omega
          · rw [if_neg e2, if_neg (by omega)]
            omega
      · rw [u6, t5]
        by_cases e : i = j
        · rw [if_neg (show ¬ (j + 1 ≤ i ∧ i < 8) by omega), if_pos e, if_pos (show j ≤ i ∧ i < 8 by omega), e]
          omega
        · rw [if_neg e]
          by_cases e2 : j + 1 ≤ i ∧ i < 8
          · rw [if_pos e2, if_pos (by omega)]
            omega
          · rw [if_neg e2, if_neg (by omega)]
            omega
theorem sl_22_176 {a : Nat} : ∀ (n j : Nat) (t : gx_S), 8 < n + j → j ≤ 8 → ∃ u : gx_S, gm_22_176 n a j t = some u ∧ u.2 = t.2 ∧ (∀ k i, k ≠ a + 1 → u.1 k i = t.1 k i) ∧ ∀ i, u.1 (a + 1) i = t.1 (a + 1) i + if j ≤ i ∧ i < 8 then t.1 (a + 39 + 8) i else 0 := by
  intro n
  induction n with
  | zero => intro j t h; omega
  | succ n ih =>
    intro j t h hj
    rw [gm_22_176, if_pos (by omega)]
    by_cases q : j = 8
    · rw [if_pos (by omega)]
      exact ⟨t, rfl, rfl, fun _ _ _ => rfl, fun i => by rw [if_neg (by omega)]; omega⟩
    · have ce : ((j : Int) + 1) = ((j + 1 : Nat) : Int) := rfl
      have i5 : ((j : Int)).toNat = j := by omega
      rw [if_neg (by omega), if_pos (by omega), if_pos (by omega), i5, ce]
      obtain ⟨u, u1, u2, u3, u4⟩ := ih (j + 1) (gw1 t (a + 1) j (t.1 (a + 1) j + t.1 (a + 39 + 8) j)) (by omega) (by omega)
      refine ⟨u, u1, u2, fun k i h1 => ?_, fun i => ?_⟩
      · rw [u3 k i h1, gw1_1, if_neg (fun x => h1 x.1)]
      · rw [u4, gw1_1, gw1_1 _ _ _ _ (a + 39 + 8) i, if_neg (show ¬ (a + 39 + 8 = a + 1 ∧ i = j) by omega)]
        by_cases e : i = j
        · rw [if_pos ⟨rfl, e⟩, if_neg (by omega), if_pos (by omega), e]
          omega
        · rw [if_neg (fun x => e x.2)]
          by_cases e2 : j + 1 ≤ i ∧ i < 8
          · rw [if_pos e2, if_pos (by omega)]
          · rw [if_neg e2, if_neg (by omega)]
end
section
/-! THE CLASS: shareUnknown, makeLives -/
theorem MR_o {s u : gx_S} {a : Nat} {f : Nat → Int} {R C : Nat} (o : ∀ k j, a ≤ k → k < a + 5 → u.1 k j = s.1 k j) (m : MR s a f R C) : MR u a f R C := by
  obtain ⟨m1, m2, m3, m4, m5, m6, m7, m8, m9⟩ := m
  exact ⟨by rw [o _ _ (by omega) (by omega)]; exact m1, by rw [o _ _ (by omega) (by omega)]; exact m2, by rw [o _ _ (by omega) (by omega)]; exact m3, by rw [o _ _ (by omega) (by omega)]; exact m4, by rw [o _ _ (by omega) (by omega)]; exact m5, fun i hi => by rw [o _ _ (by omega) (by omega)]; exact m6 i hi, fun i hi => by rw [o _ _ (by omega) (by omega)]; exact m7 i hi, fun i hi => by rw [o _ _ (by omega) (by omega)]; exact m8 i hi, fun l hl b k hk => by rw [o _ _ (by omega) (by omega)]; exact m9 l hl b k hk⟩
theorem KD_NC (f : Nat → Int) (R C : Nat) : sg (fun z => NC f R C 0 z) 8 = 0 ↔ KD f R C 0 8 ≤ 0 := by
  have n : ∀ z : Nat, z < 8 → 0 ≤ NC f R C 0 z := fun z _ => (NC_nn f R C 0 z).1
  constructor
  · intro h
    have e : KD f R C 0 8 = 0 := sg_0 fun z hz => by
      have := sg_at (f := fun z => NC f R C 0 (z : Nat)) n z hz
      have := n z hz
      exact if_neg (by omega)
    omega
  · intro h
    refine sg_0 fun z hz => ?_
    have a := sg_at (f := fun z => bi (0 < NC f R C 0 (z : Nat))) (n := 8) (fun k _ => (bi_r _).1) z hz
    have b := n z hz
    refine Classical.byContradiction fun q => ?_
    have e : bi (0 < NC f R C 0 z) = 1 := if_pos (by omega)
    rw [e] at a
    have e2 : KD f R C 0 8 = sg (fun z => bi (0 < NC f R C 0 (z : Nat))) 8 := rfl
    omega
theorem sp_22 {s : gx_S} {f : Nat → Int} {R C g a : Nat} (m : MR s 1 f R C) (M : MP f R C) (hg : g < 3) (h71 : 71 ≤ a) (ho : fx_oc a 2 = true) (ht : fx_oc (a + 39) 7 = true) (e9 : s.1 a 9 = g) : ∃ u : gx_S, gm_22 a s = some u ∧ u.2 = s.2 ∧ (∀ z, z < 8 → u.1 (a + 1) z = LV f R C g z) ∧ u.1 a 6 = UN f R C g ∧ u.1 a 7 = ASf f R C g ∧ ∀ k j, k ≠ a + 1 → ¬ (k = a ∧ (j = 6 ∨ j = 7)) → ¬ (7 ≤ k ∧ k ≤ 13) → ¬ (k = 6 ∧ j = 7) → ¬ (a + 40 ≤ k ∧ k ≤ a + 47) → u.1 k j = s.1 k j := by
  obtain ⟨b, b1, b2, b3, b4, b5⟩ := sp_68 s ht
  have mb : MR b 1 f R C := MR_o (fun k j h1 h2 => b5 k j (by omega) (by omega) (by omega)) m
  have b9 : b.1 a 9 = g := (b5 a 9 (by omega) (by omega) (by omega)).trans e9
  obtain ⟨n', c, c1, c2, c3, c4, c5, c6⟩ := sl_22_13 M hg h71 ho ht 100000 0 b (by omega) (by omega) mb b9
  have c1 : gm_22_13 100000 a 0 0 0 b = _ := c1
  have mc : MR c 1 f R C := MR_o (fun k j h1 h2 => c3 k j (by omega) (by omega) (by omega)) mb
  have c9 : c.1 a 9 = g := (c3 a 9 (by omega) (by omega) (by omega)).trans b9
  obtain ⟨l1, l2⟩ := L0_r M hg
  obtain ⟨u0, u1⟩ := UN_r M hg
  have un : sg (fun z => f (5 + 9 * g + z)) 9 - sg (L0 f R C g) 8 = UN f R C g := by omega
  obtain ⟨d, hd⟩ : ∃ d, d = gw1 c a 6 (UN f R C g) := ⟨_, rfl⟩
  have dk : ∀ k i, ¬ (k = a ∧ i = 6) → d.1 k i = c.1 k i := fun k i h => by rw [hd, gw1_1, if_neg h]
  have d6 : d.1 a 6 = UN f R C g := by rw [hd, gw1_1, if_pos ⟨rfl, rfl⟩]
  have d18 : d.1 1 8 = f 4 := by rw [dk 1 8 (by omega)]; exact mc.2.2.2.2.1
  have m4 := M.2.2.2.1
  have hN := NC_nn f R C 0
  have hRC := RC_96 M.1.2.2.1 M.1.2.2.2
  have N1 : 0 ≤ sg (fun z => NC f R C 0 z) 8 ∧ sg (fun z => NC f R C 0 z) 8 ≤ 768 := by
    refine ⟨sg_nn fun z _ => (hN z).1, ?_⟩
    have e := sg_le (f := fun z => NC f R C 0 (z : Nat)) (g := fun _ => 96 * 1) (n := 8) fun z _ => by
      have := (hN z).2
      rw [← Int.natCast_mul] at this
      show NC f R C 0 z ≤ 96 * 1
      omega
    rw [sg_mul, sg_one] at e
    omega
  have hst : gm_22 a s = gm_22_139 a a (ASf f R C g) d := by
    unfold gm_22
    rw [if_pos ho, b1, Option.bind_some, c1, gm_22_13, if_pos (by decide), if_pos (by decide), c9, sp_66g mc hg, Option.bind_some]
    show (if (-2147483648 ≤ (gw1 c a 6 (sg (fun z => f (5 + 9 * g + z)) 9 - sg (L0 f R C g) 8)).1 1 8 ∧ (gw1 c a 6 (sg (fun z => f (5 + 9 * g + z)) 9 - sg (L0 f R C g) 8)).1 1 8 ≤ 2147483647) then (if (gw1 c a 6 (sg (fun z => f (5 + 9 * g + z)) 9 - sg (L0 f R C g) 8)).1 1 8 = 0 then gm_22_131 a a (gw1 c a 6 (sg (fun z => f (5 + 9 * g + z)) 9 - sg (L0 f R C g) 8)) else _) else _) = _
    rw [un, ← hd, d18, if_pos (by omega)]
    by_cases z : f 4 = 0
    · rw [if_pos z]
      unfold gm_22_131
      rw [d6, show ASf f R C g = UN f R C g from if_neg fun h => by
        have := h.1
        omega]
    · rw [if_neg z, if_pos (by omega)]
      by_cases z2 : sg (fun z => NC f R C 0 z) 8 = 0
      · rw [if_neg (fun h => h z2)]
        unfold gm_22_131
        have k0 := (KD_NC f R C).mp z2
        rw [d6, show ASf f R C g = UN f R C g from if_neg fun h => by
          have := h.2
          omega]
      · rw [if_pos z2, show ASf f R C g = 0 from if_pos ⟨by omega, by
          refine Classical.byContradiction fun h => z2 ((KD_NC f R C).mpr (by omega))⟩]
  obtain ⟨e, he⟩ : ∃ e, e = gw1 (gw1 d a 7 (ASf f R C g)) (a + 39 + 1) 0 (UN f R C g - ASf f R C g) := ⟨_, rfl⟩
  have ek : ∀ k i, ¬ (k = a ∧ i = 7) → ¬ (k = a + 39 + 1 ∧ i = 0) → e.1 k i = d.1 k i := fun k i h1 h2 => by rw [he, gw1_1, if_neg h2, gw1_1, if_neg h1]
  have i0 : ∀ y, 9 * 0 + y = y := fun y => by omega
  have e4 : ∀ i, i < 72 → e.1 (a + 39 + 4) i = if i < 8 then L0 f R C g i else 0 := fun i hi => by
    rw [ek _ _ (by omega) (by omega), dk _ _ (by omega), c5, (b4 i hi).1]
    by_cases q : i < 8
    · rw [if_pos ⟨by omega, q⟩, if_pos q]; omega
    · rw [if_neg (fun h => q h.2), if_neg q]; rfl
  have e5 : ∀ i, i < 72 → e.1 (a + 39 + 5) i = if i < 8 then NC f R C 0 i else 0 := fun i hi => by
    rw [ek _ _ (by omega) (by omega), dk _ _ (by omega), c6, (b4 i hi).2]
    by_cases q : i < 8
    · rw [if_pos ⟨by omega, q⟩, if_pos q]; omega
    · rw [if_neg (fun h => q h.2), if_neg q]; rfl
  have e1 : ∀ x, x < 8 → e.1 (a + 39 + 1) x = Psh f R C g x := fun x hx => by
    unfold Psh
    by_cases q : x = 0
    · rw [if_pos q, q, he, gw1_1, if_pos ⟨rfl, rfl⟩]
    · rw [if_neg q, ek _ _ (by omega) (by omega), dk _ _ (by omega), c3 _ _ (by omega) (by omega) (by omega), b3 x hx]
  have L89 : ∀ z, z < 8 → L0 f R C g z ≤ 89991 := fun z hz => by
    have := sg_at l1 z hz
    have := (M.2.2.2.2.1 g hg).2
    omega
  have hb : ∀ i, i < 72 → (0 ≤ e.1 (a + 39 + 4) i ∧ e.1 (a + 39 + 4) i ≤ 1000000) ∧ (0 ≤ e.1 (a + 39 + 5) i ∧ e.1 (a + 39 + 5) i ≤ 1000000) := fun i hi => by
    rw [e4 i hi, e5 i hi]
    by_cases q : i < 8
    · have x1 := l1 i q
      have x2 := L89 i q
      have x3 := hN i
      rw [← Int.natCast_mul] at x3
      rw [if_pos q, if_pos q]
      omega
    · rw [if_neg q, if_neg q]
      omega
  have hA : ∀ x y, x < 8 → y < 9 → am e (a + 39) x y = Ash f R C g x y := fun x y hx hy => by
    unfold am
    rw [e4 _ (by omega), e5 _ (by omega)]
    by_cases q : x = 0
    · rw [q]
      have es : sg (fun y => e.1 (a + 39 + 4) (9 * 0 + y)) 9 = sg (L0 f R C g) 8 := by
        rw [sg_cut0 (f := fun y => e.1 (a + 39 + 4) (9 * 0 + y)) (m := 8) (n := 9) (by omega) fun k h1 h2 => by rw [e4 _ (by omega), if_neg (by omega)]]
        exact sg_eq fun y hy => by rw [i0, e4 y (by omega), if_pos hy]
      rw [es, i0]
      by_cases q2 : y < 8
      · have z : Ash f R C g 0 y = if sg (L0 f R C g) 8 = 0 then NC f R C 0 y else L0 f R C g y := if_pos ⟨rfl, q2⟩
        rw [if_pos q2, if_pos q2, z]
      · have z : Ash f R C g 0 y = 0 := if_neg fun h => q2 h.2
        rw [if_neg q2, if_neg q2, z]
        split <;> rfl
    · have z : Ash f R C g x y = 0 := if_neg fun h => q h.1
      rw [if_neg (show ¬ (9 * x + y < 8) by omega), if_neg (show ¬ (9 * x + y < 8) by omega), z]
      split <;> rfl
  obtain ⟨pa, _⟩ := PA_sh M hg
  obtain ⟨u, w1, w2, w3, w4, w5, w6, _⟩ := TB_class (t := a + 39) (md := 0) ht (.inl rfl) pa (fun h => absurd h (by decide)) e1 hb hA
  obtain ⟨v, u', v1, v2, _⟩ := sp_41_0 ht (tf_of pa e1 hb hA)
  have c74 := gm_41_74 ht v1 w1
  obtain ⟨r, r1, r2, r3, r4⟩ := sl_22_176 (a := a) 100000 0 u (by omega) (by omega)
  have r1 : gm_22_176 100000 a 0 u = _ := r1
  have uo : ∀ k j, ¬ (7 ≤ k ∧ k ≤ 13) → ¬ (k = 6 ∧ j = 7) → ¬ (a + 40 ≤ k ∧ k ≤ a + 47) → u.1 k j = e.1 k j := fun k j h1 h2 h3 => w3.2 k j h1 h2 (by omega) (by omega)
  have e6 : e.1 a 6 = UN f R C g := by rw [ek _ _ (by omega) (by omega)]; exact d6
  have e7 : e.1 a 7 = ASf f R C g := by rw [he, gw1_1, if_neg (by omega), gw1_1, if_pos ⟨rfl, rfl⟩]
  refine ⟨r, ?_, ?_, fun z hz => ?_, ?_, ?_, fun k j h1 h2 h3 h4 h5 => ?_⟩
  · rw [hst]
    unfold gm_22_139
    have x6 : (gw1 d a 7 (ASf f R C g)).1 a 6 = UN f R C g := by rw [gw1_1, if_neg (by omega), d6]
    have x7 : (gw1 d a 7 (ASf f R C g)).1 a 7 = ASf f R C g := by rw [gw1_1, if_pos ⟨rfl, rfl⟩]
    rw [x6, x7, ← he, v1, Option.bind_some, c74, Option.bind_some, r1]
  · rw [r2, w3.1, he]
    show d.2 = s.2
    rw [hd]
    show c.2 = s.2
    rw [c2, b2]
  · rw [r4, if_pos ⟨by omega, hz⟩, uo _ _ (by omega) (by omega) (by omega), ek _ _ (by omega) (by omega), dk _ _ (by omega), c4, if_pos ⟨by omega, hz⟩]
    have := w2 0 z (by omega) (by omega)
    rw [i0] at this
    rw [this]
    rfl
  · rw [r3 _ _ (by omega), uo _ _ (by omega) (by omega) (by omega), e6]
  · rw [r3 _ _ (by omega), uo _ _ (by omega) (by omega) (by omega), e7]
  · rw [r3 k j h1, uo k j h3 h4 h5, ek k j (by omega) (by omega), dk k j (by omega), c3 k j h1 (by omega) (by omega), b5 k j (by omega) (by omega) (by omega)]
end
section
/-! THE CLASS: tables filled from the cells -/
def co (f : Nat → Int) (C l k : Nat) : Nat := (f (52 + 96 * l + 12 * (k / C) + k % C)).toNat
def wt (f : Nat → Int) (C g k : Nat) : Int := f (32 + 4 * g + co f C 2 k)
theorem co_s {f : Nat → Int} {R C k : Nat} (M : MP f R C) (h7 : f 2 = 7) (hk : k < R * C) : (f (52 + 96 * 0 + 12 * (k / C) + k % C) = (co f C 0 k : Int) ∧ co f C 0 k ≤ 8) ∧ (f (52 + 96 * 1 + 12 * (k / C) + k % C) = (co f C 1 k : Int) ∧ co f C 1 k ≤ 8) ∧ (f (52 + 96 * 2 + 12 * (k / C) + k % C) = (co f C 2 k : Int) ∧ co f C 2 k ≤ 3) := by
  have m8 := M.2.2.2.2.2.2.2.1
  have a0 := m8 0 (by omega) (by rw [h7]; rfl) k hk
  have a1 := m8 1 (by omega) (by rw [h7]; rfl) k hk
  have a2 := m8 2 (by omega) (by rw [h7]; rfl) k hk
  rw [if_neg (by omega)] at a0 a1
  rw [if_pos rfl] at a2
  unfold co
  omega
theorem wt_b {f : Nat → Int} {R C g k : Nat} (M : MP f R C) (h7 : f 2 = 7) (hg : g < 3) (hk : k < R * C) : 0 ≤ wt f C g k ∧ wt f C g k ≤ 9 := by
  have c := (co_s M h7 hk).2.2.2
  unfold wt
  rw [show 32 + 4 * g + co f C 2 k = 32 + (4 * g + co f C 2 k) by omega]
  exact M.2.2.2.2.2.1 _ (by omega)
theorem sp_60g {s : gx_S} {f : Nat → Int} {R C k : Nat} (m : MR s 1 f R C) (M : MP f R C) (h7 : f 2 = 7) (hk : k < R * C) : gm_60 1 0 k s = some ((co f C 0 k : Int), s) ∧ gm_60 1 1 k s = some ((co f C 1 k : Int), s) ∧ gm_60 1 2 k s = some ((co f C 2 k : Int), s) := by
  have hRC := RC_96 M.1.2.2.1 M.1.2.2.2
  obtain ⟨c0, c1, c2⟩ := co_s M h7 hk
  have m9 := m.2.2.2.2.2.2.2.2
  refine ⟨?_, ?_, ?_⟩
  · have c : gm_60 1 0 k s = _ := sp_60 (s := s) (a := 1) (by decide +kernel) 0 k (by omega) (by omega)
    rw [c, m9 0 (by omega) (by rw [h7]; rfl) k hk, c0.1]
  · have c : gm_60 1 1 k s = _ := sp_60 (s := s) (a := 1) (by decide +kernel) 1 k (by omega) (by omega)
    rw [c, m9 1 (by omega) (by rw [h7]; rfl) k hk, c1.1]
  · have c : gm_60 1 2 k s = _ := sp_60 (s := s) (a := 1) (by decide +kernel) 2 k (by omega) (by omega)
    rw [c, m9 2 (by omega) (by rw [h7]; rfl) k hk, c2.1]
theorem sp_61g {s : gx_S} {f : Nat → Int} {R C g k : Nat} (m : MR s 1 f R C) (M : MP f R C) (h7 : f 2 = 7) (hg : g < 3) (hk : k < R * C) : gm_61 1 g k s = some (wt f C g k, s) := by
  have c := (co_s M h7 hk).2.2.2
  unfold gm_61
  rw [if_pos (by decide +kernel), (sp_60g m M h7 hk).2.2, Option.bind_some, if_pos (by omega)]
  have i : ((((g : Int) * 4) + ((co f C 2 k : Int), s).1)).toNat = 4 * g + co f C 2 k := by
    show ((g : Int) * 4 + (co f C 2 k : Int)).toNat = _
    omega
  rw [i]
  have e := m.2.2.2.2.2.2.1 (4 * g + co f C 2 k) (by omega)
  show some (s.1 (1 + 3) (4 * g + co f C 2 k), s) = _
  rw [e]
  unfold wt
  rw [show 32 + (4 * g + co f C 2 k) = 32 + 4 * g + co f C 2 k by omega]
theorem sg_shift (F : Nat → Int) : ∀ (n k : Nat), sg (fun i => F (k + i)) (n + 1) = F k + sg (fun i => F (k + 1 + i)) n
  | 0, k => by
    show 0 + F (k + 0) = F k + 0
    rw [Nat.add_zero]
    omega
  | n + 1, k => by
    have a := sg_shift F n k
    show sg (fun i => F (k + i)) (n + 1) + F (k + (n + 1)) = F k + (sg (fun i => F (k + 1 + i)) n + F (k + 1 + n))
    rw [a, show k + (n + 1) = k + 1 + n by omega]
    omega
/-- a cell's share of an entry -/
def pz (K : Nat → Bool) (X Y : Nat → Nat) (w : Nat → Int) (x y k : Nat) : Int := if K k = true ∧ X k = x ∧ Y k = y then w k else 0
/-- a table has been added to -/
def AC (t : Nat) (s u : gx_S) (F4 F5 : Nat → Nat → Int) : Prop := u.2 = s.2 ∧ (∀ k i, k ≠ t + 4 → k ≠ t + 5 → u.1 k i = s.1 k i) ∧ ∀ x y, x < 8 → y < 9 → u.1 (t + 4) (9 * x + y) = s.1 (t + 4) (9 * x + y) + F4 x y ∧ u.1 (t + 5) (9 * x + y) = s.1 (t + 5) (9 * x + y) + F5 x y
theorem AC_0 (t : Nat) (s : gx_S) (F4 F5 : Nat → Nat → Nat → Int) : AC t s s (fun x y => sg (F4 x y) 0) (fun x y => sg (F5 x y) 0) := ⟨rfl, fun _ _ _ _ => rfl, fun x y _ _ => ⟨(Int.add_zero _).symm, (Int.add_zero _).symm⟩⟩
theorem AC_skip {t k r : Nat} {s u : gx_S} {K : Nat → Bool} {X Y : Nat → Nat} {w : Nat → Int} (hK : K k = false) (h : AC t s u (fun x y => sg (fun i => pz K X Y w x y (k + 1 + i)) r) (fun x y => sg (fun i => pz K X Y (fun _ => 1) x y (k + 1 + i)) r)) : AC t s u (fun x y => sg (fun i => pz K X Y w x y (k + i)) (r + 1)) (fun x y => sg (fun i => pz K X Y (fun _ => 1) x y (k + i)) (r + 1)) := by
  have z : ∀ (v : Nat → Int) x y, pz K X Y v x y k = 0 := fun v x y => if_neg fun h => by
    rw [hK] at h
    exact Bool.noConfusion h.1
  obtain ⟨h1, h2, h3⟩ := h
  refine ⟨h1, h2, fun x y hx hy => ?_⟩
  obtain ⟨a, b⟩ := h3 x y hx hy
  have a : u.1 (t + 4) (9 * x + y) = s.1 (t + 4) (9 * x + y) + sg (fun i => pz K X Y w x y (k + 1 + i)) r := a
  have b : u.1 (t + 5) (9 * x + y) = s.1 (t + 5) (9 * x + y) + sg (fun i => pz K X Y (fun _ => 1) x y (k + 1 + i)) r := b
  show u.1 (t + 4) (9 * x + y) = s.1 (t + 4) (9 * x + y) + sg (fun i => pz K X Y w x y (k + i)) (r + 1) ∧ u.1 (t + 5) (9 * x + y) = s.1 (t + 5) (9 * x + y) + sg (fun i => pz K X Y (fun _ => 1) x y (k + i)) (r + 1)
  rw [sg_shift (pz K X Y w x y), sg_shift (pz K X Y (fun _ => 1) x y), z, z, a, b]
  omega
theorem AC_add {t k r : Nat} {s u : gx_S} {K : Nat → Bool} {X Y : Nat → Nat} {w : Nat → Int} (hK : K k = true) (hX : X k < 8) (hY : Y k < 9) (h : AC t (adt s t (X k) (Y k) (w k) 1) u (fun x y => sg (fun i => pz K X Y w x y (k + 1 + i)) r) (fun x y => sg (fun i => pz K X Y (fun _ => 1) x y (k + 1 + i)) r)) : AC t s u (fun x y => sg (fun i => pz K X Y w x y (k + i)) (r + 1)) (fun x y => sg (fun i => pz K X Y (fun _ => 1) x y (k + i)) (r + 1)) := by
  obtain ⟨h1, h2, h3⟩ := h
  refine ⟨h1, fun k' i q1 q2 => (h2 k' i q1 q2).trans (adt_o _ _ _ _ _ _ _ _ q1 q2), fun x y hx hy => ?_⟩
  obtain ⟨a, b⟩ := h3 x y hx hy
  have a : u.1 (t + 4) (9 * x + y) = (adt s t (X k) (Y k) (w k) 1).1 (t + 4) (9 * x + y) + sg (fun i => pz K X Y w x y (k + 1 + i)) r := a
  have b : u.1 (t + 5) (9 * x + y) = (adt s t (X k) (Y k) (w k) 1).1 (t + 5) (9 * x + y) + sg (fun i => pz K X Y (fun _ => 1) x y (k + 1 + i)) r := b
  show u.1 (t + 4) (9 * x + y) = s.1 (t + 4) (9 * x + y) + sg (fun i => pz K X Y w x y (k + i)) (r + 1) ∧ u.1 (t + 5) (9 * x + y) = s.1 (t + 5) (9 * x + y) + sg (fun i => pz K X Y (fun _ => 1) x y (k + i)) (r + 1)
  rw [sg_shift (pz K X Y w x y), sg_shift (pz K X Y (fun _ => 1) x y), a, b, adt_4, adt_5]
  unfold pz
  by_cases q : X k = x ∧ Y k = y
  · rw [if_pos (show 9 * x + y = 9 * X k + Y k by omega), if_pos (show 9 * x + y = 9 * X k + Y k by omega), if_pos ⟨hK, q⟩, if_pos ⟨hK, q⟩]
    show _ ∧ s.1 (t + 5) (9 * x + y) + 1 + _ = s.1 (t + 5) (9 * x + y) + (1 + _)
    omega
  · rw [if_neg (show ¬ 9 * x + y = 9 * X k + Y k by omega), if_neg (show ¬ 9 * x + y = 9 * X k + Y k by omega), if_neg (fun h => q h.2), if_neg (fun h => q h.2)]
    omega
theorem MR_adt {s : gx_S} {f : Nat → Int} {R C t x y : Nat} {v w : Int} (ht : 5 < t) (m : MR s 1 f R C) : MR (adt s t x y v w) 1 f R C := MR_o (fun k j h1 h2 => adt_o _ _ _ _ _ _ _ _ (by omega) (by omega)) m
theorem sl_23 {f : Nat → Int} {R C g a : Nat} (M : MP f R C) (h7 : f 2 = 7) (hg : g < 3) (h71 : 71 ≤ a) (ht : fx_oc (a + 3) 7 = true) : ∀ (r k n : Nat) (s : gx_S), k + r = R * C → r < n → MR s 1 f R C → s.1 a 9 = g → ∃ u : gx_S, gm_23_35 n a ((R * C : Nat) : Int) k s = some u ∧ AC (a + 3) s u (fun x y => sg (fun i => pz (fun k => decide (co f C 0 k < 8)) (co f C 0) (co f C 1) (wt f C g) x y (k + i)) r) (fun x y => sg (fun i => pz (fun k => decide (co f C 0 k < 8)) (co f C 0) (co f C 1) (fun _ => 1) x y (k + i)) r) := by
  have hRC := RC_96 M.1.2.2.1 M.1.2.2.2
  intro r
  induction r with
  | zero =>
    intro k n s hk hn m e9
    obtain ⟨n, rfl⟩ : ∃ n', n = n' + 1 := ⟨n - 1, by omega⟩
    refine ⟨s, ?_, AC_0 _ _ (fun x y i => pz (fun k => decide (co f C 0 k < 8)) (co f C 0) (co f C 1) (wt f C g) x y (k + i)) (fun x y i => pz (fun k => decide (co f C 0 k < 8)) (co f C 0) (co f C 1) (fun _ => 1) x y (k + i))⟩
    rw [gm_23_35, if_pos (by omega), if_pos (by omega), if_pos (by omega)]
  | succ r ih =>
    intro k n s hk hn m e9
    obtain ⟨n, rfl⟩ : ∃ n', n = n' + 1 := ⟨n - 1, by omega⟩
    have hkl : k < R * C := by omega
    have ce : ((k : Int) + 1) = ((k + 1 : Nat) : Int) := rfl
    obtain ⟨⟨_, c0⟩, ⟨_, c1⟩, ⟨_, c2⟩⟩ := co_s M h7 hkl
    obtain ⟨g0, g1, g2⟩ := sp_60g m M h7 hkl
    have g3 := sp_61g m M h7 hg hkl
    rw [gm_23_35, if_pos (by omega), if_pos (by omega), if_neg (by omega), g0, Option.bind_some, if_pos (by omega)]
    by_cases q : co f C 0 k < 8
    · rw [if_neg (by omega)]
      show ∃ u : gx_S, ((gm_60 1 1 k s).bind _) = some u ∧ _
      rw [g1, Option.bind_some]
      show ∃ u : gx_S, ((gm_61 1 (s.1 a 9) k s).bind _) = some u ∧ _
      rw [e9, g3, Option.bind_some]
      show ∃ u : gx_S, ((gm_69 (a + 3) (co f C 0 k : Int) (co f C 1 k : Int) (wt f C g k) 1 s).bind _) = some u ∧ _
      rw [sp_69 s ht q (by omega), Option.bind_some]
      unfold gm_23_86
      rw [ce]
      obtain ⟨u, u1, u2⟩ := ih (k + 1) n (adt s (a + 3) (co f C 0 k) (co f C 1 k) (wt f C g k) 1) (by omega) (by omega) (MR_adt (by omega) m) ((adt_o _ _ _ _ _ _ _ _ (by omega) (by omega)).trans e9)
      exact ⟨u, u1, AC_add (K := fun k => decide (co f C 0 k < 8)) (X := co f C 0) (Y := co f C 1) (w := wt f C g) (decide_eq_true q) q (by omega) u2⟩
    · rw [if_pos (by omega)]
      unfold gm_23_86
      rw [ce]
      obtain ⟨u, u1, u2⟩ := ih (k + 1) n s (by omega) (by omega) m e9
      exact ⟨u, u1, AC_skip (K := fun k => decide (co f C 0 k < 8)) (decide_eq_false q) u2⟩
end
section
/-! THE CLASS: the moves -/
theorem SO_pz {f : Nat → Int} {R C g x y : Nat} (M : MP f R C) (h7 : f 2 = 7) (hx : x < 8) (b : Bool) : SO f R C g x y b = sg (pz (fun k => decide (co f C 0 k < 8)) (co f C 0) (co f C 1) (fun k => if b = true then 1 else wt f C g k) x y) (R * C) := by
  refine sg_eq fun k hk => ?_
  obtain ⟨⟨c0, _⟩, ⟨c1, _⟩, _⟩ := co_s M h7 hk
  unfold pz
  rw [c0, c1]
  by_cases q : co f C 0 k = x ∧ co f C 1 k = y
  · rw [if_pos (show (((x : Nat) : Int) = -1 ∨ (co f C 0 k : Int) = x) ∧ (((y : Nat) : Int) = -1 ∨ (co f C 1 k : Int) = y) by omega), if_pos (show decide (co f C 0 k < 8) = true ∧ co f C 0 k = x ∧ co f C 1 k = y from ⟨decide_eq_true (by omega), q⟩)]
    rfl
  · rw [if_neg (show ¬ ((((x : Nat) : Int) = -1 ∨ (co f C 0 k : Int) = x) ∧ (((y : Nat) : Int) = -1 ∨ (co f C 1 k : Int) = y)) by omega), if_neg (fun h => q h.2)]
theorem SO_row {f : Nat → Int} {R C g : Nat} (M : MP f R C) (h7 : f 2 = 7) (o : Int) (b : Bool) : sg (fun y => SO f R C g o ((y : Nat) : Int) b) 9 = SO f R C g o (-1) b := by
  unfold SO
  rw [sg_swap (fun y k => if (o = -1 ∨ f (52 + 96 * 0 + 12 * (k / C) + k % C) = o) ∧ (((y : Nat) : Int) = -1 ∨ f (52 + 96 * 1 + 12 * (k / C) + k % C) = ((y : Nat) : Int)) then (if b = true then 1 else f (32 + 4 * g + (f (52 + 96 * 2 + 12 * (k / C) + k % C)).toNat)) else 0) (R * C) 9]
  refine sg_eq fun k hk => ?_
  obtain ⟨_, ⟨c1, l1⟩, _⟩ := co_s M h7 hk
  rw [sg_single (i := co f C 1 k) (by omega) fun y hy hn => if_neg fun h => by
    have := h.2
    omega]
  by_cases q : o = -1 ∨ f (52 + 96 * 0 + 12 * (k / C) + k % C) = o
  · rw [if_pos (show (o = -1 ∨ f (52 + 96 * 0 + 12 * (k / C) + k % C) = o) ∧ (((co f C 1 k : Nat) : Int) = -1 ∨ f (52 + 96 * 1 + 12 * (k / C) + k % C) = ((co f C 1 k : Nat) : Int)) from ⟨q, .inr c1⟩), if_pos (show (o = -1 ∨ f (52 + 96 * 0 + 12 * (k / C) + k % C) = o) ∧ ((-1 : Int) = -1 ∨ f (52 + 96 * 1 + 12 * (k / C) + k % C) = -1) from ⟨q, .inl rfl⟩)]
  · rw [if_neg (show ¬ ((o = -1 ∨ f (52 + 96 * 0 + 12 * (k / C) + k % C) = o) ∧ (((co f C 1 k : Nat) : Int) = -1 ∨ f (52 + 96 * 1 + 12 * (k / C) + k % C) = ((co f C 1 k : Nat) : Int))) from fun h => q h.1), if_neg (show ¬ ((o = -1 ∨ f (52 + 96 * 0 + 12 * (k / C) + k % C) = o) ∧ ((-1 : Int) = -1 ∨ f (52 + 96 * 1 + 12 * (k / C) + k % C) = -1)) from fun h => q h.1)]
def flv (P : Nat → Int) (A : Nat → Nat → Int) (x y : Nat) : Int := if sg (fun y => A x y) 9 ≤ 0 then 0 else P x * A x y / sg (fun y => A x y) 9
def rsv (P : Nat → Int) (A : Nat → Nat → Int) (x y : Nat) : Int := if sg (fun y => A x y) 9 ≤ 0 then 0 else P x * A x y % sg (fun y => A x y) 9
/-- a table of the class is as people P and amounts A want it -/
def TR (s : gx_S) (t : Nat) (md : Int) (P : Nat → Int) (A : Nat → Nat → Int) : Prop := ∀ x, x < 8 → s.1 (t + 1) x = P x ∧ s.1 (t + 2) x = sg (fun y => A x y) 9 ∧ ∀ y, y < 9 → s.1 (t + 4) (9 * x + y) = A x y ∧ s.1 (t + 6) (9 * x + y) = flv P A x y ∧ s.1 (t + 7) (9 * x + y) = rsv P A x y ∧ s.1 (t + 8) (9 * x + y) = TB md P A x y
theorem TR_class {md : Int} {P : Nat → Int} {A : Nat → Nat → Int} {c : gx_S} {t : Nat} (ht : fx_oc t 7 = true) (hmd : md = 0 ∨ md = 1) (h : PA P A) (h8 : md = 1 → sg (fun x => sg (fun y => A x y) 9) 8 ≤ 864) (hp : ∀ x, x < 8 → c.1 (t + 1) x = P x) (hb : ∀ i, i < 72 → (0 ≤ c.1 (t + 4) i ∧ c.1 (t + 4) i ≤ 1000000) ∧ (0 ≤ c.1 (t + 5) i ∧ c.1 (t + 5) i ≤ 1000000)) (ha : ∀ x y, x < 8 → y < 9 → am c t x y = A x y) : ∃ u : gx_S, gm_41 t md c = some u ∧ TR u t md P A ∧ ro7 t c u ∧ ∀ x, x < 8 → u.1 (t + 3) x = pl c t x := by
  have t14 := oc7_14 ht
  obtain ⟨u, u1, u2, u3, u4, u5, u6, u7⟩ := TB_class ht hmd h h8 hp hb ha
  refine ⟨u, u1, fun x hx => ?_, u3, u7⟩
  obtain ⟨a1, a2⟩ := u4 x hx
  refine ⟨by rw [u3.2 _ _ (by omega) (by omega) (by omega) (by omega)]; exact hp x hx, a1, fun y hy => ?_⟩
  obtain ⟨b1, b2, b3⟩ := a2 y hy
  have e : aw c t x = sg (fun y => A x y) 9 := am_of fun y hy => ha x y hx hy
  refine ⟨b1, ?_, ?_, u2 x y hx hy⟩
  · rw [b2]
    unfold af flv
    rw [e, hp x hx, ha x y hx hy]
  · rw [b3]
    unfold ar rsv
    rw [e, hp x hx, ha x y hx hy]
theorem TR_o {s u : gx_S} {t : Nat} {md : Int} {P : Nat → Int} {A : Nat → Nat → Int} (o : ∀ k j, t < k → k < t + 9 → u.1 k j = s.1 k j) (h : TR s t md P A) : TR u t md P A := fun x hx => by
  obtain ⟨a1, a2, a3⟩ := h x hx
  refine ⟨by rw [o _ _ (by omega) (by omega)]; exact a1, by rw [o _ _ (by omega) (by omega)]; exact a2, fun y hy => ?_⟩
  obtain ⟨b1, b2, b3, b4⟩ := a3 y hy
  exact ⟨by rw [o _ _ (by omega) (by omega)]; exact b1, by rw [o _ _ (by omega) (by omega)]; exact b2, by rw [o _ _ (by omega) (by omega)]; exact b3, by rw [o _ _ (by omega) (by omega)]; exact b4⟩
/-- the moves: with rows told that have no weight -/
def TM (s : gx_S) (t : Nat) (f : Nat → Int) (R C g : Nat) : Prop := TR s t (f 3) (LV f R C g) (PMV f R C g) ∧ ∀ x, x < 8 → s.1 (t + 3) x = if SO f R C g x (-1) false = 0 then 1 else 0
theorem TM_o {s u : gx_S} {t : Nat} {f : Nat → Int} {R C g : Nat} (o : ∀ k j, t < k → k < t + 9 → u.1 k j = s.1 k j) (h : TM s t f R C g) : TM u t f R C g := ⟨TR_o o h.1, fun x hx => by rw [o _ _ (by omega) (by omega)]; exact h.2 x hx⟩
/-- what has been added up is what the reference sums -/
theorem am_SO {s : gx_S} {f : Nat → Int} {R C g t : Nat} {T : Nat → Nat → Int} {x y : Nat} (F : Nat → Nat → Bool → Int) (e4 : ∀ y, y < 9 → s.1 (t + 4) (9 * x + y) = F x y false) (e5 : ∀ y, y < 9 → s.1 (t + 5) (9 * x + y) = F x y true) (hy : y < 9) (hT : T x y = F x y (decide (sg (fun y => F x y false) 9 = 0))) : am s t x y = T x y := by
  unfold am
  have es : sg (fun c => s.1 (t + 4) (9 * x + c)) 9 = sg (fun y => F x y false) 9 := sg_eq fun y hy => e4 y hy
  rw [es, hT, e4 y hy, e5 y hy]
  by_cases z : sg (fun y => F x y false) 9 = 0
  · rw [if_pos z, decide_eq_true z]
  · rw [if_neg z, decide_eq_false z]
theorem sp_23 {s : gx_S} {f : Nat → Int} {R C g a : Nat} (m : MR s 1 f R C) (M : MP f R C) (h7 : f 2 = 7) (hg : g < 3) (h71 : 71 ≤ a) (ho : fx_oc a 2 = true) (ht : fx_oc (a + 3) 7 = true) (e9 : s.1 a 9 = g) (hl : ∀ z, z < 8 → s.1 (a + 1) z = LV f R C g z) : ∃ u w : gx_S, gm_23 a s = some u ∧ u.1 1 7 = f 3 ∧ gm_41 (a + 3) (f 3) u = some w ∧ TM w (a + 3) f R C g ∧ w.2 = s.2 ∧ ∀ k j, ¬ (7 ≤ k ∧ k ≤ 13) → ¬ (k = 6 ∧ j = 7) → ¬ (a + 4 ≤ k ∧ k ≤ a + 11) → w.1 k j = s.1 k j := by
  obtain ⟨b, b1, b2, b3, b4, b5⟩ := sp_68 s ht
  obtain ⟨c, hc⟩ : ∃ c, c = gcp b (a + 1) 0 (a + 3 + 1) 0 8 := ⟨_, rfl⟩
  have ck : ∀ k i, k ≠ a + 3 + 1 → c.1 k i = b.1 k i := fun k i h => by
    rw [hc]
    exact if_neg fun x => h x.1
  have c1 : ∀ x, x < 8 → c.1 (a + 3 + 1) x = LV f R C g x := fun x hx => by
    rw [hc]
    show (if a + 3 + 1 = a + 3 + 1 ∧ 0 ≤ x ∧ x < 0 + 8 then b.1 (a + 1) (0 + (x - 0)) else b.1 (a + 3 + 1) x) = _
    rw [if_pos ⟨rfl, by omega, by omega⟩, show 0 + (x - 0) = x by omega, b5 _ _ (by omega) (by omega) (by omega)]
    exact hl x hx
  have mc : MR c 1 f R C := MR_o (fun k j h1 h2 => (ck k j (by omega)).trans (b5 k j (by omega) (by omega) (by omega))) m
  have c9 : c.1 a 9 = g := by rw [ck _ _ (by omega), b5 _ _ (by omega) (by omega) (by omega)]; exact e9
  have hRC := RC_96 M.1.2.2.1 M.1.2.2.2
  obtain ⟨u, u1, u2, u3, u4⟩ := sl_23 M h7 hg h71 ht (R * C) 0 100000 c (by omega) (by omega) mc c9
  have u1 : gm_23_35 100000 a ((R * C : Nat) : Int) 0 c = some u := u1
  have e45 : ∀ x y, x < 8 → y < 9 → u.1 (a + 3 + 4) (9 * x + y) = SO f R C g x y false ∧ u.1 (a + 3 + 5) (9 * x + y) = SO f R C g x y true := fun x y hx hy => by
    obtain ⟨q1, q2⟩ := u4 x y hx hy
    have z := b4 (9 * x + y) (by omega)
    rw [ck _ _ (by omega), z.1] at q1
    rw [ck _ _ (by omega), z.2] at q2
    rw [q1, q2, SO_pz M h7 hx false, SO_pz M h7 hx true]
    constructor
    · rw [Int.zero_add]
      exact sg_eq fun k _ => by rw [Nat.zero_add]; rfl
    · rw [Int.zero_add]
      exact sg_eq fun k _ => by rw [Nat.zero_add]; rfl
  obtain ⟨pa, p8⟩ := PA_mv M h7 hg
  have hb : ∀ i, i < 72 → (0 ≤ u.1 (a + 3 + 4) i ∧ u.1 (a + 3 + 4) i ≤ 1000000) ∧ (0 ≤ u.1 (a + 3 + 5) i ∧ u.1 (a + 3 + 5) i ≤ 1000000) := fun i hi => by
    have e : 9 * (i / 9) + i % 9 = i := by omega
    have q := e45 (i / 9) (i % 9) (by omega) (by omega)
    rw [e] at q
    rw [q.1, q.2]
    have r1 := SO_r M h7 hg ((i / 9 : Nat) : Int) ((i % 9 : Nat) : Int) false
    have r2 := SO_r M h7 hg ((i / 9 : Nat) : Int) ((i % 9 : Nat) : Int) true
    omega
  obtain ⟨w, w1, w2, w3, w4⟩ := TR_class (t := a + 3) ht M.2.2.1 pa (fun _ => p8) (fun x hx => (u3 _ _ (by omega) (by omega)).trans (c1 x hx)) hb fun x y hx hy => am_SO (T := PMV f R C g) (R := R) (C := C) (f := f) (g := g) (fun x y b => SO f R C g x y b) (fun y hy => (e45 x y hx hy).1) (fun y hy => (e45 x y hx hy).2) hy (by
    unfold PMV
    rw [SO_row M h7 (x : Int) false])
  refine ⟨u, w, ?_, ?_, w1, ⟨w2, fun x hx => ?_⟩, ?_, fun k j h1 h2 h3 => ?_⟩
  · unfold gm_23
    rw [if_pos ho, b1, Option.bind_some, ← hc, sp_58 (MR_cz mc M), Option.bind_some, u1]
  · rw [u3 1 7 (by omega) (by omega)]
    exact mc.2.2.2.1
  · rw [w4 x hx]
    unfold pl
    rw [sg_eq (f := fun y => u.1 (a + 3 + 4) (9 * x + y)) (g := fun y => SO f R C g x ((y : Nat) : Int) false) fun y hy => (e45 x y hx hy).1, SO_row M h7 (x : Int) false]
  · rw [w3.1, u2, hc]
    exact b2
  · rw [w3.2 k j h1 h2 (by omega) (by omega), u3 k j (by omega) (by omega), ck k j (by omega), b5 k j (by omega) (by omega) (by omega)]
end
section
/-! HOW DENSELY A CELL IS LIVED IN: the order of cells -/
def tpv (f : Nat → Int) (R C g k : Nat) : Int := if co f C 0 k < 8 then LV f R C g (co f C 0 k) * (if SO f R C g (co f C 0 k) (-1) false = 0 then 1 else wt f C g k) else 0
def unv (f : Nat → Int) (R C g k : Nat) : Int := if co f C 0 k < 8 then sg (fun y => PMV f R C g (co f C 0 k) y) 9 else 1
abbrev AHb (f : Nat → Int) (R C g a b : Nat) : Bool := decide ((tpv f R C g a * unv f R C g b = tpv f R C g b * unv f R C g a ∧ a < b) ∨ tpv f R C g b * unv f R C g a < tpv f R C g a * unv f R C g b)
def AHn (f : Nat → Int) (R C g a n : Nat) : Int := sg (fun b => gb (AHb f R C g b a)) n
/-- the cell at place k of the order -/
def QK (f : Nat → Int) (R C g k : Nat) (v : Int) : Prop := 0 ≤ v ∧ v < R * C ∧ AHn f R C g v.toNat (R * C) = k
theorem tot_0 {f : Nat → Int} {R C g x : Nat} (M : MP f R C) (h7 : f 2 = 7) (hg : g < 3) : (SO f R C g x (-1) (decide (SO f R C g x (-1) false = 0)) = 0 ↔ ¬ 0 < NC f R C 0 x) := by
  have e1 : SO f R C g x (-1) true = NC f R C 0 x := by
    unfold SO NC
    rw [if_pos (by rw [h7]; rfl)]
    refine sg_eq fun k hk => ?_
    unfold bi
    by_cases q : f (52 + 96 * 0 + 12 * (k / C) + k % C) = x
    · rw [if_pos ⟨.inr q, .inl rfl⟩, if_pos rfl, if_pos q]
    · rw [if_neg (fun t => by
        have := t.1
        omega), if_neg q]
  have r1 := SO_r M h7 hg x (-1) true
  have r0 := SO_r M h7 hg x (-1) false
  have le : SO f R C g x (-1) false ≤ 9 * NC f R C 0 x := by
    unfold SO NC
    rw [if_pos (by rw [h7]; rfl), ← sg_mul]
    refine sg_le fun k hk => ?_
    have w := wt_r M h7 hg hk false
    unfold bi
    by_cases q : f (52 + 96 * 0 + 12 * (k / C) + k % C) = x
    · rw [if_pos ⟨.inr q, .inl rfl⟩, if_pos q]
      omega
    · rw [if_neg (fun t => by
        have := t.1
        omega), if_neg q]
      omega
  by_cases z : SO f R C g x (-1) false = 0
  · rw [decide_eq_true z, e1]
    omega
  · rw [decide_eq_false z]
    omega
theorem NC_p {f : Nat → Int} {R C l k : Nat} (hb : f 2 / 2 ^ l % 2 = 1) (hk : k < R * C) : 0 < NC f R C l (f (52 + 96 * l + 12 * (k / C) + k % C)) := by
  unfold NC
  rw [if_pos hb]
  refine sg_pos (i := k) (fun _ _ => (bi_r _).1) hk ?_
  show (0 : Int) < bi (f (52 + 96 * l + 12 * (k / C) + k % C) = f (52 + 96 * l + 12 * (k / C) + k % C))
  unfold bi
  rw [if_pos rfl]
  decide
theorem unv_SO {f : Nat → Int} {R C g k : Nat} (M : MP f R C) (h7 : f 2 = 7) (q : co f C 0 k < 8) : unv f R C g k = SO f R C g (co f C 0 k) (-1) (decide (SO f R C g (co f C 0 k) (-1) false = 0)) := by
  unfold unv
  rw [if_pos q]
  exact SO_row M h7 _ _
theorem unv_p {f : Nat → Int} {R C g k : Nat} (M : MP f R C) (h7 : f 2 = 7) (hg : g < 3) (hk : k < R * C) : 0 < unv f R C g k := by
  by_cases q : co f C 0 k < 8
  · have r := SO_r M h7 hg (co f C 0 k) (-1) (decide (SO f R C g (co f C 0 k) (-1) false = 0))
    have t := tot_0 (x := co f C 0 k) M h7 hg
    have p := NC_p (R := R) (l := 0) (f := f) (by rw [h7]; rfl) hk
    rw [(co_s M h7 hk).1.1] at p
    rw [unv_SO M h7 q]
    omega
  · unfold unv
    rw [if_neg q]
    decide
end
section
/-! THE CLASS: what is made already -/
def bt (D w : Nat) : Prop := D / w % 2 = 1
theorem bits_c : ∀ D : Nat, D < 64 → ∀ w : Nat, w ∈ ([1, 2, 4, 8, 16, 32] : List Nat) → ((Int32.ofInt (D : Int) &&& Int32.ofInt (w : Int)).toInt = (if D / w % 2 = 1 then (w : Int) else 0)) ∧ ((Int32.ofInt (D : Int) ||| Int32.ofInt (w : Int)).toInt = (if D / w % 2 = 1 then (D : Int) else ((D + w : Nat) : Int))) := by decide +kernel
theorem bits_n : ∀ D : Nat, D < 64 → ∀ w : Nat, w ∈ ([1, 2, 4, 8, 16, 32] : List Nat) → ¬ D / w % 2 = 1 → D + w < 64 ∧ (D + w) / w % 2 = 1 ∧ ∀ v : Nat, v ∈ ([1, 2, 4, 8, 16, 32] : List Nat) → v ≠ w → ((D + w) / v % 2 = D / v % 2) := by decide +kernel
/-- lacks: told, and set -/
theorem sp_21 {s : gx_S} {a D w : Nat} (ho : fx_oc a 2 = true) (hD : D < 64) (hw : w ∈ [1, 2, 4, 8, 16, 32]) (e : s.1 a 8 = D) : ∃ (D' : Nat) (u : gx_S), gm_21 a w s = some (decide (¬ D / w % 2 = 1), u) ∧ u.2 = s.2 ∧ (∀ k j, ¬ (k = a ∧ j = 8) → u.1 k j = s.1 k j) ∧ u.1 a 8 = D' ∧ D' < 64 ∧ D' / w % 2 = 1 ∧ ∀ v : Nat, v ∈ ([1, 2, 4, 8, 16, 32] : List Nat) → v ≠ w → D' / v % 2 = D / v % 2 := by
  obtain ⟨b1, b2⟩ := bits_c D hD w hw
  have wq : w = 1 ∨ w = 2 ∨ w = 4 ∨ w = 8 ∨ w = 16 ∨ w = 32 := by simpa using hw
  have w32 : w ≤ 32 := by omega
  by_cases q : D / w % 2 = 1
  · rw [if_pos q] at b1 b2
    have w0 : w ≠ 0 := by omega
    refine ⟨D, gw1 s a 8 (D : Int), ?_, rfl, fun k j h => by rw [gw1_1, if_neg h], by rw [gw1_1, if_pos ⟨rfl, rfl⟩], hD, q, fun _ _ _ => rfl⟩
    unfold gm_21
    rw [if_pos ho, e, b1, if_pos (by omega), if_neg (by omega)]
    unfold gm_21_14
    rw [if_pos (by decide), if_pos (by decide), e, b2, decide_eq_false (fun h => h q)]
  · rw [if_neg q] at b1 b2
    obtain ⟨n1, n2, n3⟩ := bits_n D hD w hw q
    refine ⟨D + w, gw1 s a 8 ((D + w : Nat) : Int), ?_, rfl, fun k j h => by rw [gw1_1, if_neg h], by rw [gw1_1, if_pos ⟨rfl, rfl⟩], n1, n2, n3⟩
    unfold gm_21
    rw [if_pos ho, e, b1, if_pos (by omega), if_pos rfl]
    unfold gm_21_14
    rw [if_pos (by decide), if_neg (by decide), e, b2, decide_eq_true q]
/-- what flows back: people and amounts -/
def Pbk (f : Nat → Int) (R C g x : Nat) : Int := sg (fun z => GV f R C g z x) 8
def Abk (f : Nat → Int) (R C g x y : Nat) : Int := SO f R C g y x (decide (SO f R C g (-1) x false = 0))
def dsc (f : Nat → Int) (y : Nat) : Int := if y = 8 then 4 else f (44 + y)
def Aco (f : Nat → Int) (R C g x d : Nat) : Int := sg (fun y => if dsc f y = (d : Int) then PMV f R C g x y else 0) 9
def GC_ (f : Nat → Int) (R C g : Nat) : Nat → Nat → Int := TB (f 3) (LV f R C g) (Aco f R C g)
def Pwy (f : Nat → Int) (R C g d : Nat) : Int := if d < 4 then sg (fun x => GC_ f R C g x d) 8 else 0
def Awy (f : Nat → Int) (R C g d y : Nat) : Int := if y < 8 ∧ dsc f y = (d : Int) then SO f R C g (-1) y (decide (sg (fun y => if dsc f y = (d : Int) then SO f R C g (-1) ((y : Nat) : Int) false else 0) 8 = 0)) else 0
/-- the group's tables are right, as far as they are made -/
def GGD (s : gx_S) (f : Nat → Int) (R C g a D : Nat) : Prop := D < 64 ∧ s.1 a 8 = D ∧ s.1 a 9 = g ∧ (D / 1 % 2 = 1 → (∀ z, z < 8 → s.1 (a + 1) z = LV f R C g z) ∧ s.1 a 6 = UN f R C g ∧ s.1 a 7 = ASf f R C g) ∧ (D / 2 % 2 = 1 → D / 1 % 2 = 1 ∧ TM s (a + 3) f R C g) ∧ (D / 4 % 2 = 1 → TR s (a + 12) (f 3) (Pbk f R C g) (Abk f R C g)) ∧ (D / 8 % 2 = 1 → D / 1 % 2 = 1 ∧ TR s (a + 21) (f 3) (LV f R C g) (Aco f R C g)) ∧ (D / 16 % 2 = 1 → TR s (a + 30) (f 3) (Pwy f R C g) (Awy f R C g)) ∧ (D / 32 % 2 = 1 → D / 2 % 2 = 1 ∧ ∀ k, k < R * C → QK f R C g k (s.1 (a + 2) k))
/-- a group of the class -/
def ga (a : Nat) : Prop := 71 ≤ a ∧ a + 48 ≤ 215 ∧ fx_oc a 2 = true ∧ fx_oc (a + 3) 7 = true ∧ fx_oc (a + 12) 7 = true ∧ fx_oc (a + 21) 7 = true ∧ fx_oc (a + 30) 7 = true ∧ fx_oc (a + 39) 7 = true
theorem ga_g : ∀ g, g < 3 → fx_oc (71 + 48 * g) 2 = true ∧ fx_oc (71 + 48 * g + 3) 7 = true ∧ fx_oc (71 + 48 * g + 12) 7 = true ∧ fx_oc (71 + 48 * g + 21) 7 = true ∧ fx_oc (71 + 48 * g + 30) 7 = true ∧ fx_oc (71 + 48 * g + 39) 7 = true := by decide +kernel
theorem ga_of {g : Nat} (hg : g < 3) : ga (71 + 48 * g) := ⟨by omega, by omega, ga_g g hg⟩
/-- the group's own cells and the rounder's alone change -/
def KG (a : Nat) (s u : gx_S) : Prop := u.2 = s.2 ∧ ∀ k j, ¬ (6 ≤ k ∧ k ≤ 13) → ¬ (a ≤ k ∧ k < a + 48) → u.1 k j = s.1 k j
theorem KG_tr {a : Nat} {s t u : gx_S} (x : KG a s t) (y : KG a t u) : KG a s u := ⟨y.1.trans x.1, fun k j h1 h2 => (y.2 k j h1 h2).trans (x.2 k j h1 h2)⟩
theorem KG_rf (a : Nat) (s : gx_S) : KG a s s := ⟨rfl, fun _ _ _ _ => rfl⟩
theorem KG_MR {a : Nat} {s u : gx_S} {f : Nat → Int} {R C : Nat} (ha : ga a) (x : KG a s u) (m : MR s 1 f R C) : MR u 1 f R C := MR_o (fun k j h1 h2 => x.2 k j (by omega) (by have := ha.1; omega)) m
/-- makeLives -/
theorem sp_20 {s : gx_S} {f : Nat → Int} {R C g a D : Nat} (m : MR s 1 f R C) (M : MP f R C) (hg : g < 3) (ha : ga a) (G : GGD s f R C g a D) : ∃ (D' : Nat) (u : gx_S), gm_20 a s = some u ∧ KG a s u ∧ GGD u f R C g a D' ∧ D' / 1 % 2 = 1 := by
  obtain ⟨a71, a215, ho, t3, t12, t21, t30, t39⟩ := ha
  obtain ⟨hD, e8, e9, g1, g2, g4, g8, g16, g32⟩ := G
  obtain ⟨D', t, q1, q2, q3, q4, q5, q6, q7⟩ := sp_21 (w := 1) ho hD (by decide) e8
  have q1 : gm_21 a 1 s = some (decide (¬ D / 1 % 2 = 1), t) := q1
  have n2 := q7 2 (by decide) (by decide)
  have n4 := q7 4 (by decide) (by decide)
  have n8 := q7 8 (by decide) (by decide)
  have n16 := q7 16 (by decide) (by decide)
  have n32 := q7 32 (by decide) (by decide)
  have to : ∀ k j, ¬ (k = a ∧ j = 8) → t.1 k j = s.1 k j := q3
  unfold gm_20
  rw [if_pos ho, q1, Option.bind_some]
  by_cases z : D / 1 % 2 = 1
  · rw [decide_eq_false (fun h => h z), if_pos (show gb (false, t).1 = 0 from (by decide : gb false = 0))]
    obtain ⟨l1, l2, l3⟩ := g1 z
    refine ⟨D', t, rfl, ⟨q2, fun k j h1 h2 => to k j (by omega)⟩, ⟨q5, q4, (to a 9 (by omega)).trans e9, fun _ => ⟨fun z hz => (to _ _ (by omega)).trans (l1 z hz), (to _ _ (by omega)).trans l2, (to _ _ (by omega)).trans l3⟩, fun h => ?_, fun h => ?_, fun h => ?_, fun h => ?_, fun h => ?_⟩, q6⟩
    · exact ⟨q6, TM_o (fun k j h1 h2 => to k j (by omega)) (g2 (n2 ▸ h)).2⟩
    · exact TR_o (fun k j h1 h2 => to k j (by omega)) (g4 (n4 ▸ h))
    · exact ⟨q6, TR_o (fun k j h1 h2 => to k j (by omega)) (g8 (n8 ▸ h)).2⟩
    · exact TR_o (fun k j h1 h2 => to k j (by omega)) (g16 (n16 ▸ h))
    · obtain ⟨x1, x2⟩ := g32 (n32 ▸ h)
      exact ⟨n2.trans x1, fun k hk => by rw [to _ _ (by omega)]; exact x2 k hk⟩
  · rw [decide_eq_true z, if_neg (show ¬ gb (true, t).1 = 0 from (by decide : ¬ gb true = 0))]
    have mt : MR t 1 f R C := MR_o (fun k j h1 h2 => to k j (by omega)) m
    obtain ⟨u, u1, u2, u3, u4, u5, u6⟩ := sp_22 mt M hg a71 ho t39 ((to a 9 (by omega)).trans e9)
    have u8 : u.1 a 8 = D' := (u6 a 8 (by omega) (by omega) (by omega) (by omega) (by omega)).trans q4
    have u9 : u.1 a 9 = g := (u6 a 9 (by omega) (by omega) (by omega) (by omega) (by omega)).trans ((to a 9 (by omega)).trans e9)
    have uo : ∀ k j, a + 2 ≤ k → k ≤ a + 39 → u.1 k j = s.1 k j := fun k j h1 h2 => (u6 k j (by omega) (by omega) (by omega) (by omega) (by omega)).trans (to k j (by omega))
    show ∃ (D' : Nat) (w : gx_S), ((gm_22 a t).bind fun q10 => some q10) = some w ∧ _
    rw [u1, Option.bind_some]
    refine ⟨D', u, rfl, ⟨u2.trans q2, fun k j h1 h2 => (u6 k j (by omega) (by omega) (by omega) (by omega) (by omega)).trans (to k j (by omega))⟩, ⟨q5, u8, u9, fun _ => ⟨u3, u4, u5⟩, fun h => ?_, fun h => ?_, fun h => ?_, fun h => ?_, fun h => ?_⟩, q6⟩
    · exact absurd (g2 (n2 ▸ h)).1 z
    · exact TR_o (fun k j h1 h2 => uo k j (by omega) (by omega)) (g4 (n4 ▸ h))
    · exact absurd (g8 (n8 ▸ h)).1 z
    · exact TR_o (fun k j h1 h2 => uo k j (by omega) (by omega)) (g16 (n16 ▸ h))
    · exact absurd (g2 (g32 (n32 ▸ h)).1).1 z
end
section
/-! THE CLASS: the moves made ready -/
theorem rd_2 {s : gx_S} {f : Nat → Int} {R C g a D : Nat} {what : Int} (m : MR s 1 f R C) (M : MP f R C) (h7 : f 2 = 7) (hg : g < 3) (ha : ga a) (G : GGD s f R C g a D) (l1 : D / 1 % 2 = 1) : ∃ (D' : Nat) (u : gx_S), gm_19_20 a what s = gm_19_59 a what u ∧ KG a s u ∧ GGD u f R C g a D' ∧ D' / 1 % 2 = 1 ∧ D' / 2 % 2 = 1 := by
  obtain ⟨a71, a215, ho, t3, t12, t21, t30, t39⟩ := id ha
  obtain ⟨hD, e8, e9, g1, g2, g4, g8, g16, g32⟩ := G
  obtain ⟨D', t, q1, q2, q3, q4, q5, q6, q7⟩ := sp_21 (w := 2) ho hD (by decide) e8
  have q1 : gm_21 a 2 s = some (decide (¬ D / 2 % 2 = 1), t) := q1
  have n1 := q7 1 (by decide) (by decide)
  have n4 := q7 4 (by decide) (by decide)
  have n8 := q7 8 (by decide) (by decide)
  have n16 := q7 16 (by decide) (by decide)
  have n32 := q7 32 (by decide) (by decide)
  have to : ∀ k j, ¬ (k = a ∧ j = 8) → t.1 k j = s.1 k j := q3
  obtain ⟨li1, li2, li3⟩ := g1 l1
  unfold gm_19_20
  rw [q1, Option.bind_some]
  by_cases z : D / 2 % 2 = 1
  · rw [decide_eq_false (fun h => h z), if_pos (show gb (false, t).1 = 0 from (by decide : gb false = 0))]
    refine ⟨D', t, rfl, ⟨q2, fun k j h1 h2 => to k j (by omega)⟩, ⟨q5, q4, (to a 9 (by omega)).trans e9, fun _ => ⟨fun z hz => (to _ _ (by omega)).trans (li1 z hz), (to _ _ (by omega)).trans li2, (to _ _ (by omega)).trans li3⟩, fun h => ?_, fun h => ?_, fun h => ?_, fun h => ?_, fun h => ?_⟩, n1.trans l1, q6⟩
    · exact ⟨n1.trans l1, TM_o (fun k j h1 h2 => to k j (by omega)) (g2 z).2⟩
    · exact TR_o (fun k j h1 h2 => to k j (by omega)) (g4 (n4 ▸ h))
    · exact ⟨n1.trans l1, TR_o (fun k j h1 h2 => to k j (by omega)) (g8 (n8 ▸ h)).2⟩
    · exact TR_o (fun k j h1 h2 => to k j (by omega)) (g16 (n16 ▸ h))
    · obtain ⟨x1, x2⟩ := g32 (n32 ▸ h)
      exact ⟨q6, fun k hk => by rw [to _ _ (by omega)]; exact x2 k hk⟩
  · rw [decide_eq_true z, if_neg (show ¬ gb (true, t).1 = 0 from (by decide : ¬ gb true = 0))]
    have mt : MR t 1 f R C := MR_o (fun k j h1 h2 => to k j (by omega)) m
    obtain ⟨u, w, u1, u2, u3, u4, u5, u6⟩ := sp_23 mt M h7 hg a71 ho t3 ((to a 9 (by omega)).trans e9) fun z hz => (to _ _ (by omega)).trans (li1 z hz)
    have wo : ∀ k j, a ≤ k → ¬ (k = a ∧ j = 8) → ¬ (a + 4 ≤ k ∧ k ≤ a + 11) → w.1 k j = s.1 k j := fun k j h1 h2 h3 => (u6 k j (by omega) (by omega) h3).trans (to k j h2)
    have w8 : w.1 a 8 = D' := (u6 a 8 (by omega) (by omega) (by omega)).trans q4
    have m3 := M.2.2.1
    have st : ((gm_23 a (true, t).2).bind fun q5 => if (-2147483648 ≤ (q5.1 1 7) ∧ (q5.1 1 7) ≤ 2147483647) then (if ¬ (q5.1 1 7) = 1 then gm_19_56 a what (a + 3) 0 q5 else gm_19_56 a what (a + 3) 1 q5) else none) = gm_19_59 a what w := by
      show ((gm_23 a t).bind _) = _
      rw [u1, Option.bind_some, u2, if_pos (by omega)]
      unfold gm_19_56
      rcases m3 with e | e
      · rw [e] at u3
        rw [if_pos (by rw [e]; decide), u3, Option.bind_some]
      · rw [e] at u3
        rw [if_neg (by rw [e]; decide), u3, Option.bind_some]
    rw [st]
    refine ⟨D', w, rfl, ⟨u5.trans q2, fun k j h1 h2 => (u6 k j (by omega) (by omega) (by omega)).trans (to k j (by omega))⟩, ⟨q5, w8, (wo a 9 (by omega) (by omega) (by omega)).trans e9, fun _ => ⟨fun z hz => (wo _ _ (by omega) (by omega) (by omega)).trans (li1 z hz), (wo _ _ (by omega) (by omega) (by omega)).trans li2, (wo _ _ (by omega) (by omega) (by omega)).trans li3⟩, fun _ => ⟨n1.trans l1, u4⟩, fun h => ?_, fun h => ?_, fun h => ?_, fun h => ?_⟩, n1.trans l1, q6⟩
    · exact TR_o (fun k j h1 h2 => wo k j (by omega) (by omega) (by omega)) (g4 (n4 ▸ h))
    · exact ⟨n1.trans l1, TR_o (fun k j h1 h2 => wo k j (by omega) (by omega) (by omega)) (g8 (n8 ▸ h)).2⟩
    · exact TR_o (fun k j h1 h2 => wo k j (by omega) (by omega) (by omega)) (g16 (n16 ▸ h))
    · exact absurd (g32 (n32 ▸ h)).1 z
end
section
/-! THE CLASS: the table back -/
theorem sp_76 {s : gx_S} {t y : Nat} (ht : fx_oc t 7 = true) (hy : y < 9) : gm_76 t y s = some (sg (fun x => s.1 (t + 8) (9 * x + y)) 8, s) := by
  have e : ∀ (n j : Nat), 8 < n + j → j ≤ 8 → gm_76_4 n t y (sg (fun x => s.1 (t + 8) (9 * x + y)) j) j s = some (sg (fun x => s.1 (t + 8) (9 * x + y)) 8, s) := by
    intro n
    induction n with
    | zero => intro j h; omega
    | succ n ih =>
      intro j h' hj
      rw [gm_76_4, if_pos (by omega)]
      by_cases q : j = 8
      · rw [if_pos (by omega), q]
      · have ce : ((j : Int) + 1) = ((j + 1 : Nat) : Int) := rfl
        have i1 : (((j : Int) * 9) + (y : Int)).toNat = 9 * j + y := by omega
        rw [if_neg (by omega), if_pos (by omega), i1, ce]
        exact ih (j + 1) (by omega) (by omega)
  unfold gm_76
  rw [if_pos ht]
  exact e 100000 0 (by omega) (by omega)
theorem SO_pz2 {f : Nat → Int} {R C g x y : Nat} (M : MP f R C) (h7 : f 2 = 7) (hx : x < 8) (b : Bool) : SO f R C g y x b = sg (pz (fun k => decide (co f C 1 k < 8)) (co f C 1) (co f C 0) (fun k => if b = true then 1 else wt f C g k) x y) (R * C) := by
  refine sg_eq fun k hk => ?_
  obtain ⟨⟨c0, _⟩, ⟨c1, _⟩, _⟩ := co_s M h7 hk
  unfold pz
  rw [c0, c1]
  by_cases q : co f C 1 k = x ∧ co f C 0 k = y
  · rw [if_pos (show (((y : Nat) : Int) = -1 ∨ (co f C 0 k : Int) = y) ∧ (((x : Nat) : Int) = -1 ∨ (co f C 1 k : Int) = x) by omega), if_pos (show decide (co f C 1 k < 8) = true ∧ co f C 1 k = x ∧ co f C 0 k = y from ⟨decide_eq_true (by omega), q⟩)]
    rfl
  · rw [if_neg (show ¬ ((((y : Nat) : Int) = -1 ∨ (co f C 0 k : Int) = y) ∧ (((x : Nat) : Int) = -1 ∨ (co f C 1 k : Int) = x)) by omega), if_neg (fun h => q h.2)]
theorem SO_col {f : Nat → Int} {R C g : Nat} (M : MP f R C) (h7 : f 2 = 7) (z : Int) (b : Bool) : sg (fun y => SO f R C g ((y : Nat) : Int) z b) 9 = SO f R C g (-1) z b := by
  unfold SO
  rw [sg_swap (fun y k => if (((y : Nat) : Int) = -1 ∨ f (52 + 96 * 0 + 12 * (k / C) + k % C) = ((y : Nat) : Int)) ∧ (z = -1 ∨ f (52 + 96 * 1 + 12 * (k / C) + k % C) = z) then (if b = true then 1 else f (32 + 4 * g + (f (52 + 96 * 2 + 12 * (k / C) + k % C)).toNat)) else 0) (R * C) 9]
  refine sg_eq fun k hk => ?_
  obtain ⟨⟨c0, l0⟩, _, _⟩ := co_s M h7 hk
  rw [sg_single (i := co f C 0 k) (by omega) fun y hy hn => if_neg fun h => by
    have := h.1
    omega]
  by_cases q : z = -1 ∨ f (52 + 96 * 1 + 12 * (k / C) + k % C) = z
  · rw [if_pos (show (((co f C 0 k : Nat) : Int) = -1 ∨ f (52 + 96 * 0 + 12 * (k / C) + k % C) = ((co f C 0 k : Nat) : Int)) ∧ (z = -1 ∨ f (52 + 96 * 1 + 12 * (k / C) + k % C) = z) from ⟨.inr c0, q⟩), if_pos (show ((-1 : Int) = -1 ∨ f (52 + 96 * 0 + 12 * (k / C) + k % C) = -1) ∧ (z = -1 ∨ f (52 + 96 * 1 + 12 * (k / C) + k % C) = z) from ⟨.inl rfl, q⟩)]
  · rw [if_neg (show ¬ ((((co f C 0 k : Nat) : Int) = -1 ∨ f (52 + 96 * 0 + 12 * (k / C) + k % C) = ((co f C 0 k : Nat) : Int)) ∧ (z = -1 ∨ f (52 + 96 * 1 + 12 * (k / C) + k % C) = z)) from fun h => q h.2), if_neg (show ¬ (((-1 : Int) = -1 ∨ f (52 + 96 * 0 + 12 * (k / C) + k % C) = -1) ∧ (z = -1 ∨ f (52 + 96 * 1 + 12 * (k / C) + k % C) = z)) from fun h => q h.2)]
theorem GV_r {f : Nat → Int} {R C g : Nat} (M : MP f R C) (h7 : f 2 = 7) (hg : g < 3) : (∀ x y, x < 8 → y < 9 → 0 ≤ GV f R C g x y ∧ GV f R C g x y ≤ LV f R C g x) ∧ sg (LV f R C g) 8 ≤ 89991 ∧ ∀ y, y < 9 → 0 ≤ sg (fun x => GV f R C g x y) 8 ∧ sg (fun x => GV f R C g x y) 8 ≤ 89991 := by
  obtain ⟨p1, p2⟩ := PA_mv M h7 hg
  obtain ⟨t1, t2⟩ := TB_0 (md := f 3) M.2.2.1 p1 (fun _ => p2)
  obtain ⟨l1, l2⟩ := LV_r M hg
  have m := (M.2.2.2.2.1 g hg).2
  have u0 := UN_r M hg
  have as0 : 0 ≤ ASf f R C g := by
    unfold ASf
    split <;> omega
  refine ⟨t1, by omega, fun y hy => ⟨sg_nn fun x hx => (t1 x y hx hy).1, ?_⟩⟩
  have := sg_le (f := fun x => GV f R C g x y) (g := LV f R C g) (n := 8) fun x hx => (t1 x y hx hy).2
  omega
theorem PA_bk {f : Nat → Int} {R C g : Nat} (M : MP f R C) (h7 : f 2 = 7) (hg : g < 3) : PA (Pbk f R C g) (Abk f R C g) ∧ sg (fun x => sg (fun y => Abk f R C g x y) 9) 8 ≤ 864 := by
  obtain ⟨v1, v2, v3⟩ := GV_r M h7 hg
  have B := SO_B M h7 hg (fun _ y => decide (SO f R C g (-1) ((y : Nat) : Int) false = 0)) 9 8
  rw [← sg_swap (fun y x => SO f R C g ((x : Nat) : Int) ((y : Nat) : Int) (decide (SO f R C g (-1) ((y : Nat) : Int) false = 0))) 9 8] at B
  have B : sg (fun x => sg (fun y => Abk f R C g x y) 9) 8 ≤ 864 := B
  refine ⟨⟨fun x hx => ?_, fun x y _ _ => ?_, by omega⟩, B⟩
  · have := v3 x (by omega)
    show 0 ≤ sg (fun z => GV f R C g z x) 8 ∧ sg (fun z => GV f R C g z x) 8 ≤ 100000000
    omega
  · have := SO_r M h7 hg y x (decide (SO f R C g (-1) x false = 0))
    unfold Abk
    omega
theorem sl_24 {f : Nat → Int} {R C g a : Nat} (M : MP f R C) (h7 : f 2 = 7) (hg : g < 3) (h71 : 71 ≤ a) (ht : fx_oc (a + 12) 7 = true) : ∀ (r k n : Nat) (s : gx_S), k + r = R * C → r < n → MR s 1 f R C → s.1 a 9 = g → ∃ u : gx_S, gm_24_17 n a ((R * C : Nat) : Int) k s = gm_24_76 100000 a 0 u ∧ AC (a + 12) s u (fun x y => sg (fun i => pz (fun k => decide (co f C 1 k < 8)) (co f C 1) (co f C 0) (wt f C g) x y (k + i)) r) (fun x y => sg (fun i => pz (fun k => decide (co f C 1 k < 8)) (co f C 1) (co f C 0) (fun _ => 1) x y (k + i)) r) := by
  have hRC := RC_96 M.1.2.2.1 M.1.2.2.2
  intro r
  induction r with
  | zero =>
    intro k n s hk hn m e9
    obtain ⟨n, rfl⟩ : ∃ n', n = n' + 1 := ⟨n - 1, by omega⟩
    refine ⟨s, ?_, AC_0 _ _ (fun x y i => pz (fun k => decide (co f C 1 k < 8)) (co f C 1) (co f C 0) (wt f C g) x y (k + i)) (fun x y i => pz (fun k => decide (co f C 1 k < 8)) (co f C 1) (co f C 0) (fun _ => 1) x y (k + i))⟩
    rw [gm_24_17, if_pos (by omega), if_pos (by omega), if_pos (by omega)]
  | succ r ih =>
    intro k n s hk hn m e9
    obtain ⟨n, rfl⟩ : ∃ n', n = n' + 1 := ⟨n - 1, by omega⟩
    have hkl : k < R * C := by omega
    have ce : ((k : Int) + 1) = ((k + 1 : Nat) : Int) := rfl
    obtain ⟨⟨_, c0⟩, ⟨_, c1⟩, ⟨_, c2⟩⟩ := co_s M h7 hkl
    obtain ⟨g0, g1, g2⟩ := sp_60g m M h7 hkl
    have g3 := sp_61g m M h7 hg hkl
    rw [gm_24_17, if_pos (by omega), if_pos (by omega), if_neg (by omega), g1, Option.bind_some, if_pos (by omega)]
    by_cases q : co f C 1 k < 8
    · rw [if_neg (by omega)]
      show ∃ u : gx_S, ((gm_60 1 0 k s).bind _) = gm_24_76 100000 a 0 u ∧ _
      rw [g0, Option.bind_some]
      show ∃ u : gx_S, ((gm_61 1 (s.1 a 9) k s).bind _) = gm_24_76 100000 a 0 u ∧ _
      rw [e9, g3, Option.bind_some]
      show ∃ u : gx_S, ((gm_69 (a + 12) (co f C 1 k : Int) (co f C 0 k : Int) (wt f C g k) 1 s).bind _) = gm_24_76 100000 a 0 u ∧ _
      rw [sp_69 s ht q (by omega), Option.bind_some]
      unfold gm_24_68
      rw [ce]
      obtain ⟨u, u1, u2⟩ := ih (k + 1) n (adt s (a + 12) (co f C 1 k) (co f C 0 k) (wt f C g k) 1) (by omega) (by omega) (MR_adt (by omega) m) ((adt_o _ _ _ _ _ _ _ _ (by omega) (by omega)).trans e9)
      exact ⟨u, u1, AC_add (K := fun k => decide (co f C 1 k < 8)) (X := co f C 1) (Y := co f C 0) (w := wt f C g) (decide_eq_true q) q (by omega) u2⟩
    · rw [if_pos (by omega)]
      unfold gm_24_68
      rw [ce]
      obtain ⟨u, u1, u2⟩ := ih (k + 1) n s (by omega) (by omega) m e9
      exact ⟨u, u1, AC_skip (K := fun k => decide (co f C 1 k < 8)) (decide_eq_false q) u2⟩
theorem sl_24_76 {a : Nat} (t3 : fx_oc (a + 3) 7 = true) : ∀ (n j : Nat) (s : gx_S), 8 < n + j → j ≤ 8 → ∃ u : gx_S, gm_24_76 n a j s = some u ∧ u.2 = s.2 ∧ (∀ k i, k ≠ a + 12 + 1 → u.1 k i = s.1 k i) ∧ ∀ i, u.1 (a + 12 + 1) i = if j ≤ i ∧ i < 8 then sg (fun x => s.1 (a + 3 + 8) (9 * x + i)) 8 else s.1 (a + 12 + 1) i := by
  intro n
  induction n with
  | zero => intro j s h; omega
  | succ n ih =>
    intro j s h hj
    rw [gm_24_76, if_pos (by omega)]
    by_cases q : j = 8
    · rw [if_pos (by omega)]
      exact ⟨s, rfl, rfl, fun _ _ _ => rfl, fun i => by rw [if_neg (by omega)]⟩
    · have ce : ((j : Int) + 1) = ((j + 1 : Nat) : Int) := rfl
      have i5 : ((j : Int)).toNat = j := by omega
      rw [if_neg (by omega), sp_76 t3 (by omega), Option.bind_some, if_pos (by omega), i5, ce]
      obtain ⟨u, u1, u2, u3, u4⟩ := ih (j + 1) (gw1 s (a + 12 + 1) j (sg (fun x => s.1 (a + 3 + 8) (9 * x + j)) 8)) (by omega) (by omega)
      refine ⟨u, u1, u2, fun k i h => by rw [u3 k i h, gw1_1, if_neg (fun x => h x.1)], fun i => ?_⟩
      rw [u4]
      by_cases e : i = j
      · rw [if_neg (show ¬ (j + 1 ≤ i ∧ i < 8) by omega), gw1_1, if_pos ⟨rfl, e⟩, if_pos (show j ≤ i ∧ i < 8 by omega), e]
      · by_cases e2 : j + 1 ≤ i ∧ i < 8
        · rw [if_pos e2, if_pos (show j ≤ i ∧ i < 8 by omega)]
          exact sg_eq fun x _ => by rw [gw1_1, if_neg (by omega)]
        · rw [if_neg e2, if_neg (show ¬ (j ≤ i ∧ i < 8) by omega), gw1_1, if_neg (fun x => e x.2)]
theorem sp_24 {s : gx_S} {f : Nat → Int} {R C g a : Nat} (m : MR s 1 f R C) (M : MP f R C) (h7 : f 2 = 7) (hg : g < 3) (h71 : 71 ≤ a) (ho : fx_oc a 2 = true) (t3 : fx_oc (a + 3) 7 = true) (ht : fx_oc (a + 12) 7 = true) (e9 : s.1 a 9 = g) (hT : TR s (a + 3) (f 3) (LV f R C g) (PMV f R C g)) : ∃ u w : gx_S, gm_24 a s = some u ∧ u.1 1 7 = f 3 ∧ gm_41 (a + 12) (f 3) u = some w ∧ TR w (a + 12) (f 3) (Pbk f R C g) (Abk f R C g) ∧ w.2 = s.2 ∧ ∀ k j, ¬ (7 ≤ k ∧ k ≤ 13) → ¬ (k = 6 ∧ j = 7) → ¬ (a + 13 ≤ k ∧ k ≤ a + 20) → w.1 k j = s.1 k j := by
  obtain ⟨c, b1, b2, b3, b4, b5⟩ := sp_68 s ht
  have mc : MR c 1 f R C := MR_o (fun k j h1 h2 => b5 k j (by omega) (by omega) (by omega)) m
  have c9 : c.1 a 9 = g := (b5 _ _ (by omega) (by omega) (by omega)).trans e9
  have hRC := RC_96 M.1.2.2.1 M.1.2.2.2
  obtain ⟨d, d1, d2, d3, d4⟩ := sl_24 M h7 hg h71 ht (R * C) 0 100000 c (by omega) (by omega) mc c9
  have d1 : gm_24_17 100000 a ((R * C : Nat) : Int) 0 c = _ := d1
  obtain ⟨u, u1, u2, u3, u4⟩ := sl_24_76 t3 100000 0 d (by omega) (by omega)
  have u1 : gm_24_76 100000 a 0 d = some u := u1
  have e45 : ∀ x y, x < 8 → y < 9 → u.1 (a + 12 + 4) (9 * x + y) = SO f R C g y x false ∧ u.1 (a + 12 + 5) (9 * x + y) = SO f R C g y x true := fun x y hx hy => by
    obtain ⟨q1, q2⟩ := d4 x y hx hy
    have z := b4 (9 * x + y) (by omega)
    rw [z.1] at q1
    rw [z.2] at q2
    rw [u3 _ _ (by omega), u3 _ _ (by omega), q1, q2, SO_pz2 M h7 hx false, SO_pz2 M h7 hx true]
    constructor
    · rw [Int.zero_add]
      exact sg_eq fun k _ => by rw [Nat.zero_add]; rfl
    · rw [Int.zero_add]
      exact sg_eq fun k _ => by rw [Nat.zero_add]; rfl
  obtain ⟨pa, p8⟩ := PA_bk M h7 hg
  have hb : ∀ i, i < 72 → (0 ≤ u.1 (a + 12 + 4) i ∧ u.1 (a + 12 + 4) i ≤ 1000000) ∧ (0 ≤ u.1 (a + 12 + 5) i ∧ u.1 (a + 12 + 5) i ≤ 1000000) := fun i hi => by
    have e : 9 * (i / 9) + i % 9 = i := by omega
    have q := e45 (i / 9) (i % 9) (by omega) (by omega)
    rw [e] at q
    rw [q.1, q.2]
    have r1 := SO_r M h7 hg ((i % 9 : Nat) : Int) ((i / 9 : Nat) : Int) false
    have r2 := SO_r M h7 hg ((i % 9 : Nat) : Int) ((i / 9 : Nat) : Int) true
    omega
  have hp : ∀ x, x < 8 → u.1 (a + 12 + 1) x = Pbk f R C g x := fun x hx => by
    rw [u4, if_pos ⟨by omega, hx⟩]
    unfold Pbk
    refine sg_eq fun z hz => ?_
    rw [d3 _ _ (by omega) (by omega), b5 _ _ (by omega) (by omega) (by omega)]
    exact ((hT z hz).2.2 x (by omega)).2.2.2
  obtain ⟨w, w1, w2, w3, _⟩ := TR_class (t := a + 12) ht M.2.2.1 pa (fun _ => p8) hp hb fun x y hx hy => am_SO (T := Abk f R C g) (R := R) (C := C) (f := f) (g := g) (fun x y b => SO f R C g y x b) (fun y hy => (e45 x y hx hy).1) (fun y hy => (e45 x y hx hy).2) hy (by
    unfold Abk
    rw [SO_col M h7 (x : Int) false])
  refine ⟨u, w, ?_, ?_, w1, w2, ?_, fun k j h1 h2 h3 => ?_⟩
  · unfold gm_24
    rw [if_pos ho, b1, Option.bind_some, sp_58 (MR_cz mc M), Option.bind_some, d1, u1]
  · rw [u3 1 7 (by omega), d3 1 7 (by omega) (by omega)]
    exact mc.2.2.2.1
  · rw [w3.1, u2, d2]
    exact b2
  · rw [w3.2 k j h1 h2 (by omega) (by omega), u3 k j (by omega), d3 k j (by omega) (by omega), b5 k j (by omega) (by omega) (by omega)]
theorem rd_4 {s : gx_S} {f : Nat → Int} {R C g a D : Nat} (m : MR s 1 f R C) (M : MP f R C) (h7 : f 2 = 7) (hg : g < 3) (ha : ga a) (G : GGD s f R C g a D) (l1 : D / 1 % 2 = 1) (l2 : D / 2 % 2 = 1) : ∃ (D' : Nat) (u : gx_S), gm_19_59 a 4 s = gm_19_103 a 4 u ∧ KG a s u ∧ GGD u f R C g a D' ∧ D' / 4 % 2 = 1 ∧ D' / 1 % 2 = 1 ∧ D' / 2 % 2 = 1 := by
  obtain ⟨a71, a215, ho, t3, t12, t21, t30, t39⟩ := id ha
  obtain ⟨hD, e8, e9, g1, g2, g4, g8, g16, g32⟩ := G
  obtain ⟨D', t, q1, q2, q3, q4, q5, q6, q7⟩ := sp_21 (w := 4) ho hD (by decide) e8
  have q1 : gm_21 a 4 s = some (decide (¬ D / 4 % 2 = 1), t) := q1
  have n1 := q7 1 (by decide) (by decide)
  have n2 := q7 2 (by decide) (by decide)
  have n8 := q7 8 (by decide) (by decide)
  have n16 := q7 16 (by decide) (by decide)
  have n32 := q7 32 (by decide) (by decide)
  have to : ∀ k j, ¬ (k = a ∧ j = 8) → t.1 k j = s.1 k j := q3
  obtain ⟨li1, li2, li3⟩ := g1 l1
  unfold gm_19_59
  rw [if_pos (by decide), if_neg (by decide), q1, Option.bind_some]
  by_cases z : D / 4 % 2 = 1
  · rw [decide_eq_false (fun h => h z), if_pos (show gb (false, t).1 = 0 from (by decide : gb false = 0))]
    refine ⟨D', t, rfl, ⟨q2, fun k j h1 h2 => to k j (by omega)⟩, ⟨q5, q4, (to a 9 (by omega)).trans e9, fun _ => ⟨fun z hz => (to _ _ (by omega)).trans (li1 z hz), (to _ _ (by omega)).trans li2, (to _ _ (by omega)).trans li3⟩, fun h => ?_, fun h => ?_, fun h => ?_, fun h => ?_, fun h => ?_⟩, q6, n1.trans l1, n2.trans l2⟩
    · exact ⟨n1.trans l1, TM_o (fun k j h1 h2 => to k j (by omega)) (g2 l2).2⟩
    · exact TR_o (fun k j h1 h2 => to k j (by omega)) (g4 z)
    · exact ⟨n1.trans l1, TR_o (fun k j h1 h2 => to k j (by omega)) (g8 (n8 ▸ h)).2⟩
    · exact TR_o (fun k j h1 h2 => to k j (by omega)) (g16 (n16 ▸ h))
    · obtain ⟨x1, x2⟩ := g32 (n32 ▸ h)
      exact ⟨n2.trans l2, fun k hk => by rw [to _ _ (by omega)]; exact x2 k hk⟩
  · rw [decide_eq_true z, if_neg (show ¬ gb (true, t).1 = 0 from (by decide : ¬ gb true = 0))]
    have mt : MR t 1 f R C := MR_o (fun k j h1 h2 => to k j (by omega)) m
    obtain ⟨u, w, u1, u2, u3, u4, u5, u6⟩ := sp_24 mt M h7 hg a71 ho t3 t12 ((to a 9 (by omega)).trans e9) (TM_o (fun k j h1 h2 => to k j (by omega)) (g2 l2).2).1
    have wo : ∀ k j, a ≤ k → ¬ (k = a ∧ j = 8) → ¬ (a + 13 ≤ k ∧ k ≤ a + 20) → w.1 k j = s.1 k j := fun k j h1 h2 h3 => (u6 k j (by omega) (by omega) h3).trans (to k j h2)
    have w8 : w.1 a 8 = D' := (u6 a 8 (by omega) (by omega) (by omega)).trans q4
    have m3 := M.2.2.1
    have st : ((gm_24 a (true, t).2).bind fun q7 => if (-2147483648 ≤ (q7.1 1 7) ∧ (q7.1 1 7) ≤ 2147483647) then (if ¬ (q7.1 1 7) = 1 then gm_19_100 a 4 (a + 12) 0 q7 else gm_19_100 a 4 (a + 12) 1 q7) else none) = gm_19_103 a 4 w := by
      show ((gm_24 a t).bind _) = _
      rw [u1, Option.bind_some, u2, if_pos (by omega)]
      unfold gm_19_100
      rcases m3 with e | e
      · rw [e] at u3
        rw [if_pos (by rw [e]; decide), u3, Option.bind_some]
      · rw [e] at u3
        rw [if_neg (by rw [e]; decide), u3, Option.bind_some]
    rw [st]
    refine ⟨D', w, rfl, ⟨u5.trans q2, fun k j h1 h2 => (u6 k j (by omega) (by omega) (by omega)).trans (to k j (by omega))⟩, ⟨q5, w8, (wo a 9 (by omega) (by omega) (by omega)).trans e9, fun _ => ⟨fun z hz => (wo _ _ (by omega) (by omega) (by omega)).trans (li1 z hz), (wo _ _ (by omega) (by omega) (by omega)).trans li2, (wo _ _ (by omega) (by omega) (by omega)).trans li3⟩, fun _ => ⟨n1.trans l1, TM_o (fun k j h1 h2 => wo k j (by omega) (by omega) (by omega)) (g2 l2).2⟩, fun _ => u4, fun h => ?_, fun h => ?_, fun h => ?_⟩, q6, n1.trans l1, n2.trans l2⟩
    · exact ⟨n1.trans l1, TR_o (fun k j h1 h2 => wo k j (by omega) (by omega) (by omega)) (g8 (n8 ▸ h)).2⟩
    · exact TR_o (fun k j h1 h2 => wo k j (by omega) (by omega) (by omega)) (g16 (n16 ▸ h))
    · obtain ⟨x1, x2⟩ := g32 (n32 ▸ h)
      exact ⟨n2.trans l2, fun k hk => by rw [wo _ _ (by omega) (by omega) (by omega)]; exact x2 k hk⟩
end
section
/-! THE CLASS: the coarse table -/
theorem dsc_r {f : Nat → Int} {R C : Nat} (M : MP f R C) {y : Nat} (hy : y < 9) : 0 ≤ dsc f y ∧ dsc f y ≤ 4 ∧ (y < 8 → dsc f y ≤ 3 ∧ dsc f y = f (44 + y)) := by
  unfold dsc
  by_cases q : y = 8
  · rw [if_pos q]
    omega
  · rw [if_neg q]
    have := M.2.2.2.2.2.2.1 y (by omega)
    omega
/-- amounts of the coarse table, by weights or by cells -/
def Fco (f : Nat → Int) (R C g x d : Nat) (b : Bool) : Int := sg (fun y => if dsc f y = (d : Int) then SO f R C g x y b else 0) 9
theorem Fco_pz {f : Nat → Int} {R C g x d : Nat} (M : MP f R C) (h7 : f 2 = 7) (hx : x < 8) (b : Bool) : Fco f R C g x d b = sg (pz (fun k => decide (co f C 0 k < 8)) (co f C 0) (fun k => (dsc f (co f C 1 k)).toNat) (fun k => if b = true then 1 else wt f C g k) x d) (R * C) := by
  have e : Fco f R C g x d b = sg (fun y => sg (fun k => if dsc f y = (d : Int) then pz (fun k => decide (co f C 0 k < 8)) (co f C 0) (co f C 1) (fun k => if b = true then 1 else wt f C g k) x y k else 0) (R * C)) 9 := sg_eq fun y hy => by
    by_cases q : dsc f y = (d : Int)
    · rw [if_pos q, SO_pz M h7 hx b]
      exact sg_eq fun k _ => by rw [if_pos q]
    · rw [if_neg q, sg_0 fun k _ => if_neg q]
  rw [e, sg_swap (fun y k => if dsc f y = (d : Int) then pz (fun k => decide (co f C 0 k < 8)) (co f C 0) (co f C 1) (fun k => if b = true then 1 else wt f C g k) x y k else 0) (R * C) 9]
  refine sg_eq fun k hk => ?_
  obtain ⟨_, ⟨_, c1⟩, _⟩ := co_s M h7 hk
  have dr := dsc_r M (show co f C 1 k < 9 by omega)
  rw [sg_single (i := co f C 1 k) (by omega) fun y hy hn => by
    have z : pz (fun k => decide (co f C 0 k < 8)) (co f C 0) (co f C 1) (fun k => if b = true then 1 else wt f C g k) x y k = 0 := if_neg fun h => hn h.2.2.symm
    rw [z]
    split <;> rfl]
  unfold pz
  by_cases q : dsc f (co f C 1 k) = (d : Int)
  · rw [if_pos q]
    by_cases q2 : decide (co f C 0 k < 8) = true ∧ co f C 0 k = x
    · rw [if_pos ⟨q2.1, q2.2, rfl⟩, if_pos ⟨q2.1, q2.2, show (dsc f (co f C 1 k)).toNat = d by omega⟩]
    · rw [if_neg (fun h => q2 ⟨h.1, h.2.1⟩), if_neg (fun h => q2 ⟨h.1, h.2.1⟩)]
  · rw [if_neg q, if_neg (fun h => q (by
      have h' : (dsc f (co f C 1 k)).toNat = d := h.2.2
      omega))]
theorem sum_dsc {f : Nat → Int} {R C : Nat} (M : MP f R C) (h : Nat → Int) : sg (fun d => sg (fun y => if dsc f y = ((d : Nat) : Int) then h y else 0) 9) 9 = sg h 9 := by
  rw [sg_swap (fun d y => if dsc f y = ((d : Nat) : Int) then h y else 0) 9 9]
  refine sg_eq fun y hy => ?_
  have dr := dsc_r M hy
  rw [sg_single (i := (dsc f y).toNat) (by omega) fun d hd hn => if_neg fun h => hn (by omega)]
  exact if_pos (by omega)
theorem PA_co {f : Nat → Int} {R C g : Nat} (M : MP f R C) (h7 : f 2 = 7) (hg : g < 3) : PA (LV f R C g) (Aco f R C g) ∧ sg (fun x => sg (fun y => Aco f R C g x y) 9) 8 ≤ 864 ∧ (∀ x d, d < 9 → 4 < d → Aco f R C g x d = 0) ∧ ∀ x, sg (fun d => Aco f R C g x d) 9 = sg (fun y => PMV f R C g x y) 9 := by
  obtain ⟨p1, p2⟩ := PA_mv M h7 hg
  have rows : ∀ x, sg (fun d => Aco f R C g x d) 9 = sg (fun y => PMV f R C g x y) 9 := fun x => sum_dsc M (fun y => PMV f R C g x y)
  have nn : ∀ x y, 0 ≤ PMV f R C g x y := fun x y => (SO_r M h7 hg x y _).1
  have B : sg (fun x => sg (fun y => Aco f R C g x y) 9) 8 ≤ 864 := by
    rw [sg_eq (g := fun x => sg (fun y => PMV f R C g x y) 9) fun x _ => rows x]
    exact p2
  have an : ∀ x d, 0 ≤ Aco f R C g x d := fun x d => sg_nn fun y _ => by
    show 0 ≤ (if dsc f y = (d : Int) then PMV f R C g x y else 0)
    split
    · exact nn x y
    · exact Int.le_refl 0
  refine ⟨⟨p1.1, fun x y hx hy => ⟨an x y, ?_⟩, by omega⟩, B, fun x d _ h4 => sg_0 fun y hy => if_neg fun h => ?_, rows⟩
  · have a := sg_at (f := fun y => Aco f R C g x y) (n := 9) (fun k _ => an x k) y hy
    have b := sg_at (f := fun x => sg (fun y => Aco f R C g x y) 9) (n := 8) (fun k _ => sg_nn fun y _ => an k y) x hx
    omega
  · have := dsc_r M hy
    omega
theorem sl_25 {f : Nat → Int} {R C g a : Nat} (M : MP f R C) (h7 : f 2 = 7) (hg : g < 3) (h71 : 71 ≤ a) (ht : fx_oc (a + 21) 7 = true) : ∀ (r k n : Nat) (s : gx_S), k + r = R * C → r < n → MR s 1 f R C → s.1 a 9 = g → ∃ u : gx_S, gm_25_35 n a ((R * C : Nat) : Int) k s = some u ∧ AC (a + 21) s u (fun x y => sg (fun i => pz (fun k => decide (co f C 0 k < 8)) (co f C 0) (fun k => (dsc f (co f C 1 k)).toNat) (wt f C g) x y (k + i)) r) (fun x y => sg (fun i => pz (fun k => decide (co f C 0 k < 8)) (co f C 0) (fun k => (dsc f (co f C 1 k)).toNat) (fun _ => 1) x y (k + i)) r) := by
  have hRC := RC_96 M.1.2.2.1 M.1.2.2.2
  intro r
  induction r with
  | zero =>
    intro k n s hk hn m e9
    obtain ⟨n, rfl⟩ : ∃ n', n = n' + 1 := ⟨n - 1, by omega⟩
    refine ⟨s, ?_, AC_0 _ _ (fun x y i => pz (fun k => decide (co f C 0 k < 8)) (co f C 0) (fun k => (dsc f (co f C 1 k)).toNat) (wt f C g) x y (k + i)) (fun x y i => pz (fun k => decide (co f C 0 k < 8)) (co f C 0) (fun k => (dsc f (co f C 1 k)).toNat) (fun _ => 1) x y (k + i))⟩
    rw [gm_25_35, if_pos (by omega), if_pos (by omega), if_pos (by omega)]
  | succ r ih =>
    intro k n s hk hn m e9
    obtain ⟨n, rfl⟩ : ∃ n', n = n' + 1 := ⟨n - 1, by omega⟩
    have hkl : k < R * C := by omega
    have ce : ((k : Int) + 1) = ((k + 1 : Nat) : Int) := rfl
    obtain ⟨⟨_, c0⟩, ⟨_, c1⟩, ⟨_, c2⟩⟩ := co_s M h7 hkl
    obtain ⟨g0, g1, g2⟩ := sp_60g m M h7 hkl
    have g3 := sp_61g m M h7 hg hkl
    have dr := dsc_r M (show co f C 1 k < 9 by omega)
    rw [gm_25_35, if_pos (by omega), if_pos (by omega), if_neg (by omega), g0, Option.bind_some]
    show ∃ u : gx_S, ((gm_60 1 1 k s).bind _) = some u ∧ _
    rw [g1, Option.bind_some, if_pos (by omega)]
    by_cases q : co f C 0 k < 8
    · have ad : gm_25_88 (gm_25_35 n) a ((R * C : Nat) : Int) k (co f C 0 k) (dsc f (co f C 1 k)) s = gm_25_35 n a ((R * C : Nat) : Int) ((k + 1 : Nat) : Int) (adt s (a + 21) (co f C 0 k) (dsc f (co f C 1 k)).toNat (wt f C g k) 1) := by
        unfold gm_25_88
        rw [e9, g3, Option.bind_some]
        have c69 := sp_69 (t := a + 21) (x := co f C 0 k) (y := (dsc f (co f C 1 k)).toNat) (v := wt f C g k) (w := 1) s ht q (by omega)
        rw [show (((dsc f (co f C 1 k)).toNat : Nat) : Int) = dsc f (co f C 1 k) by omega] at c69
        show ((gm_69 (a + 21) (co f C 0 k : Int) (dsc f (co f C 1 k)) (wt f C g k) 1 s).bind _) = _
        rw [c69, Option.bind_some]
        unfold gm_25_113
        rw [ce]
      have go : (if (-2147483648 ≤ (co f C 1 k : Int) ∧ (co f C 1 k : Int) ≤ 2147483647) then (if 8 ≤ (co f C 1 k : Int) then gm_25_88 (gm_25_35 n) a ((R * C : Nat) : Int) k (co f C 0 k) 4 s else (if 0 ≤ (co f C 1 k : Int) ∧ (co f C 1 k : Int) < 8 then gm_25_88 (gm_25_35 n) a ((R * C : Nat) : Int) k (co f C 0 k) (s.1 5 (co f C 1 k : Int).toNat) s else none)) else none) = gm_25_88 (gm_25_35 n) a ((R * C : Nat) : Int) k (co f C 0 k) (dsc f (co f C 1 k)) s := by
        rw [if_pos (by omega)]
        by_cases q2 : co f C 1 k < 8
        · rw [if_neg (by omega), if_pos (by omega), show ((co f C 1 k : Int)).toNat = co f C 1 k by omega]
          have e5 := m.2.2.2.2.2.2.2.1 (co f C 1 k) q2
          rw [show (1 : Nat) + 4 = 5 from rfl] at e5
          rw [e5, (dr.2.2 q2).2]
        · rw [if_pos (by omega), show dsc f (co f C 1 k) = 4 from if_pos (by omega)]
      rw [if_neg (by omega)]
      show ∃ u : gx_S, (if (-2147483648 ≤ (co f C 1 k : Int) ∧ (co f C 1 k : Int) ≤ 2147483647) then (if 8 ≤ (co f C 1 k : Int) then gm_25_88 (gm_25_35 n) a ((R * C : Nat) : Int) k (co f C 0 k) 4 s else (if 0 ≤ (co f C 1 k : Int) ∧ (co f C 1 k : Int) < 8 then gm_25_88 (gm_25_35 n) a ((R * C : Nat) : Int) k (co f C 0 k) (s.1 5 (co f C 1 k : Int).toNat) s else none)) else none) = some u ∧ _
      rw [go, ad]
      obtain ⟨u, u1, u2⟩ := ih (k + 1) n (adt s (a + 21) (co f C 0 k) (dsc f (co f C 1 k)).toNat (wt f C g k) 1) (by omega) (by omega) (MR_adt (by omega) m) ((adt_o _ _ _ _ _ _ _ _ (by omega) (by omega)).trans e9)
      exact ⟨u, u1, AC_add (K := fun k => decide (co f C 0 k < 8)) (X := co f C 0) (Y := fun k => (dsc f (co f C 1 k)).toNat) (w := wt f C g) (decide_eq_true q) q (show (dsc f (co f C 1 k)).toNat < 9 by omega) u2⟩
    · rw [if_pos (by omega)]
      unfold gm_25_113
      rw [ce]
      obtain ⟨u, u1, u2⟩ := ih (k + 1) n s (by omega) (by omega) m e9
      exact ⟨u, u1, AC_skip (K := fun k => decide (co f C 0 k < 8)) (decide_eq_false q) u2⟩
theorem sp_25 {s : gx_S} {f : Nat → Int} {R C g a : Nat} (m : MR s 1 f R C) (M : MP f R C) (h7 : f 2 = 7) (hg : g < 3) (h71 : 71 ≤ a) (ho : fx_oc a 2 = true) (ht : fx_oc (a + 21) 7 = true) (e9 : s.1 a 9 = g) (hl : ∀ z, z < 8 → s.1 (a + 1) z = LV f R C g z) : ∃ u w : gx_S, gm_25 a s = some u ∧ u.1 1 7 = f 3 ∧ gm_41 (a + 21) (f 3) u = some w ∧ TR w (a + 21) (f 3) (LV f R C g) (Aco f R C g) ∧ w.2 = s.2 ∧ ∀ k j, ¬ (7 ≤ k ∧ k ≤ 13) → ¬ (k = 6 ∧ j = 7) → ¬ (a + 22 ≤ k ∧ k ≤ a + 29) → w.1 k j = s.1 k j := by
  obtain ⟨b, b1, b2, b3, b4, b5⟩ := sp_68 s ht
  obtain ⟨c, hc⟩ : ∃ c, c = gcp b (a + 1) 0 (a + 21 + 1) 0 8 := ⟨_, rfl⟩
  have ck : ∀ k i, k ≠ a + 21 + 1 → c.1 k i = b.1 k i := fun k i h => by
    rw [hc]
    exact if_neg fun x => h x.1
  have c1 : ∀ x, x < 8 → c.1 (a + 21 + 1) x = LV f R C g x := fun x hx => by
    rw [hc]
    show (if a + 21 + 1 = a + 21 + 1 ∧ 0 ≤ x ∧ x < 0 + 8 then b.1 (a + 1) (0 + (x - 0)) else b.1 (a + 21 + 1) x) = _
    rw [if_pos ⟨rfl, by omega, by omega⟩, show 0 + (x - 0) = x by omega, b5 _ _ (by omega) (by omega) (by omega)]
    exact hl x hx
  have mc : MR c 1 f R C := MR_o (fun k j h1 h2 => (ck k j (by omega)).trans (b5 k j (by omega) (by omega) (by omega))) m
  have c9 : c.1 a 9 = g := by rw [ck _ _ (by omega), b5 _ _ (by omega) (by omega) (by omega)]; exact e9
  have hRC := RC_96 M.1.2.2.1 M.1.2.2.2
  obtain ⟨u, u1, u2, u3, u4⟩ := sl_25 M h7 hg h71 ht (R * C) 0 100000 c (by omega) (by omega) mc c9
  have u1 : gm_25_35 100000 a ((R * C : Nat) : Int) 0 c = some u := u1
  have e45 : ∀ x y, x < 8 → y < 9 → u.1 (a + 21 + 4) (9 * x + y) = Fco f R C g x y false ∧ u.1 (a + 21 + 5) (9 * x + y) = Fco f R C g x y true := fun x y hx hy => by
    obtain ⟨q1, q2⟩ := u4 x y hx hy
    have z := b4 (9 * x + y) (by omega)
    rw [ck _ _ (by omega), z.1] at q1
    rw [ck _ _ (by omega), z.2] at q2
    rw [q1, q2, Fco_pz M h7 hx false, Fco_pz M h7 hx true]
    constructor
    · rw [Int.zero_add]
      exact sg_eq fun k _ => by rw [Nat.zero_add]; rfl
    · rw [Int.zero_add]
      exact sg_eq fun k _ => by rw [Nat.zero_add]; rfl
  obtain ⟨pa, p8, p0, prow⟩ := PA_co M h7 hg
  have Fb : ∀ x d b, 0 ≤ Fco f R C g x d b ∧ Fco f R C g x d b ≤ 864 := fun x d b => by
    have nn : ∀ y : Nat, 0 ≤ SO f R C g x y b := fun y => (SO_r M h7 hg x y b).1
    refine ⟨sg_nn fun y _ => ?_, ?_⟩
    · show 0 ≤ (if dsc f y = (d : Int) then SO f R C g x y b else 0)
      split
      · exact nn y
      · exact Int.le_refl 0
    · have e := sg_le (f := fun y => if dsc f y = (d : Int) then SO f R C g x ((y : Nat) : Int) b else 0) (g := fun y => SO f R C g x ((y : Nat) : Int) b) (n := 9) fun y _ => by
        show (if dsc f y = (d : Int) then SO f R C g x y b else 0) ≤ SO f R C g x y b
        split
        · exact Int.le_refl _
        · exact nn y
      rw [SO_row M h7 x b] at e
      have := (SO_r M h7 hg x (-1) b).2
      unfold Fco
      omega
  have hb : ∀ i, i < 72 → (0 ≤ u.1 (a + 21 + 4) i ∧ u.1 (a + 21 + 4) i ≤ 1000000) ∧ (0 ≤ u.1 (a + 21 + 5) i ∧ u.1 (a + 21 + 5) i ≤ 1000000) := fun i hi => by
    have e : 9 * (i / 9) + i % 9 = i := by omega
    have q := e45 (i / 9) (i % 9) (by omega) (by omega)
    rw [e] at q
    rw [q.1, q.2]
    have r1 := Fb (i / 9) (i % 9) false
    have r2 := Fb (i / 9) (i % 9) true
    omega
  obtain ⟨w, w1, w2, w3, _⟩ := TR_class (t := a + 21) ht M.2.2.1 pa (fun _ => p8) (fun x hx => (u3 _ _ (by omega) (by omega)).trans (c1 x hx)) hb fun x y hx hy => am_SO (T := Aco f R C g) (R := R) (C := C) (f := f) (g := g) (fun x y b => Fco f R C g x y b) (fun y hy => (e45 x y hx hy).1) (fun y hy => (e45 x y hx hy).2) hy (by
    have e : sg (fun y => Fco f R C g x y false) 9 = SO f R C g x (-1) false := (sum_dsc M (fun y => SO f R C g x ((y : Nat) : Int) false)).trans (SO_row M h7 (x : Int) false)
    rw [e]
    rfl)
  refine ⟨u, w, ?_, ?_, w1, w2, ?_, fun k j h1 h2 h3 => ?_⟩
  · unfold gm_25
    rw [if_pos ho, b1, Option.bind_some, ← hc, sp_58 (MR_cz mc M), Option.bind_some, u1]
  · rw [u3 1 7 (by omega) (by omega)]
    exact mc.2.2.2.1
  · rw [w3.1, u2, hc]
    exact b2
  · rw [w3.2 k j h1 h2 (by omega) (by omega), u3 k j (by omega) (by omega), ck k j (by omega), b5 k j (by omega) (by omega) (by omega)]
theorem rd_8 {s : gx_S} {f : Nat → Int} {R C g a D : Nat} {what : Int} (hwt : what = 8 ∨ what = 16) (m : MR s 1 f R C) (M : MP f R C) (h7 : f 2 = 7) (hg : g < 3) (ha : ga a) (G : GGD s f R C g a D) (l1 : D / 1 % 2 = 1) : ∃ (D' : Nat) (u : gx_S), gm_19_103 a what s = gm_19_155 a what u ∧ KG a s u ∧ GGD u f R C g a D' ∧ D' / 8 % 2 = 1 ∧ D' / 1 % 2 = 1 := by
  obtain ⟨a71, a215, ho, t3, t12, t21, t30, t39⟩ := id ha
  obtain ⟨hD, e8, e9, g1, g2, g4, g8, g16, g32⟩ := G
  obtain ⟨D', t, q1, q2, q3, q4, q5, q6, q7⟩ := sp_21 (w := 8) ho hD (by decide) e8
  have q1 : gm_21 a 8 s = some (decide (¬ D / 8 % 2 = 1), t) := q1
  have n1 := q7 1 (by decide) (by decide)
  have n2 := q7 2 (by decide) (by decide)
  have n4 := q7 4 (by decide) (by decide)
  have n16 := q7 16 (by decide) (by decide)
  have n32 := q7 32 (by decide) (by decide)
  have to : ∀ k j, ¬ (k = a ∧ j = 8) → t.1 k j = s.1 k j := q3
  obtain ⟨li1, li2, li3⟩ := g1 l1
  have hd : gm_19_103 a what s = gm_19_115 a what s := by
    unfold gm_19_103
    rcases hwt with e | e
    · rw [e, if_pos (by decide), if_pos rfl]
    · rw [e, if_pos (by decide), if_neg (by decide), if_neg (by decide)]
  rw [hd]
  unfold gm_19_115
  rw [q1, Option.bind_some]
  by_cases z : D / 8 % 2 = 1
  · rw [decide_eq_false (fun h => h z), if_pos (show gb (false, t).1 = 0 from (by decide : gb false = 0))]
    refine ⟨D', t, rfl, ⟨q2, fun k j h1 h2 => to k j (by omega)⟩, ⟨q5, q4, (to a 9 (by omega)).trans e9, fun _ => ⟨fun z hz => (to _ _ (by omega)).trans (li1 z hz), (to _ _ (by omega)).trans li2, (to _ _ (by omega)).trans li3⟩, fun h => ?_, fun h => ?_, fun h => ?_, fun h => ?_, fun h => ?_⟩, q6, n1.trans l1⟩
    · exact ⟨n1.trans l1, TM_o (fun k j h1 h2 => to k j (by omega)) (g2 (n2 ▸ h)).2⟩
    · exact TR_o (fun k j h1 h2 => to k j (by omega)) (g4 (n4 ▸ h))
    · exact ⟨n1.trans l1, TR_o (fun k j h1 h2 => to k j (by omega)) (g8 z).2⟩
    · exact TR_o (fun k j h1 h2 => to k j (by omega)) (g16 (n16 ▸ h))
    · obtain ⟨x1, x2⟩ := g32 (n32 ▸ h)
      exact ⟨n2.trans x1, fun k hk => by rw [to _ _ (by omega)]; exact x2 k hk⟩
  · rw [decide_eq_true z, if_neg (show ¬ gb (true, t).1 = 0 from (by decide : ¬ gb true = 0))]
    have mt : MR t 1 f R C := MR_o (fun k j h1 h2 => to k j (by omega)) m
    obtain ⟨u, w, u1, u2, u3, u4, u5, u6⟩ := sp_25 mt M h7 hg a71 ho t21 ((to a 9 (by omega)).trans e9) fun z hz => (to _ _ (by omega)).trans (li1 z hz)
    have wo : ∀ k j, a ≤ k → ¬ (k = a ∧ j = 8) → ¬ (a + 22 ≤ k ∧ k ≤ a + 29) → w.1 k j = s.1 k j := fun k j h1 h2 h3 => (u6 k j (by omega) (by omega) h3).trans (to k j h2)
    have w8 : w.1 a 8 = D' := (u6 a 8 (by omega) (by omega) (by omega)).trans q4
    have m3 := M.2.2.1
    have st : ((gm_25 a (true, t).2).bind fun q5 => if (-2147483648 ≤ (q5.1 1 7) ∧ (q5.1 1 7) ≤ 2147483647) then (if ¬ (q5.1 1 7) = 1 then gm_19_152 a what (a + 21) 0 q5 else gm_19_152 a what (a + 21) 1 q5) else none) = gm_19_155 a what w := by
      show ((gm_25 a t).bind _) = _
      rw [u1, Option.bind_some, u2, if_pos (by omega)]
      unfold gm_19_152
      rcases m3 with e | e
      · rw [e] at u3
        rw [if_pos (by rw [e]; decide), u3, Option.bind_some]
      · rw [e] at u3
        rw [if_neg (by rw [e]; decide), u3, Option.bind_some]
    rw [st]
    refine ⟨D', w, rfl, ⟨u5.trans q2, fun k j h1 h2 => (u6 k j (by omega) (by omega) (by omega)).trans (to k j (by omega))⟩, ⟨q5, w8, (wo a 9 (by omega) (by omega) (by omega)).trans e9, fun _ => ⟨fun z hz => (wo _ _ (by omega) (by omega) (by omega)).trans (li1 z hz), (wo _ _ (by omega) (by omega) (by omega)).trans li2, (wo _ _ (by omega) (by omega) (by omega)).trans li3⟩, fun h => ?_, fun h => ?_, fun _ => ⟨n1.trans l1, u4⟩, fun h => ?_, fun h => ?_⟩, q6, n1.trans l1⟩
    · exact ⟨n1.trans l1, TM_o (fun k j h1 h2 => wo k j (by omega) (by omega) (by omega)) (g2 (n2 ▸ h)).2⟩
    · exact TR_o (fun k j h1 h2 => wo k j (by omega) (by omega) (by omega)) (g4 (n4 ▸ h))
    · exact TR_o (fun k j h1 h2 => wo k j (by omega) (by omega) (by omega)) (g16 (n16 ▸ h))
    · obtain ⟨x1, x2⟩ := g32 (n32 ▸ h)
      exact ⟨n2.trans x1, fun k hk => by rw [wo _ _ (by omega) (by omega) (by omega)]; exact x2 k hk⟩
end
section
/-! THE CLASS: the table of districts' ways -/
def Wwy (f : Nat → Int) (R C g d y : Nat) (b : Bool) : Int := if y < 8 ∧ dsc f y = (d : Int) then SO f R C g (-1) y b else 0
theorem Wwy_pz {f : Nat → Int} {R C g d y : Nat} (M : MP f R C) (h7 : f 2 = 7) (b : Bool) : Wwy f R C g d y b = sg (pz (fun k => decide (co f C 1 k < 8)) (fun k => (dsc f (co f C 1 k)).toNat) (co f C 1) (fun k => if b = true then 1 else wt f C g k) d y) (R * C) := by
  unfold Wwy
  by_cases q : y < 8 ∧ dsc f y = (d : Int)
  · rw [if_pos q]
    refine sg_eq fun k hk => ?_
    obtain ⟨⟨c0, _⟩, ⟨c1, _⟩, _⟩ := co_s M h7 hk
    unfold pz
    rw [c0, c1]
    by_cases q2 : co f C 1 k = y
    · rw [if_pos (show ((-1 : Int) = -1 ∨ (co f C 0 k : Int) = -1) ∧ (((y : Nat) : Int) = -1 ∨ (co f C 1 k : Int) = y) by omega), if_pos (show decide (co f C 1 k < 8) = true ∧ (dsc f (co f C 1 k)).toNat = d ∧ co f C 1 k = y from ⟨decide_eq_true (by omega), by rw [q2]; omega, q2⟩)]
      rfl
    · rw [if_neg (show ¬ (((-1 : Int) = -1 ∨ (co f C 0 k : Int) = -1) ∧ (((y : Nat) : Int) = -1 ∨ (co f C 1 k : Int) = y)) by omega), if_neg (fun h => q2 h.2.2)]
  · rw [if_neg q]
    refine (sg_0 fun k hk => ?_).symm
    obtain ⟨_, ⟨_, c1⟩, _⟩ := co_s M h7 hk
    have dr := dsc_r M (show co f C 1 k < 9 by omega)
    refine if_neg fun h => q ?_
    have h1 : co f C 1 k < 8 := of_decide_eq_true h.1
    have h2 : (dsc f (co f C 1 k)).toNat = d := h.2.1
    rw [h.2.2] at h1 h2 dr
    exact ⟨h1, by omega⟩
theorem Wwy_sum (f : Nat → Int) (R C g d : Nat) (b : Bool) : sg (fun y => Wwy f R C g d y b) 9 = sg (fun y => if dsc f y = (d : Int) then SO f R C g (-1) ((y : Nat) : Int) b else 0) 8 := by
  have e : sg (fun y => Wwy f R C g d y b) 9 = sg (fun y => Wwy f R C g d y b) 8 + Wwy f R C g d 8 b := rfl
  have z : Wwy f R C g d 8 b = 0 := if_neg (by omega)
  rw [e, z, Int.add_zero]
  refine sg_eq fun y hy => ?_
  unfold Wwy
  by_cases q : dsc f y = (d : Int)
  · rw [if_pos q, if_pos ⟨hy, q⟩]
  · rw [if_neg q, if_neg (fun h => q h.2)]
theorem Awy_W (f : Nat → Int) (R C g d y : Nat) : Awy f R C g d y = Wwy f R C g d y (decide (sg (fun y => Wwy f R C g d y false) 9 = 0)) := by
  rw [Wwy_sum]
  rfl
theorem PA_wy {f : Nat → Int} {R C g : Nat} (M : MP f R C) (h7 : f 2 = 7) (hg : g < 3) : PA (Pwy f R C g) (Awy f R C g) ∧ sg (fun x => sg (fun y => Awy f R C g x y) 9) 8 ≤ 864 ∧ ∀ x y, x < 8 → y < 9 → ¬ (x < 4 ∧ y < 8) → Awy f R C g x y = 0 := by
  obtain ⟨p1, p2, p3, p4⟩ := PA_co M h7 hg
  obtain ⟨t1, t2⟩ := TB_0 (md := f 3) M.2.2.1 p1 (fun _ => p2)
  obtain ⟨v1, v2, v3⟩ := GV_r M h7 hg
  have z0 : ∀ x y, x < 8 → y < 9 → ¬ (x < 4 ∧ y < 8) → Awy f R C g x y = 0 := fun x y hx hy hn => if_neg fun h => by
    have := (dsc_r M hy).2.2 h.1
    omega
  have W0 : ∀ d y b, 0 ≤ Wwy f R C g d y b := fun d y b => by
    unfold Wwy
    split
    · exact (SO_r M h7 hg (-1) y b).1
    · exact Int.le_refl 0
  have A0 : ∀ d y, 0 ≤ Awy f R C g d y := fun d y => by
    rw [Awy_W]
    exact W0 d y _
  have key : sg (fun d => sg (fun y => Awy f R C g d y) 9) 8 ≤ 864 := by
    rw [sg_swap (fun d y => Awy f R C g d y) 9 8]
    have B := SO_B M h7 hg (fun _ y => decide (sg (fun y' => if dsc f y' = (((dsc f y).toNat : Nat) : Int) then SO f R C g (-1) ((y' : Nat) : Int) false else 0) 8 = 0)) 9 8
    rw [← sg_swap (fun y x => SO f R C g ((x : Nat) : Int) ((y : Nat) : Int) (decide (sg (fun y' => if dsc f y' = (((dsc f y).toNat : Nat) : Int) then SO f R C g (-1) ((y' : Nat) : Int) false else 0) 8 = 0))) 9 8] at B
    have e8 : sg (fun c => sg (fun r => Awy f R C g r c) 8) 9 = sg (fun c => sg (fun r => Awy f R C g r c) 8) 8 := sg_cut0 (by omega) fun k h1 h2 => sg_0 fun d hd => z0 d k hd h2 (by omega)
    rw [e8]
    refine Int.le_trans (sg_le fun y hy => ?_) B
    have dr := dsc_r M (show y < 9 by omega)
    show sg (fun r => Awy f R C g r y) 8 ≤ sg (fun x => SO f R C g ((x : Nat) : Int) ((y : Nat) : Int) (decide (sg (fun y' => if dsc f y' = (((dsc f y).toNat : Nat) : Int) then SO f R C g (-1) ((y' : Nat) : Int) false else 0) 8 = 0))) 9
    have hL : sg (fun r => Awy f R C g r y) 8 = Awy f R C g (dsc f y).toNat y := sg_single (by omega) fun d hd hn => if_neg fun h => hn (by
      have := h.2
      omega)
    have hA : Awy f R C g (dsc f y).toNat y = SO f R C g (-1) y (decide (sg (fun y' => if dsc f y' = (((dsc f y).toNat : Nat) : Int) then SO f R C g (-1) ((y' : Nat) : Int) false else 0) 8 = 0)) := if_pos ⟨hy, by omega⟩
    have hR := SO_col (g := g) M h7 (y : Int) (decide (sg (fun y' => if dsc f y' = (((dsc f y).toNat : Nat) : Int) then SO f R C g (-1) ((y' : Nat) : Int) false else 0) 8 = 0))
    rw [hL, hA, hR]
    exact Int.le_refl _
  refine ⟨⟨fun x hx => ?_, fun x y hx hy => ⟨A0 x y, ?_⟩, by omega⟩, key, z0⟩
  · unfold Pwy
    split
    · have nn := sg_nn (f := fun z => GC_ f R C g z x) (n := 8) fun z hz => (t1 z x hz (by omega)).1
      have le := sg_le (f := fun z => GC_ f R C g z x) (g := LV f R C g) (n := 8) fun z hz => (t1 z x hz (by omega)).2
      omega
    · omega
  · have a := sg_at (f := fun y => Awy f R C g x y) (n := 9) (fun k _ => A0 x k) y hy
    have b := sg_at (f := fun x => sg (fun y => Awy f R C g x y) 9) (n := 8) (fun k _ => sg_nn fun y _ => A0 k y) x hx
    omega
theorem sl_26 {f : Nat → Int} {R C g a : Nat} (M : MP f R C) (h7 : f 2 = 7) (hg : g < 3) (h71 : 71 ≤ a) (ht : fx_oc (a + 30) 7 = true) : ∀ (r k n : Nat) (s : gx_S), k + r = R * C → r < n → MR s 1 f R C → s.1 a 9 = g → ∃ u : gx_S, gm_26_17 n a ((R * C : Nat) : Int) k s = gm_26_76 100000 a 0 u ∧ AC (a + 30) s u (fun x y => sg (fun i => pz (fun k => decide (co f C 1 k < 8)) (fun k => (dsc f (co f C 1 k)).toNat) (co f C 1) (wt f C g) x y (k + i)) r) (fun x y => sg (fun i => pz (fun k => decide (co f C 1 k < 8)) (fun k => (dsc f (co f C 1 k)).toNat) (co f C 1) (fun _ => 1) x y (k + i)) r) := by
  have hRC := RC_96 M.1.2.2.1 M.1.2.2.2
  intro r
  induction r with
  | zero =>
    intro k n s hk hn m e9
    obtain ⟨n, rfl⟩ : ∃ n', n = n' + 1 := ⟨n - 1, by omega⟩
    refine ⟨s, ?_, AC_0 _ _ (fun x y i => pz (fun k => decide (co f C 1 k < 8)) (fun k => (dsc f (co f C 1 k)).toNat) (co f C 1) (wt f C g) x y (k + i)) (fun x y i => pz (fun k => decide (co f C 1 k < 8)) (fun k => (dsc f (co f C 1 k)).toNat) (co f C 1) (fun _ => 1) x y (k + i))⟩
    rw [gm_26_17, if_pos (by omega), if_pos (by omega), if_pos (by omega)]
  | succ r ih =>
    intro k n s hk hn m e9
    obtain ⟨n, rfl⟩ : ∃ n', n = n' + 1 := ⟨n - 1, by omega⟩
    have hkl : k < R * C := by omega
    have ce : ((k : Int) + 1) = ((k + 1 : Nat) : Int) := rfl
    obtain ⟨⟨_, c0⟩, ⟨_, c1⟩, ⟨_, c2⟩⟩ := co_s M h7 hkl
    obtain ⟨g0, g1, g2⟩ := sp_60g m M h7 hkl
    have g3 := sp_61g m M h7 hg hkl
    have dr := dsc_r M (show co f C 1 k < 9 by omega)
    rw [gm_26_17, if_pos (by omega), if_pos (by omega), if_neg (by omega), g1, Option.bind_some, if_pos (by omega)]
    by_cases q : co f C 1 k < 8
    · have e5 := m.2.2.2.2.2.2.2.1 (co f C 1 k) q
      rw [show (1 : Nat) + 4 = 5 from rfl] at e5
      have c69 := sp_69 (t := a + 30) (x := (dsc f (co f C 1 k)).toNat) (y := co f C 1 k) (v := wt f C g k) (w := 1) s ht (by omega) (by omega)
      rw [show (((dsc f (co f C 1 k)).toNat : Nat) : Int) = dsc f (co f C 1 k) by omega, (dr.2.2 q).2] at c69
      rw [if_neg (by omega), if_pos (by omega)]
      show ∃ u : gx_S, ((gm_61 1 (s.1 a 9) k s).bind fun q12 => ((gm_69 (a + 30) (s.1 5 (co f C 1 k : Int).toNat) (co f C 1 k : Int) q12.1 1 q12.2).bind fun q14 => gm_26_68 (gm_26_17 n) a ((R * C : Nat) : Int) k q14)) = gm_26_76 100000 a 0 u ∧ _
      rw [e9, g3, Option.bind_some, show ((co f C 1 k : Int)).toNat = co f C 1 k by omega, e5, c69, Option.bind_some]
      unfold gm_26_68
      rw [ce, ← (dr.2.2 q).2]
      obtain ⟨u, u1, u2⟩ := ih (k + 1) n (adt s (a + 30) (dsc f (co f C 1 k)).toNat (co f C 1 k) (wt f C g k) 1) (by omega) (by omega) (MR_adt (by omega) m) ((adt_o _ _ _ _ _ _ _ _ (by omega) (by omega)).trans e9)
      exact ⟨u, u1, AC_add (K := fun k => decide (co f C 1 k < 8)) (X := fun k => (dsc f (co f C 1 k)).toNat) (Y := co f C 1) (w := wt f C g) (decide_eq_true q) (show (dsc f (co f C 1 k)).toNat < 8 by omega) (by omega) u2⟩
    · rw [if_pos (by omega)]
      unfold gm_26_68
      rw [ce]
      obtain ⟨u, u1, u2⟩ := ih (k + 1) n s (by omega) (by omega) m e9
      exact ⟨u, u1, AC_skip (K := fun k => decide (co f C 1 k < 8)) (decide_eq_false q) u2⟩
theorem sl_26_76 {a : Nat} (t21 : fx_oc (a + 21) 7 = true) : ∀ (n j : Nat) (s : gx_S), 4 < n + j → j ≤ 4 → ∃ u : gx_S, gm_26_76 n a j s = some u ∧ u.2 = s.2 ∧ (∀ k i, k ≠ a + 30 + 1 → u.1 k i = s.1 k i) ∧ ∀ i, u.1 (a + 30 + 1) i = if j ≤ i ∧ i < 4 then sg (fun x => s.1 (a + 21 + 8) (9 * x + i)) 8 else s.1 (a + 30 + 1) i := by
  intro n
  induction n with
  | zero => intro j s h; omega
  | succ n ih =>
    intro j s h hj
    rw [gm_26_76, if_pos (by omega)]
    by_cases q : j = 4
    · rw [if_pos (by omega)]
      exact ⟨s, rfl, rfl, fun _ _ _ => rfl, fun i => by rw [if_neg (by omega)]⟩
    · have ce : ((j : Int) + 1) = ((j + 1 : Nat) : Int) := rfl
      have i5 : ((j : Int)).toNat = j := by omega
      rw [if_neg (by omega), sp_76 t21 (by omega), Option.bind_some, if_pos (by omega), i5, ce]
      obtain ⟨u, u1, u2, u3, u4⟩ := ih (j + 1) (gw1 s (a + 30 + 1) j (sg (fun x => s.1 (a + 21 + 8) (9 * x + j)) 8)) (by omega) (by omega)
      refine ⟨u, u1, u2, fun k i h => by rw [u3 k i h, gw1_1, if_neg (fun x => h x.1)], fun i => ?_⟩
      rw [u4]
      by_cases e : i = j
      · rw [if_neg (show ¬ (j + 1 ≤ i ∧ i < 4) by omega), gw1_1, if_pos ⟨rfl, e⟩, if_pos (show j ≤ i ∧ i < 4 by omega), e]
      · by_cases e2 : j + 1 ≤ i ∧ i < 4
        · rw [if_pos e2, if_pos (show j ≤ i ∧ i < 4 by omega)]
          exact sg_eq fun x _ => by rw [gw1_1, if_neg (by omega)]
        · rw [if_neg e2, if_neg (show ¬ (j ≤ i ∧ i < 4) by omega), gw1_1, if_neg (fun x => e x.2)]
theorem sp_26 {s : gx_S} {f : Nat → Int} {R C g a : Nat} (m : MR s 1 f R C) (M : MP f R C) (h7 : f 2 = 7) (hg : g < 3) (h71 : 71 ≤ a) (ho : fx_oc a 2 = true) (t21 : fx_oc (a + 21) 7 = true) (ht : fx_oc (a + 30) 7 = true) (e9 : s.1 a 9 = g) (hT : TR s (a + 21) (f 3) (LV f R C g) (Aco f R C g)) : ∃ u w : gx_S, gm_26 a s = some u ∧ u.1 1 7 = f 3 ∧ gm_41 (a + 30) (f 3) u = some w ∧ TR w (a + 30) (f 3) (Pwy f R C g) (Awy f R C g) ∧ w.2 = s.2 ∧ ∀ k j, ¬ (7 ≤ k ∧ k ≤ 13) → ¬ (k = 6 ∧ j = 7) → ¬ (a + 31 ≤ k ∧ k ≤ a + 38) → w.1 k j = s.1 k j := by
  obtain ⟨c, b1, b2, b3, b4, b5⟩ := sp_68 s ht
  have mc : MR c 1 f R C := MR_o (fun k j h1 h2 => b5 k j (by omega) (by omega) (by omega)) m
  have c9 : c.1 a 9 = g := (b5 _ _ (by omega) (by omega) (by omega)).trans e9
  have hRC := RC_96 M.1.2.2.1 M.1.2.2.2
  obtain ⟨d, d1, d2, d3, d4⟩ := sl_26 M h7 hg h71 ht (R * C) 0 100000 c (by omega) (by omega) mc c9
  have d1 : gm_26_17 100000 a ((R * C : Nat) : Int) 0 c = _ := d1
  obtain ⟨u, u1, u2, u3, u4⟩ := sl_26_76 t21 100000 0 d (by omega) (by omega)
  have u1 : gm_26_76 100000 a 0 d = some u := u1
  have e45 : ∀ x y, x < 8 → y < 9 → u.1 (a + 30 + 4) (9 * x + y) = Wwy f R C g x y false ∧ u.1 (a + 30 + 5) (9 * x + y) = Wwy f R C g x y true := fun x y hx hy => by
    obtain ⟨q1, q2⟩ := d4 x y hx hy
    have z := b4 (9 * x + y) (by omega)
    rw [z.1] at q1
    rw [z.2] at q2
    rw [u3 _ _ (by omega), u3 _ _ (by omega), q1, q2, Wwy_pz M h7 false, Wwy_pz M h7 true]
    constructor
    · rw [Int.zero_add]
      exact sg_eq fun k _ => by rw [Nat.zero_add]; rfl
    · rw [Int.zero_add]
      exact sg_eq fun k _ => by rw [Nat.zero_add]; rfl
  obtain ⟨pa, p8, p0⟩ := PA_wy M h7 hg
  have Wb : ∀ x y b, 0 ≤ Wwy f R C g x y b ∧ Wwy f R C g x y b ≤ 864 := fun x y b => by
    unfold Wwy
    split
    · exact SO_r M h7 hg (-1) y b
    · omega
  have hb : ∀ i, i < 72 → (0 ≤ u.1 (a + 30 + 4) i ∧ u.1 (a + 30 + 4) i ≤ 1000000) ∧ (0 ≤ u.1 (a + 30 + 5) i ∧ u.1 (a + 30 + 5) i ≤ 1000000) := fun i hi => by
    have e : 9 * (i / 9) + i % 9 = i := by omega
    have q := e45 (i / 9) (i % 9) (by omega) (by omega)
    rw [e] at q
    rw [q.1, q.2]
    have r1 := Wb (i / 9) (i % 9) false
    have r2 := Wb (i / 9) (i % 9) true
    omega
  have hp : ∀ x, x < 8 → u.1 (a + 30 + 1) x = Pwy f R C g x := fun x hx => by
    unfold Pwy
    rw [u4]
    by_cases q : x < 4
    · rw [if_pos ⟨by omega, q⟩, if_pos q]
      refine sg_eq fun z hz => ?_
      rw [d3 _ _ (by omega) (by omega), b5 _ _ (by omega) (by omega) (by omega)]
      exact ((hT z hz).2.2 x (by omega)).2.2.2
    · rw [if_neg (fun h => q h.2), if_neg q, d3 _ _ (by omega) (by omega), b3 x hx]
  obtain ⟨w, w1, w2, w3, _⟩ := TR_class (t := a + 30) ht M.2.2.1 pa (fun _ => p8) hp hb fun x y hx hy => am_SO (T := Awy f R C g) (R := R) (C := C) (f := f) (g := g) (fun x y b => Wwy f R C g x y b) (fun y hy => (e45 x y hx hy).1) (fun y hy => (e45 x y hx hy).2) hy (Awy_W f R C g x y)
  refine ⟨u, w, ?_, ?_, w1, w2, ?_, fun k j h1 h2 h3 => ?_⟩
  · unfold gm_26
    rw [if_pos ho, b1, Option.bind_some, sp_58 (MR_cz mc M), Option.bind_some, d1, u1]
  · rw [u3 1 7 (by omega), d3 1 7 (by omega) (by omega)]
    exact mc.2.2.2.1
  · rw [w3.1, u2, d2]
    exact b2
  · rw [w3.2 k j h1 h2 (by omega) (by omega), u3 k j (by omega), d3 k j (by omega) (by omega), b5 k j (by omega) (by omega) (by omega)]
theorem rd_16 {s : gx_S} {f : Nat → Int} {R C g a D : Nat} (m : MR s 1 f R C) (M : MP f R C) (h7 : f 2 = 7) (hg : g < 3) (ha : ga a) (G : GGD s f R C g a D) (l1 : D / 1 % 2 = 1) (l8 : D / 8 % 2 = 1) : ∃ (D' : Nat) (u : gx_S), gm_19_155 a 16 s = gm_19_201 a 16 u ∧ KG a s u ∧ GGD u f R C g a D' ∧ D' / 16 % 2 = 1 ∧ D' / 8 % 2 = 1 := by
  obtain ⟨a71, a215, ho, t3, t12, t21, t30, t39⟩ := id ha
  obtain ⟨hD, e8, e9, g1, g2, g4, g8, g16, g32⟩ := G
  obtain ⟨D', t, q1, q2, q3, q4, q5, q6, q7⟩ := sp_21 (w := 16) ho hD (by decide) e8
  have q1 : gm_21 a 16 s = some (decide (¬ D / 16 % 2 = 1), t) := q1
  have n1 := q7 1 (by decide) (by decide)
  have n2 := q7 2 (by decide) (by decide)
  have n4 := q7 4 (by decide) (by decide)
  have n8 := q7 8 (by decide) (by decide)
  have n32 := q7 32 (by decide) (by decide)
  have to : ∀ k j, ¬ (k = a ∧ j = 8) → t.1 k j = s.1 k j := q3
  obtain ⟨li1, li2, li3⟩ := g1 l1
  unfold gm_19_155
  rw [if_pos (by decide), if_neg (by decide), q1, Option.bind_some]
  by_cases z : D / 16 % 2 = 1
  · rw [decide_eq_false (fun h => h z), if_pos (show gb (false, t).1 = 0 from (by decide : gb false = 0))]
    refine ⟨D', t, rfl, ⟨q2, fun k j h1 h2 => to k j (by omega)⟩, ⟨q5, q4, (to a 9 (by omega)).trans e9, fun _ => ⟨fun z hz => (to _ _ (by omega)).trans (li1 z hz), (to _ _ (by omega)).trans li2, (to _ _ (by omega)).trans li3⟩, fun h => ?_, fun h => ?_, fun h => ?_, fun h => ?_, fun h => ?_⟩, q6, n8.trans l8⟩
    · exact ⟨n1.trans l1, TM_o (fun k j h1 h2 => to k j (by omega)) (g2 (n2 ▸ h)).2⟩
    · exact TR_o (fun k j h1 h2 => to k j (by omega)) (g4 (n4 ▸ h))
    · exact ⟨n1.trans l1, TR_o (fun k j h1 h2 => to k j (by omega)) (g8 l8).2⟩
    · exact TR_o (fun k j h1 h2 => to k j (by omega)) (g16 z)
    · obtain ⟨x1, x2⟩ := g32 (n32 ▸ h)
      exact ⟨n2.trans x1, fun k hk => by rw [to _ _ (by omega)]; exact x2 k hk⟩
  · rw [decide_eq_true z, if_neg (show ¬ gb (true, t).1 = 0 from (by decide : ¬ gb true = 0))]
    have mt : MR t 1 f R C := MR_o (fun k j h1 h2 => to k j (by omega)) m
    obtain ⟨u, w, u1, u2, u3, u4, u5, u6⟩ := sp_26 mt M h7 hg a71 ho t21 t30 ((to a 9 (by omega)).trans e9) (TR_o (fun k j h1 h2 => to k j (by omega)) (g8 l8).2)
    have wo : ∀ k j, a ≤ k → ¬ (k = a ∧ j = 8) → ¬ (a + 31 ≤ k ∧ k ≤ a + 38) → w.1 k j = s.1 k j := fun k j h1 h2 h3 => (u6 k j (by omega) (by omega) h3).trans (to k j h2)
    have w8 : w.1 a 8 = D' := (u6 a 8 (by omega) (by omega) (by omega)).trans q4
    have m3 := M.2.2.1
    have st : ((gm_26 a (true, t).2).bind fun q7 => if (-2147483648 ≤ (q7.1 1 7) ∧ (q7.1 1 7) ≤ 2147483647) then (if ¬ (q7.1 1 7) = 1 then gm_19_198 a 16 (a + 30) 0 q7 else gm_19_198 a 16 (a + 30) 1 q7) else none) = gm_19_201 a 16 w := by
      show ((gm_26 a t).bind _) = _
      rw [u1, Option.bind_some, u2, if_pos (by omega)]
      unfold gm_19_198
      rcases m3 with e | e
      · rw [e] at u3
        rw [if_pos (by rw [e]; decide), u3, Option.bind_some]
      · rw [e] at u3
        rw [if_neg (by rw [e]; decide), u3, Option.bind_some]
    rw [st]
    refine ⟨D', w, rfl, ⟨u5.trans q2, fun k j h1 h2 => (u6 k j (by omega) (by omega) (by omega)).trans (to k j (by omega))⟩, ⟨q5, w8, (wo a 9 (by omega) (by omega) (by omega)).trans e9, fun _ => ⟨fun z hz => (wo _ _ (by omega) (by omega) (by omega)).trans (li1 z hz), (wo _ _ (by omega) (by omega) (by omega)).trans li2, (wo _ _ (by omega) (by omega) (by omega)).trans li3⟩, fun h => ?_, fun h => ?_, fun _ => ⟨n1.trans l1, TR_o (fun k j h1 h2 => wo k j (by omega) (by omega) (by omega)) (g8 l8).2⟩, fun _ => u4, fun h => ?_⟩, q6, n8.trans l8⟩
    · exact ⟨n1.trans l1, TM_o (fun k j h1 h2 => wo k j (by omega) (by omega) (by omega)) (g2 (n2 ▸ h)).2⟩
    · exact TR_o (fun k j h1 h2 => wo k j (by omega) (by omega) (by omega)) (g4 (n4 ▸ h))
    · obtain ⟨x1, x2⟩ := g32 (n32 ▸ h)
      exact ⟨n2.trans x1, fun k hk => by rw [wo _ _ (by omega) (by omega) (by omega)]; exact x2 k hk⟩
end
