/-! THE REFERENCE: laysLiving -/
theorem sp_158 {s : gx_S} {R C : Nat} (M : MP (s.1 216) R C) (h : s.1 216 2 / 2 ^ 0 % 2 = 1) (z : Int) (hz : -2147483648 ≤ z ∧ z ≤ 2147483647) : gm_158 z s = some (NC (s.1 216) R C 0 z, s) := by
  have e := sl_158 (MP_mz M) z hz (fun k hk => by
    have := M.2.2.2.2.2.2.2.1 0 (by omega) h k hk
    have e : cdx s C 0 k = s.1 216 (52 + 96 * 0 + 12 * (k / C) + k % C) := rfl
    rw [e]
    rw [if_neg (by omega)] at this
    omega) 100000 0 (by omega) (by
    have := RC_96 M.1.2.2.1 M.1.2.2.2
    omega)
  have e2 : NC (s.1 216) R C 0 z = sg (fun k => bi (cdx s C 0 k = z)) (R * C) := if_pos h
  rw [e2]
  exact e
theorem sl_177_21 {f : Nat → Int} {R C g : Nat} (M : MP f R C) (hg : g < 3) : ∀ (n j : Nat) (t : gx_S), 8 < n + j → j ≤ 8 → t.1 216 = f → ∃ (n' : Nat) (u : gx_S), gm_177_21 n g j t = gm_177_21 (n' + 1) g 8 u ∧ u.2 = t.2 ∧ (∀ k i, k ≠ 222 → k ≠ 236 → u.1 k i = t.1 k i) ∧ (∀ z, j ≤ z → z < 8 → u.1 236 z = L0 f R C g z ∧ u.1 222 z = L0 f R C g z) ∧ ∀ i, ¬ (j ≤ i ∧ i < 8) → u.1 222 i = t.1 222 i ∧ u.1 236 i = t.1 236 i := by
  intro n
  induction n with
  | zero => intro j t h; omega
  | succ n ih =>
    intro j t h hj ef
    by_cases q : j = 8
    · rw [q]
      exact ⟨n, t, rfl, rfl, fun _ _ _ _ => rfl, fun z h1 h2 => by omega, fun i _ => ⟨rfl, rfl⟩⟩
    · have ce : ((j : Int) + 1) = ((j + 1 : Nat) : Int) := rfl
      have i5 : ((j : Int)).toNat = j := by omega
      have c53 := sp_153g (s := t) (R := R) (C := C) (by rw [ef]; exact M) 0 j (by omega) (by omega)
      have c53 : gm_153 0 j t = _ := c53
      rw [ef] at c53
      have st : ∀ v : Int, gm_177_51 (gm_177_21 n) g j j v t = gm_177_21 n g ((j + 1 : Nat) : Int) (gw1 (gw1 t 236 j v) 222 j v) := fun v => by
        unfold gm_177_51
        rw [if_pos (by omega), if_pos (by omega), if_pos (by omega), i5, ce, gw1_1 t 236 j v 236 j, if_pos ⟨rfl, rfl⟩]
      have one : gm_177_21 (n + 1) g j t = gm_177_21 n g ((j + 1 : Nat) : Int) (gw1 (gw1 t 236 j (L0 f R C g j)) 222 j (L0 f R C g j)) := by
        rw [gm_177_21, if_pos (by omega), if_neg (by omega), c53, Option.bind_some]
        by_cases z : 0 < NC f R C 0 j
        · rw [decide_eq_true z, if_neg (show ¬ gb (true, t).1 = 0 from (by decide : ¬ gb true = 0))]
          show ((gm_155 g j t).bind _) = _
          rw [sp_155 g j hg (by omega), Option.bind_some, ef]
          show gm_177_51 (gm_177_21 n) g j j (f (5 + 9 * g + j)) t = _
          rw [st, show L0 f R C g j = f (5 + 9 * g + j) from if_pos z]
        · rw [decide_eq_false z, if_pos (show gb (false, t).1 = 0 from (by decide : gb false = 0))]
          show gm_177_51 (gm_177_21 n) g j j 0 t = _
          rw [st, show L0 f R C g j = 0 from if_neg z]
      obtain ⟨n', u, u1, u2, u3, u4, u5⟩ := ih (j + 1) (gw1 (gw1 t 236 j (L0 f R C g j)) 222 j (L0 f R C g j)) (by omega) (by omega) (by
        funext i
        rw [gw1_1, if_neg (by omega), gw1_1, if_neg (by omega), ef])
      refine ⟨n', u, one.trans u1, u2, fun k i h1 h2 => ?_, fun z h1 h2 => ?_, fun i h => ?_⟩
      · rw [u3 k i h1 h2, gw1_1, if_neg (fun x => h1 x.1), gw1_1, if_neg (fun x => h2 x.1)]
      · by_cases e : z = j
        · obtain ⟨v1, v2⟩ := u5 z (by omega)
          rw [v1, v2, e]
          exact ⟨by rw [gw1_1, if_neg (by omega), gw1_1, if_pos ⟨rfl, rfl⟩], by rw [gw1_1, if_pos ⟨rfl, rfl⟩]⟩
        · exact u4 z (by omega) h2
      · obtain ⟨v1, v2⟩ := u5 i (by omega)
        rw [v1, v2]
        exact ⟨by rw [gw1_1, if_neg (by omega), gw1_1, if_neg (by omega)], by rw [gw1_1, if_neg (by omega), gw1_1, if_neg (by omega)]⟩
theorem sl_177_88 {f : Nat → Int} {R C : Nat} (M : MP f R C) (hb : f 2 / 2 ^ 0 % 2 = 1) : ∀ (n j : Nat) (t : gx_S), 8 < n + j → j ≤ 8 → t.1 216 = f → ∃ u : gx_S, gm_177_88 n j t = ((gm_161 0 u).bind fun q => gm_177_117 q.2) ∧ u.2 = t.2 ∧ (∀ k i, k ≠ 222 → u.1 k i = t.1 k i) ∧ (∀ z, j ≤ z → z < 8 → u.1 222 z = NC f R C 0 z) ∧ ∀ i, ¬ (j ≤ i ∧ i < 8) → u.1 222 i = t.1 222 i := by
  intro n
  induction n with
  | zero => intro j t h; omega
  | succ n ih =>
    intro j t h hj ef
    rw [gm_177_88, if_pos (by omega)]
    by_cases q : j = 8
    · rw [if_pos (by omega)]
      exact ⟨t, rfl, rfl, fun _ _ _ => rfl, fun z h1 h2 => by omega, fun i _ => rfl⟩
    · have ce : ((j : Int) + 1) = ((j + 1 : Nat) : Int) := rfl
      have i5 : ((j : Int)).toNat = j := by omega
      have c58 := sp_158 (s := t) (R := R) (C := C) (by rw [ef]; exact M) (by rw [ef]; exact hb) j (by omega)
      rw [ef] at c58
      rw [if_neg (by omega), c58, Option.bind_some, if_pos (by omega), i5, ce]
      obtain ⟨u, u1, u2, u3, u4, u5⟩ := ih (j + 1) (gw1 t 222 j (NC f R C 0 j)) (by omega) (by omega) (by
        funext i
        rw [gw1_1, if_neg (by omega), ef])
      refine ⟨u, u1, u2, fun k i h1 => ?_, fun z h1 h2 => ?_, fun i h => ?_⟩
      · rw [u3 k i h1, gw1_1, if_neg (fun x => h1 x.1)]
      · by_cases e : z = j
        · rw [u5 z (by omega), e, gw1_1, if_pos ⟨rfl, rfl⟩]
        · exact u4 z (by omega) h2
      · rw [u5 i (by omega), gw1_1, if_neg (by omega)]
theorem sl_177_124 : ∀ (n j : Nat) (t : gx_S), 8 < n + j → j ≤ 8 → ∃ u : gx_S, gm_177_124 n j t = some u ∧ u.2 = t.2 ∧ (∀ k i, k ≠ 236 → u.1 k i = t.1 k i) ∧ ∀ i, u.1 236 i = t.1 236 i + if j ≤ i ∧ i < 8 then t.2 224 i else 0 := by
  intro n
  induction n with
  | zero => intro j t h; omega
  | succ n ih =>
    intro j t h hj
    rw [gm_177_124, if_pos (by omega)]
    by_cases q : j = 8
    · rw [if_pos (by omega)]
      exact ⟨t, rfl, rfl, fun _ _ _ => rfl, fun i => by rw [if_neg (by omega)]; omega⟩
    · have ce : ((j : Int) + 1) = ((j + 1 : Nat) : Int) := rfl
      have i5 : ((j : Int)).toNat = j := by omega
      rw [if_neg (by omega), if_pos (by omega), if_pos (by omega), i5, ce]
      obtain ⟨u, u1, u2, u3, u4⟩ := ih (j + 1) (gw1 t 236 j (t.1 236 j + t.2 224 j)) (by omega) (by omega)
      refine ⟨u, u1, u2, fun k i h1 => ?_, fun i => ?_⟩
      · rw [u3 k i h1, gw1_1, if_neg (fun x => h1 x.1)]
      · rw [u4, gw1_1, gw1_2]
        by_cases e : i = j
        · rw [if_pos ⟨rfl, e⟩, if_neg (by omega), if_pos (by omega), e]
          omega
        · rw [if_neg (fun x => e x.2)]
          by_cases e2 : j + 1 ≤ i ∧ i < 8
          · rw [if_pos e2, if_pos (by omega)]
          · rw [if_neg e2, if_neg (by omega)]
/-- the row of the unknown, laid and given -/
theorem sl_177_117 {f : Nat → Int} {R C g : Nat} (M : MP f R C) (hg : g < 3) {t : gx_S} (h17 : t.1 215 17 = 1) (h18 : t.1 215 18 = 8) (hp : t.2 221 0 = Psh f R C g 0) (ha : ∀ y, y < 8 → t.1 222 y = Ash f R C g 0 y) (hw : t.1 223 0 = sg (fun y => t.1 222 y) 8) (hl : ∀ z, z < 8 → t.1 236 z = L0 f R C g z) : ∃ u : gx_S, gm_177_117 t = some u ∧ (∀ z, z < 8 → u.1 236 z = LV f R C g z) ∧ (∀ k i, k ≠ 236 → u.1 k i = t.1 k i) ∧ (∀ k i, k ≠ 224 → k ≠ 225 → u.2 k i = t.2 k i) ∧ ∀ i, 0 ≤ t.2 225 i ∧ t.2 225 i ≤ 1000000000 → 0 ≤ u.2 225 i ∧ u.2 225 i ≤ 1000000000 := by
  obtain ⟨p1, p2⟩ := PA_sh M hg
  obtain ⟨w, w1, w2, w3, w4, w5⟩ := TB_163 (r := t) p1 h17 h18 hp ha hw p2
  obtain ⟨u, u1, u2, u3, u4⟩ := sl_177_124 100000 0 w (by omega) (by omega)
  have u1 : gm_177_124 100000 0 w = _ := u1
  refine ⟨u, ?_, fun z hz => ?_, fun k i h => ?_, fun k i h1 h2 => ?_, fun i h => ?_⟩
  · unfold gm_177_117
    rw [w1, Option.bind_some, u1]
  · rw [u4, if_pos (by omega), w3, hl z hz, w2 z hz]
    rfl
  · rw [u3 k i h, w3]
  · rw [u2, w4 k i h1 h2]
  · rw [u2]
    exact w5 i h
theorem sp_177 {s : gx_S} {R C g : Nat} (M : MP (s.1 216) R C) (hg : g < 3) : ∃ u : gx_S, gm_177 g s = some u ∧ (∀ z, z < 8 → u.1 236 z = LV (s.1 216) R C g z) ∧ KR s u := by
  obtain ⟨a, a1, a2, a3, a4, a5, a6, a7⟩ := KR_159 s 1 8
  have ea : a.1 216 = s.1 216 := KR_216 a2
  have cu := sp_174 (s := a) (R := R) (C := C) (by rw [ea]; exact M) hg
  rw [ea] at cu
  obtain ⟨un0, un1⟩ := UN_r M hg
  obtain ⟨n', b, b1, b2, b3, b4, b5⟩ := sl_177_21 M hg 100000 0 (gw2 a 221 0 (UN (s.1 216) R C g)) (by omega) (by omega) ea
  have b1 : gm_177_21 100000 g 0 (gw2 a 221 0 (UN (s.1 216) R C g)) = gm_177_21 (n' + 1) g 8 b := b1
  have bk : ∀ k i, k ≠ 222 → k ≠ 236 → b.1 k i = a.1 k i := fun k i h1 h2 => b3 k i h1 h2
  have b2' : ∀ k i, ¬ (k = 221 ∧ i = 0) → b.2 k i = a.2 k i := fun k i h => by rw [b2, gw2_2, if_neg h]
  have eb : b.1 216 = s.1 216 := by
    funext i
    rw [bk 216 i (by decide) (by decide), ea]
  obtain ⟨v, v1, v2⟩ := sp_175 (s := b) (R := R) (C := C) (by rw [eb]; exact M)
  rw [eb] at v2
  have hd : gm_177 g s = gm_177_21 (n' + 1) g 8 b := by
    unfold gm_177
    rw [a1, Option.bind_some, cu, Option.bind_some, if_pos (by omega)]
    exact b1
  have KRb : KR a b := ⟨fun k j q => bk k j (by omega) (by omega), fun k j q => b2' k j (by omega), fun S => ⟨fun j hj => by rw [b2' 225 j (by omega), bk 232 j (by decide) (by decide), bk 233 j (by decide) (by decide), bk 234 j (by decide) (by decide)]; exact S.1 j hj, fun c hc => by rw [b2' 229 c (by omega), b2' 230 c (by omega), b2' 227 c (by omega), b2' 228 c (by omega), bk 235 c (by decide) (by decide)]; exact S.2.1 c hc, fun k hk => by rw [b2' 231 k (by omega)]; exact S.2.2 k hk⟩⟩
  have hst : gm_177_21 (n' + 1) g 8 b = if v = true then ((gm_161 0 b).bind fun q7 => if (-2147483648 ≤ q7.1 ∧ q7.1 ≤ 2147483647) then (if ¬ q7.1 = 0 then gm_177_117 q7.2 else gm_177_88 100000 0 q7.2) else none) else some b := by
    rw [gm_177_21, if_pos (by decide), if_pos (by decide), v1, Option.bind_some]
    cases v with
    | true => rw [if_pos rfl, if_pos (show ¬ gb (true, b).1 = 0 from (by decide : ¬ gb true = 0))]
    | false => rw [if_neg Bool.false_ne_true, if_neg (show ¬ ¬ gb (false, b).1 = 0 from (by decide : ¬ ¬ gb false = 0))]
  rw [hd, hst]
  obtain ⟨p1, p2⟩ := PA_sh M hg
  obtain ⟨l1, l2⟩ := L0_r M hg
  have msum := (M.2.2.2.2.1 g hg).2
  cases v with
  | false =>
    have ns : ¬ SHr (s.1 216) R C := fun h => Bool.false_ne_true (v2.mpr h)
    refine ⟨b, if_neg Bool.false_ne_true, fun z hz => ?_, KR_tr a2 KRb⟩
    rw [(b4 z (by omega) hz).1]
    unfold LV
    have t0 := (TB_0 (.inl rfl) p1 (fun h => absurd h (by decide))).1 0 z (by omega) (by omega)
    have q0 : Psh (s.1 216) R C g 0 = 0 := by
      show (if 0 = 0 then UN (s.1 216) R C g - ASf (s.1 216) R C g else 0) = 0
      rw [if_pos rfl, show ASf (s.1 216) R C g = UN (s.1 216) R C g from if_neg ns]
      omega
    rw [q0] at t0
    omega
  | true =>
    have sh := v2.mp rfl
    have told : s.1 216 2 / 2 ^ 0 % 2 = 1 := by
      refine Classical.byContradiction fun h => ?_
      have : KD (s.1 216) R C 0 8 = 0 := sg_0 fun z hz => by
        have e : NC (s.1 216) R C 0 z = 0 := if_neg h
        rw [e]
        rfl
      have := sh.2
      omega
    have P0 : Psh (s.1 216) R C g 0 = UN (s.1 216) R C g := by
      show (if 0 = 0 then UN (s.1 216) R C g - ASf (s.1 216) R C g else 0) = _
      rw [if_pos rfl, show ASf (s.1 216) R C g = 0 from if_pos sh]
      omega
    have i0 : ∀ y, 9 * 0 + y = y := fun y => by omega
    have b17 : b.1 215 17 = 1 := (bk 215 17 (by decide) (by decide)).trans a3
    have b18 : b.1 215 18 = 8 := (bk 215 18 (by decide) (by decide)).trans a4
    have b21 : b.2 221 0 = UN (s.1 216) R C g := by rw [b2, gw2_2, if_pos ⟨rfl, rfl⟩]
    have e61 : ∀ t : gx_S, t.1 215 18 = 8 → gm_161 0 t = some (sg (fun y => t.1 222 y) 8, gw1 t 223 0 (sg (fun y => t.1 222 y) 8)) := fun t h => by
      have e := sp_161 (s := t) (r := 0) (m := 8) (by omega) (by omega) h
      simp only [i0] at e
      exact e
    rw [if_pos rfl, e61 b b18, Option.bind_some]
    have sb : sg (fun y => b.1 222 y) 8 = sg (L0 (s.1 216) R C g) 8 := sg_eq fun y hy => (b4 y (by omega) hy).2
    have nn := sg_nn l1
    rw [sb]
    obtain ⟨U0, U1⟩ := UN_r M hg
    have fin : ∀ t u : gx_S, KR s t → gm_177_117 t = some u → (∀ k i, k ≠ 236 → u.1 k i = t.1 k i) → (∀ k i, k ≠ 224 → k ≠ 225 → u.2 k i = t.2 k i) → (∀ i, 0 ≤ t.2 225 i ∧ t.2 225 i ≤ 1000000000 → 0 ≤ u.2 225 i ∧ u.2 225 i ≤ 1000000000) → KR s u := fun t u K _ u2 u3 u4 => KR_tr K ⟨fun k j q => u2 k j (by omega), fun k j q => u3 k j (by omega) (by omega), fun S => ⟨fun j hj => by
      have := S.1 j hj
      rw [u2 232 j (by decide), u2 233 j (by decide), u2 234 j (by decide)]
      exact ⟨this.1, this.2.1, this.2.2.1, u4 j this.2.2.2⟩, fun c hc => by rw [u3 229 c (by decide) (by decide), u3 230 c (by decide) (by decide), u3 227 c (by decide) (by decide), u3 228 c (by decide) (by decide), u2 235 c (by decide)]; exact S.2.1 c hc, fun k hk => by rw [u3 231 k (by decide) (by decide)]; exact S.2.2 k hk⟩⟩
    have KRw : ∀ (t : gx_S) (v : Int), KR t (gw1 t 223 0 v) := fun t v => by
      have o : ∀ k j, k ≠ 223 → (gw1 t 223 0 v).1 k j = t.1 k j := fun k j h => by rw [gw1_1, if_neg (fun x => h x.1)]
      refine ⟨fun k j q => o k j (by omega), fun _ _ _ => rfl, fun S => ⟨fun j hj => ?_, fun c hc => ?_, S.2.2⟩⟩
      · rw [o 232 j (by decide), o 233 j (by decide), o 234 j (by decide)]
        exact S.1 j hj
      · rw [o 235 c (by decide)]
        exact S.2.1 c hc
    show ∃ u : gx_S, (if (-2147483648 ≤ sg (L0 (s.1 216) R C g) 8 ∧ sg (L0 (s.1 216) R C g) 8 ≤ 2147483647) then (if ¬ sg (L0 (s.1 216) R C g) 8 = 0 then gm_177_117 (gw1 b 223 0 (sg (L0 (s.1 216) R C g) 8)) else gm_177_88 100000 0 (gw1 b 223 0 (sg (L0 (s.1 216) R C g) 8))) else none) = some u ∧ _
    rw [if_pos (by omega)]
    obtain ⟨c, hc⟩ : ∃ c, c = gw1 b 223 0 (sg (L0 (s.1 216) R C g) 8) := ⟨_, rfl⟩
    rw [← hc]
    have ck : ∀ k i, k ≠ 223 → c.1 k i = b.1 k i := fun k i h => by rw [hc, gw1_1, if_neg (fun x => h x.1)]
    have c2 : c.2 = b.2 := by rw [hc]; rfl
    have Kc : KR s c := KR_tr (KR_tr a2 KRb) (by rw [hc]; exact KRw b _)
    by_cases z : sg (L0 (s.1 216) R C g) 8 = 0
    · rw [if_neg (fun h => h z)]
      have ec : c.1 216 = s.1 216 := KR_216 Kc
      obtain ⟨d, d1, d2, d3, d4, d5⟩ := sl_177_88 M told 100000 0 c (by omega) (by omega) ec
      have d1 : gm_177_88 100000 0 c = _ := d1
      have Kd : KR c d := ⟨fun k j q => d3 k j (by omega), fun k j _ => by rw [d2], fun S => ⟨fun j hj => by rw [d2, d3 232 j (by decide), d3 233 j (by decide), d3 234 j (by decide)]; exact S.1 j hj, fun c hc => by rw [d2, d3 235 c (by decide)]; exact S.2.1 c hc, fun k hk => by rw [d2]; exact S.2.2 k hk⟩⟩
      rw [d1, e61 d (by rw [d3 215 18 (by decide), ck 215 18 (by decide)]; exact b18), Option.bind_some]
      obtain ⟨e, he⟩ : ∃ e, e = gw1 d 223 0 (sg (fun y => d.1 222 y) 8) := ⟨_, rfl⟩
      show ∃ u : gx_S, gm_177_117 (gw1 d 223 0 (sg (fun y => d.1 222 y) 8)) = some u ∧ _
      rw [← he]
      have ek : ∀ k i, k ≠ 223 → e.1 k i = d.1 k i := fun k i h => by rw [he, gw1_1, if_neg (fun x => h x.1)]
      have Ke : KR s e := KR_tr (KR_tr Kc Kd) (by rw [he]; exact KRw d _)
      obtain ⟨u, u1, u2, u3, u4, u5⟩ := sl_177_117 M hg (t := e) (by rw [ek 215 17 (by decide), d3 215 17 (by decide), ck 215 17 (by decide)]; exact b17) (by rw [ek 215 18 (by decide), d3 215 18 (by decide), ck 215 18 (by decide)]; exact b18) (by rw [P0, he, gw1_2, d2, c2]; exact b21) (fun y hy => by
        rw [ek 222 y (by decide), d4 y (by omega) hy]
        unfold Ash
        rw [if_pos ⟨rfl, hy⟩, if_pos z]) (by
        rw [he, gw1_1, if_pos ⟨rfl, rfl⟩]
        exact sg_eq fun y _ => by rw [gw1_1, if_neg (by omega)]) (fun x hx => by rw [ek 236 x (by decide), d3 236 x (by decide), ck 236 x (by decide)]; exact (b4 x (by omega) hx).1)
      exact ⟨u, u1, u2, fin e u Ke u1 u3 u4 u5⟩
    · rw [if_pos z]
      obtain ⟨u, u1, u2, u3, u4, u5⟩ := sl_177_117 M hg (t := c) (by rw [ck 215 17 (by decide)]; exact b17) (by rw [ck 215 18 (by decide)]; exact b18) (by rw [P0, c2]; exact b21) (fun y hy => by
        rw [ck 222 y (by decide), (b4 y (by omega) hy).2]
        unfold Ash
        rw [if_pos ⟨rfl, hy⟩, if_neg z]) (by
        rw [hc, gw1_1, if_pos ⟨rfl, rfl⟩, ← sb]
        exact sg_eq fun y _ => by rw [gw1_1, if_neg (by omega)]) (fun x hx => by rw [ck 236 x (by decide)]; exact (b4 x (by omega) hx).1)
      exact ⟨u, u1, u2, fin c u Kc u1 u3 u4 u5⟩
