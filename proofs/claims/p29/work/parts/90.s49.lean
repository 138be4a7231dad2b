/-! THE REFERENCE's MAP: kinds, unknown, aside -/
/-- one row alone, by remainders -/
theorem TB_163 {P : Nat → Int} {A : Nat → Nat → Int} {r : gx_S} (h : PA P A) (h17 : r.1 215 17 = 1) (h18 : r.1 215 18 = 8) (hp : r.2 221 0 = P 0) (ha : ∀ y, y < 8 → r.1 222 y = A 0 y) (hw : r.1 223 0 = sg (fun y => r.1 222 y) 8) (h0 : ∀ x y, x < 8 → y < 9 → ¬ (x < 1 ∧ y < 8) → A x y = 0) : ∃ w : gx_S, gm_163 0 r = some w ∧ (∀ y, y < 8 → w.2 224 y = TB 0 P A 0 y) ∧ w.1 = r.1 ∧ (∀ k i, k ≠ 224 → k ≠ 225 → w.2 k i = r.2 k i) ∧ ∀ i, 0 ≤ r.2 225 i ∧ r.2 225 i ≤ 1000000000 → 0 ≤ w.2 225 i ∧ w.2 225 i ≤ 1000000000 := by
  have ft := cc_tf h
  have ht : fx_oc 74 7 = true := by decide +kernel
  obtain ⟨v, u, v1, u1, u2, u3, u4, u5⟩ := sp_41_0 ht ft
  obtain ⟨v', v1', v2, v3, v4, v5, _⟩ := sp_70 ht ft
  have ev : v' = v := Option.some.inj (v1'.symm.trans v1)
  rw [ev] at v4
  have i0 : ∀ y, 9 * 0 + y = y := fun y => by omega
  have P1 : PR r 1 8 := by
    refine ⟨h17, h18, by omega, by omega, fun x hx => ?_⟩
    have e : x = 0 := by omega
    rw [e]
    have a := h.1 0 (by omega)
    refine ⟨by rw [hp]; omega, fun y hy => ?_, ?_⟩
    · rw [i0, ha y hy]
      exact h.2.1 0 y (by omega) (by omega)
    · rw [hw]
      exact sg_eq fun y _ => by rw [i0]
  have w0 : r.1 223 0 = aw (cc P A) 74 0 := by
    rw [hw]
    unfold aw
    rw [sg_cut0 (f := fun y => am (cc P A) 74 0 y) (m := 8) (n := 9) (by omega) fun k h1 h2 => by rw [cc_am P A h2, h0 0 k (by omega) h2 (by omega)]]
    exact sg_eq fun y hy => by rw [ha y hy, cc_am P A (by omega)]
  have wp := PR_w P1 (show 0 < 1 by omega)
  have RA0 : RA v r 74 8 0 := by
    obtain ⟨a1, a2, a3⟩ := v4 0 (by omega)
    have f : ∀ y, y < 8 → af (cc P A) 74 0 y = flq r y ∧ ar (cc P A) 74 0 y = rsq r y := fun y hy => by
      unfold af ar flq rsq
      rw [show y / 9 = 0 by omega, ← w0, cc_am P A (by omega), ha y hy, hp]
      have e : (cc P A).1 (74 + 1) 0 = P 0 := rfl
      rw [e]
      by_cases z : r.1 223 0 ≤ 0
      · rw [if_pos z, if_pos z, if_pos (by omega), if_pos (by omega)]
        exact ⟨rfl, rfl⟩
      · rw [if_neg z, if_neg z, if_neg (by omega), if_neg (by omega)]
        exact ⟨rfl, rfl⟩
    refine ⟨fun y hy => ?_, fun y h1 h2 => ?_⟩
    · obtain ⟨b1, b2, b3, b4⟩ := a3 y (by omega)
      obtain ⟨f1, f2⟩ := f y hy
      rw [i0] at b2 b3 b4
      rw [i0]
      exact ⟨b2.trans f1, b4.trans f1, b3.trans f2⟩
    · obtain ⟨b1, b2, b3, b4⟩ := a3 y (by omega)
      rw [b3]
      unfold ar
      rw [cc_am P A h2, h0 0 y (by omega) h2 (by omega), Int.mul_zero, Int.zero_emod]
      split <;> rfl
  obtain ⟨w, x1, x2, x3, x4, x5, x6⟩ := sl_173_39 (v := v) (t := 74) (R := 1) (m := 8) 100000 0 r (by omega) (by omega) P1 fun x hx => by
    rw [show x = 0 by omega]
    exact RA0
  obtain ⟨a1, a2, a3⟩ := P1.2.2.2.2 0 (by omega)
  have s1 := sp_163 (s := r) (r := 0) (m := 8) (by omega) (by omega) h18 a1 a2 a3
  obtain ⟨q, hq⟩ : ∃ q, gm_163 0 r = some q := ⟨_, s1⟩
  have qe : q.1 215 17 = 1 := by
    have e := Option.some.inj (hq.symm.trans s1)
    rw [e, gvn_1]
    exact h17
  have st : gm_173_39 100000 0 r = some q := by
    rw [gm_173_39, h17, if_pos (by decide), if_pos (by decide), if_neg (by decide), hq, Option.bind_some, gm_173_39, qe]
    rfl
  have x1 : gm_173_39 100000 0 r = some w := x1
  have eq : q = w := Option.some.inj (st.symm.trans x1)
  have T : ∀ y, y < 8 → TB 0 P A 0 y = u.1 82 y := fun y hy => by
    unfold TB
    rw [u1, i0]
  refine ⟨w, by rw [hq, eq], fun y hy => ?_, x2, fun k i h1 h2 => x3 k i h1 h2, x6⟩
  have z := x4 0 y (by omega) (by omega) hy
  have z2 := u3 0 y (by omega) (by omega)
  rw [i0] at z z2
  have l : lo v 74 0 = loq r 8 0 := by
    rw [(v4 0 (by omega)).2.1]
    unfold loq
    rw [← w0, hp]
    have e : (cc P A).1 (74 + 1) 0 = P 0 := rfl
    rw [e]
    by_cases z : r.1 223 0 ≤ 0
    · rw [if_pos z, if_pos (by omega)]
    · rw [if_neg z, if_neg (by omega)]
      have f9 : af (cc P A) 74 0 8 = 0 := by
        unfold af
        rw [cc_am P A (by omega), h0 0 8 (by omega) (by omega) (by omega), Int.mul_zero, Int.zero_ediv]
        split <;> rfl
      rw [sg_cut0 (f := fun y => af (cc P A) 74 0 y) (m := 8) (n := 9) (by omega) fun k h1 h2 => by rw [show k = 8 by omega]; exact f9]
      have ff : sg (fun y => af (cc P A) 74 0 y) 8 = sg (fun y => flq r (9 * 0 + y)) 8 := sg_eq fun y hy => by
        obtain ⟨b1, b2, b3, b4⟩ := (v4 0 (by omega)).2.2 y (by omega)
        rw [← b2]
        exact (RA0.1 y hy).1
      rw [ff]
  rw [T y hy, z2, l]
  exact z
/-- cells with the sign in a layer that is told -/
def NC (f : Nat → Int) (R C l : Nat) (z : Int) : Int := if f 2 / 2 ^ l % 2 = 1 then sg (fun k => bi (f (52 + 96 * l + 12 * (k / C) + k % C) = z)) (R * C) else 0
/-- a map, as the reference keeps it -/
def MP (f : Nat → Int) (R C : Nat) : Prop := (f 0 = R ∧ f 1 = C ∧ R ≤ 8 ∧ C ≤ 12) ∧ (0 ≤ f 2 ∧ f 2 < 8) ∧ (f 3 = 0 ∨ f 3 = 1) ∧ (f 4 = 0 ∨ f 4 = 1) ∧ (∀ g, g < 3 → (∀ z, z < 9 → 0 ≤ f (5 + 9 * g + z)) ∧ sg (fun z => f (5 + 9 * g + z)) 9 ≤ 89991) ∧ (∀ i, i < 12 → 0 ≤ f (32 + i) ∧ f (32 + i) ≤ 9) ∧ (∀ z, z < 8 → 0 ≤ f (44 + z) ∧ f (44 + z) ≤ 3) ∧ (∀ l, l < 3 → f 2 / 2 ^ l % 2 = 1 → ∀ k, k < R * C → 0 ≤ f (52 + 96 * l + 12 * (k / C) + k % C) ∧ f (52 + 96 * l + 12 * (k / C) + k % C) ≤ if l = 2 then 3 else 8) ∧ (¬ f 2 = 0 → f 2 % 2 = 1 ∧ 1 ≤ R ∧ 1 ≤ C)
theorem MP_mz {s : gx_S} {R C : Nat} (M : MP (s.1 216) R C) : mz s R C := M.1
theorem RC_96 {R C : Nat} (h1 : R ≤ 8) (h2 : C ≤ 12) : R * C ≤ 96 := Nat.le_trans (Nat.mul_le_mul h1 h2) (by omega)
theorem NC_nn (f : Nat → Int) (R C l : Nat) (z : Int) : 0 ≤ NC f R C l z ∧ NC f R C l z ≤ R * C := by
  unfold NC
  split
  · refine ⟨sg_nn fun k _ => (bi_r _).1, ?_⟩
    have a := sg_le (f := fun k => bi (f (52 + 96 * l + 12 * (k / C) + k % C) = z)) (g := fun _ => 1) (n := R * C) fun k _ => (bi_r _).2
    rw [sg_one] at a
    rw [← Int.natCast_mul]
    exact a
  · rw [← Int.natCast_mul]
    omega
theorem sp_153g {s : gx_S} {R C : Nat} (M : MP (s.1 216) R C) (l : Nat) (z : Int) (hl : l < 3) (hz : -2147483648 ≤ z ∧ z ≤ 2147483647) : gm_153 l z s = some (decide (0 < NC (s.1 216) R C l z), s) := by
  obtain ⟨m1, m2, m3, m4, m5, m6, m7, m8, m10⟩ := id M
  have hm2 := RC_96 m1.2.2.1 m1.2.2.2
  unfold NC
  by_cases b : s.1 216 2 / 2 ^ l % 2 = 1
  · rw [if_pos b]
    exact sp_153 (MP_mz M) l z hl hz m2 b fun k hk => by
      have := m8 l hl b k hk
      have e : cdx s C l k = s.1 216 (52 + 96 * l + 12 * (k / C) + k % C) := rfl
      rw [e]
      split at this <;> omega
  · rw [if_neg b]
    have hm : s.1 216 0 * s.1 216 1 = ((R * C : Nat) : Int) := by rw [m1.1, m1.2.1]; simp
    unfold gm_153
    rw [gm_153_2, sp_151, hm, Option.bind_some]
    by_cases q : 0 < R * C
    · simp (disch := omega) only [if_pos, if_neg]
      rw [sp_144 l hl m2, decide_eq_false b, Option.bind_some]
      exact if_pos rfl
    · simp (disch := omega) only [if_pos, if_neg]
      rfl
theorem gb_d (c : Prop) [Decidable c] : gb (decide c) = 0 ∨ gb (decide c) = 1 := by rw [gb_bi]; unfold bi; split; exact .inr rfl; exact .inl rfl
def KD (f : Nat → Int) (R C l n : Nat) : Int := sg (fun z => bi (0 < NC f R C l z)) n
theorem KD_r (f : Nat → Int) (R C l n : Nat) : 0 ≤ KD f R C l n ∧ KD f R C l n ≤ n := by
  refine ⟨sg_nn fun k _ => (bi_r _).1, ?_⟩
  rw [← sg_one n]
  exact sg_le fun k _ => (bi_r _).2
theorem sp_154 {s : gx_S} {R C : Nat} (M : MP (s.1 216) R C) (l m : Nat) (hl : l < 3) (hm : m ≤ 8) : gm_154 l m s = some (KD (s.1 216) R C l m, s) := by
  have e : ∀ (n j : Nat), m < n + j → j ≤ m → gm_154_5 n l m (KD (s.1 216) R C l j) j s = some (KD (s.1 216) R C l m, s) := by
    intro n
    induction n with
    | zero => intro j h; omega
    | succ n ih =>
      intro j h hj
      rw [gm_154_5, if_pos (by omega), if_pos (by omega)]
      by_cases q : j = m
      · rw [if_pos (by omega), q]
      · have ce : ((j : Int) + 1) = ((j + 1 : Nat) : Int) := rfl
        rw [if_neg (by omega), sp_153g M l j hl (by omega), Option.bind_some, sp_131 (gb_d _), Option.bind_some, gb_bi, ce]
        exact ih (j + 1) (by omega) (by omega)
  exact e 100000 0 (by omega) (by omega)
/-- those of no known zone -/
def UN (f : Nat → Int) (R C g : Nat) : Int := f (5 + 9 * g + 8) + sg (fun z => if 0 < NC f R C 0 z then 0 else f (5 + 9 * g + z)) 8
abbrev SHr (f : Nat → Int) (R C : Nat) : Prop := f 4 = 1 ∧ 0 < KD f R C 0 8
theorem UN_r {f : Nat → Int} {R C g : Nat} (M : MP f R C) (hg : g < 3) : 0 ≤ UN f R C g ∧ UN f R C g ≤ 89991 := by
  obtain ⟨a, b⟩ := M.2.2.2.2.1 g hg
  have c1 := sg_nn (f := fun z => if 0 < NC f R C 0 (z : Nat) then 0 else f (5 + 9 * g + z)) (n := 8) fun z hz => by
    show 0 ≤ (if 0 < NC f R C 0 z then 0 else f (5 + 9 * g + z))
    split
    · omega
    · exact a z (by omega)
  have c2 := sg_le (f := fun z => if 0 < NC f R C 0 (z : Nat) then 0 else f (5 + 9 * g + z)) (g := fun z => f (5 + 9 * g + z)) (n := 8) fun z hz => by
    show (if 0 < NC f R C 0 z then 0 else f (5 + 9 * g + z)) ≤ f (5 + 9 * g + z)
    split
    · exact a z (by omega)
    · omega
  have d : sg (fun z => f (5 + 9 * g + z)) 9 = sg (fun z => f (5 + 9 * g + z)) 8 + f (5 + 9 * g + 8) := rfl
  have e := a 8 (by omega)
  unfold UN
  omega
theorem sp_174 {s : gx_S} {R C : Nat} (M : MP (s.1 216) R C) {g : Nat} (hg : g < 3) : gm_174 g s = some (UN (s.1 216) R C g, s) := by
  have e : ∀ (n j : Nat), 8 < n + j → j ≤ 8 → gm_174_10 n g (s.1 216 (5 + 9 * g + 8) + sg (fun z => if 0 < NC (s.1 216) R C 0 z then 0 else s.1 216 (5 + 9 * g + z)) j) j s = some (UN (s.1 216) R C g, s) := by
    intro n
    induction n with
    | zero => intro j h; omega
    | succ n ih =>
      intro j h hj
      rw [gm_174_10, if_pos (by omega)]
      by_cases q : j = 8
      · rw [if_pos (by omega), q]
        rfl
      · have ce : ((j : Int) + 1) = ((j + 1 : Nat) : Int) := rfl
        have ih := ih (j + 1) (by omega) (by omega)
        have sgs : sg (fun z => if 0 < NC (s.1 216) R C 0 z then 0 else s.1 216 (5 + 9 * g + z)) (j + 1) = sg (fun z => if 0 < NC (s.1 216) R C 0 z then 0 else s.1 216 (5 + 9 * g + z)) j + if 0 < NC (s.1 216) R C 0 j then 0 else s.1 216 (5 + 9 * g + j) := rfl
        rw [sgs] at ih
        have c53 := sp_153g M 0 j (by omega) (by omega)
        have c53 : gm_153 0 j s = _ := c53
        rw [if_neg (by omega), c53, Option.bind_some]
        by_cases z : 0 < NC (s.1 216) R C 0 j
        · rw [if_pos z] at ih
          rw [decide_eq_true z, if_neg (show ¬ gb (true, s).1 = 0 from (by decide : ¬ gb true = 0))]
          unfold gm_174_36
          rw [ce, Int.add_assoc]
          exact ih
        · rw [if_neg z] at ih
          rw [decide_eq_false z, if_pos (show gb (false, s).1 = 0 from (by decide : gb false = 0))]
          show ((gm_155 g j s).bind _) = _
          rw [sp_155 g j hg (by omega), Option.bind_some]
          unfold gm_174_36
          rw [ce, Int.add_assoc]
          exact ih
  unfold gm_174
  have c55 := sp_155 (s := s) g 8 hg (by omega)
  have c55 : gm_155 g 8 s = _ := c55
  rw [c55, Option.bind_some]
  have e0 := e 100000 0 (by omega) (by omega)
  have z0 : sg (fun z => if 0 < NC (s.1 216) R C 0 z then 0 else s.1 216 (5 + 9 * g + z)) 0 = 0 := rfl
  rw [z0, Int.add_zero] at e0
  exact e0
theorem sp_175 {s : gx_S} {R C : Nat} (M : MP (s.1 216) R C) : ∃ v : Bool, gm_175 s = some (v, s) ∧ (v = true ↔ SHr (s.1 216) R C) := by
  have m4 := M.2.2.2.1
  have k := KD_r (s.1 216) R C 0 8
  have c54 := sp_154 M 0 8 (by omega) (by omega)
  have c54 : gm_154 0 8 s = _ := c54
  unfold gm_175
  rw [if_pos (by omega)]
  by_cases z : s.1 216 4 = 1
  · rw [if_neg (fun h => h z), c54, Option.bind_some]
    by_cases q : KD (s.1 216) R C 0 8 ≤ 0
    · refine ⟨false, ?_, fun h => Bool.noConfusion h, fun h => absurd h.2 (by omega)⟩
      rw [if_pos (by omega), if_pos q]
    · refine ⟨true, ?_, fun _ => ⟨z, by omega⟩, fun _ => rfl⟩
      rw [if_pos (by omega), if_neg q]
  · rw [if_pos z]
    exact ⟨false, rfl, fun h => Bool.noConfusion h, fun h => absurd h.1 z⟩
theorem sp_178 {s : gx_S} {g : Nat} (hg : g < 3) : gm_178 g s = some (sg (fun z => s.1 216 (5 + 9 * g + z)) 9, s) := by
  have e : ∀ (n j : Nat), 9 < n + j → j ≤ 9 → gm_178_4 n g (sg (fun z => s.1 216 (5 + 9 * g + z)) j) j s = some (sg (fun z => s.1 216 (5 + 9 * g + z)) 9, s) := by
    intro n
    induction n with
    | zero => intro j h; omega
    | succ n ih =>
      intro j h hj
      rw [gm_178_4, if_pos (by omega)]
      by_cases q : j = 9
      · rw [if_pos (by omega), q]
      · have ce : ((j : Int) + 1) = ((j + 1 : Nat) : Int) := rfl
        rw [if_neg (by omega), sp_155 g j hg (by omega), Option.bind_some, ce]
        exact ih (j + 1) (by omega) (by omega)
  exact e 100000 0 (by omega) (by omega)
