/-! TEXTS of counts: signs, numbers -/
def sgn (tb : Nat → Int) (L p : Nat) : Int := if p < L then tb p else -1
def dig (x : Int) : Prop := 48 ≤ x ∧ x ≤ 57
def mn (x : Int) : Int := if x < 10000 then x else 10000
/-- the number of the digits from p on, and where it ends -/
def nm (tb : Nat → Int) (L : Nat) : Nat → Int → Nat → Int × Nat
  | 0, v, p => (v, p)
  | r + 1, v, p => if 48 ≤ sgn tb L p ∧ sgn tb L p ≤ 57 then nm tb L r (mn (10 * v + sgn tb L p - 48)) (p + 1) else (v, p)
/-- the class's tape; the reference's -/
def TC (s : gx_S) (L : Nat) (tb : Nat → Int) : Prop := L ≤ 200 ∧ s.1 14 1 = L ∧ ∀ i, i < L → s.1 15 i = tb i ∧ 0 ≤ tb i ∧ tb i ≤ 255
def TF (s : gx_S) (L : Nat) (tb : Nat → Int) : Prop := L ≤ 200 ∧ s.1 215 4 = L ∧ ∀ i, i < L → (Int32.ofInt (s.1 218 i) &&& Int32.ofInt 255).toInt = tb i ∧ 0 ≤ tb i ∧ tb i ≤ 255
theorem TC_o {s u : gx_S} {L : Nat} {tb : Nat → Int} (h1 : u.1 14 1 = s.1 14 1) (h2 : ∀ i, u.1 15 i = s.1 15 i) (h : TC s L tb) : TC u L tb := ⟨h.1, h1.trans h.2.1, fun i hi => by rw [h2]; exact h.2.2 i hi⟩
theorem TF_o {s u : gx_S} {L : Nat} {tb : Nat → Int} (h1 : u.1 215 4 = s.1 215 4) (h2 : ∀ i, u.1 218 i = s.1 218 i) (h : TF s L tb) : TF u L tb := ⟨h.1, h1.trans h.2.1, fun i hi => by rw [h2]; exact h.2.2 i hi⟩
theorem sgn_r {s : gx_S} {L : Nat} {tb : Nat → Int} (h : TC s L tb) (p : Nat) : -1 ≤ sgn tb L p ∧ sgn tb L p ≤ 255 := by
  unfold sgn
  by_cases q : p < L
  · rw [if_pos q]
    have := h.2.2 p q
    omega
  · rw [if_neg q]
    omega
theorem sgn_rf {s : gx_S} {L : Nat} {tb : Nat → Int} (h : TF s L tb) (p : Nat) : -1 ≤ sgn tb L p ∧ sgn tb L p ≤ 255 := by
  unfold sgn
  by_cases q : p < L
  · rw [if_pos q]
    have := h.2.2 p q
    omega
  · rw [if_neg q]
    omega
theorem sp_83 {s : gx_S} {L p : Nat} {tb : Nat → Int} (h : TC s L tb) (hp : p < 1000) : gm_83 p s = some (sgn tb L p, s) := by
  obtain ⟨h1, h2, h3⟩ := h
  unfold gm_83 sgn
  rw [if_pos (by omega), if_neg (by omega), h2, if_pos (by omega)]
  by_cases q : p < L
  · rw [if_neg (by omega), if_pos (by omega), if_pos q, show ((p : Int)).toNat = p by omega, (h3 p q).1]
  · rw [if_pos (by omega), if_neg q]
theorem sp_137 {s : gx_S} {L p : Nat} {tb : Nat → Int} (h : TF s L tb) (hp : p < 1000) (e : s.1 215 5 = p) : gm_137 s = some (sgn tb L p, s) := by
  obtain ⟨h1, h2, h3⟩ := h
  unfold gm_137 sgn
  rw [e, if_pos (by omega), h2, if_pos (by omega)]
  by_cases q : p < L
  · rw [if_neg (by omega), if_pos (by omega), if_pos q, show ((p : Int)).toNat = p by omega, (h3 p q).1]
  · rw [if_pos (by omega), if_neg q]
theorem sp_138 {s : gx_S} (h : i32 (s.1 215 6)) : gm_138 s = some (decide (s.1 215 6 = -1), s) := by
  unfold i32 at h
  unfold gm_138
  rw [if_pos h]
  by_cases q : s.1 215 6 = -1
  · rw [if_neg (fun t => t q), decide_eq_true q]
  · rw [if_pos q, decide_eq_false q]
theorem sp_139 {s : gx_S} {a b : Int} (h : i32 (s.1 215 6)) : gm_139 a b s = some (if s.1 215 6 = -1 then gw1 s 215 6 (8 * b + a) else s) := by
  unfold gm_139
  rw [sp_138 h, Option.bind_some]
  by_cases q : s.1 215 6 = -1
  · rw [if_neg (fun t => (gbD s).mp t q), if_pos q]
  · rw [if_pos ((gbD s).mpr q), if_neg q]
theorem nmr {tb : Nat → Int} {L : Nat} (hr : ∀ p, -1 ≤ sgn tb L p) : ∀ (r : Nat) (v : Int) (p : Nat), 0 ≤ v → v ≤ 10000 → p ≤ L → (0 ≤ (nm tb L r v p).1 ∧ (nm tb L r v p).1 ≤ 10000) ∧ p ≤ (nm tb L r v p).2 ∧ (nm tb L r v p).2 ≤ L ∧ (dig (sgn tb L p) → 0 < r → p < (nm tb L r v p).2)
  | 0, v, p, h1, h2, h3 => ⟨⟨h1, h2⟩, Nat.le_refl p, h3, fun _ h => absurd h (by omega)⟩
  | r + 1, v, p, h1, h2, h3 => by
    have e : nm tb L (r + 1) v p = if 48 ≤ sgn tb L p ∧ sgn tb L p ≤ 57 then nm tb L r (mn (10 * v + sgn tb L p - 48)) (p + 1) else (v, p) := rfl
    rw [e]
    by_cases q : 48 ≤ sgn tb L p ∧ sgn tb L p ≤ 57
    · have hp : p < L := Classical.byContradiction fun h => by
        have : sgn tb L p = -1 := if_neg h
        omega
      have m1 : 0 ≤ mn (10 * v + sgn tb L p - 48) ∧ mn (10 * v + sgn tb L p - 48) ≤ 10000 := by
        unfold mn
        split <;> omega
      obtain ⟨a1, a2, a3, a4⟩ := nmr hr r _ (p + 1) m1.1 m1.2 (by omega)
      rw [if_pos q]
      exact ⟨a1, by omega, a3, fun _ _ => by omega⟩
    · rw [if_neg q]
      exact ⟨⟨h1, h2⟩, Nat.le_refl p, h3, fun h => absurd h q⟩
theorem sp_8 (s : gx_S) {x : Int} (h : i32 x) : gm_8 x s = some (decide (48 ≤ x ∧ x ≤ 57), s) := by
  unfold i32 at h
  unfold gm_8
  rw [if_pos h]
  by_cases a : x < 48
  · rw [if_pos a, decide_eq_false (by omega)]
  · rw [if_neg a]
    by_cases b : 57 < x
    · rw [if_pos b, decide_eq_false (by omega)]
    · rw [if_neg b, decide_eq_true (by omega)]
/-- the place alone changes -/
def P2 (s u : gx_S) : Prop := u.2 = s.2 ∧ ∀ k j, ¬ (k = 60 ∧ j = 2) → u.1 k j = s.1 k j
theorem sl_6 {L : Nat} {tb : Nat → Int} : ∀ (r p n : Nat) (v : Int) (s : gx_S), L ≤ p + r → p ≤ L → r < n → 0 ≤ v → v ≤ 10000 → TC s L tb → s.1 60 2 = p → ∃ u : gx_S, gm_6_2 n v s = some ((nm tb L r v p).1, u) ∧ u.1 60 2 = (nm tb L r v p).2 ∧ P2 s u := by
  intro r
  induction r with
  | zero =>
    intro p n v s h1 h2 h3 h4 h5 T e
    obtain ⟨n, rfl⟩ : ∃ n', n = n' + 1 := ⟨n - 1, by omega⟩
    have hL := T.1
    refine ⟨s, ?_, e, rfl, fun _ _ _ => rfl⟩
    rw [gm_6_2, e, T.2.1, if_pos (by omega), if_pos (by omega), if_pos (by omega)]
    rfl
  | succ r ih =>
    intro p n v s h1 h2 h3 h4 h5 T e
    obtain ⟨n, rfl⟩ : ∃ n', n = n' + 1 := ⟨n - 1, by omega⟩
    have hL := T.1
    have sr := sgn_r T p
    have en : nm tb L (r + 1) v p = if 48 ≤ sgn tb L p ∧ sgn tb L p ≤ 57 then nm tb L r (mn (10 * v + sgn tb L p - 48)) (p + 1) else (v, p) := rfl
    rw [gm_6_2, e, T.2.1, if_pos (by omega), if_pos (by omega), en]
    by_cases q0 : p < L
    · rw [if_neg (by omega), sp_83 T (by omega), Option.bind_some]
      show ∃ u : gx_S, ((gm_8 (sgn tb L p) s).bind _) = _ ∧ _
      rw [sp_8 s (by unfold i32; omega), Option.bind_some]
      by_cases q : 48 ≤ sgn tb L p ∧ sgn tb L p ≤ 57
      · have ce : ((p : Int) + 1) = ((p + 1 : Nat) : Int) := rfl
        rw [if_neg (fun t => (gbD s).mp t q), if_pos q]
        show ∃ u : gx_S, ((gm_83 (s.1 60 2) s).bind fun q10 => if (-2147483648 ≤ (((v * 10) + q10.1) - 48) ∧ (((v * 10) + q10.1) - 48) ≤ 2147483647) then (gm_6_2 n (if (((v * 10) + q10.1) - 48) < 10000 then (((v * 10) + q10.1) - 48) else 10000) (gw1 q10.2 60 2 ((q10.2.1 60 2) + 1))) else none) = _ ∧ _
        rw [e, sp_83 T (by omega), Option.bind_some]
        show ∃ u : gx_S, (if (-2147483648 ≤ (((v * 10) + sgn tb L p) - 48) ∧ (((v * 10) + sgn tb L p) - 48) ≤ 2147483647) then (gm_6_2 n (if (((v * 10) + sgn tb L p) - 48) < 10000 then (((v * 10) + sgn tb L p) - 48) else 10000) (gw1 s 60 2 ((s.1 60 2) + 1))) else none) = _ ∧ _
        have em : (if (((v * 10) + sgn tb L p) - 48) < 10000 then (((v * 10) + sgn tb L p) - 48) else 10000) = mn (10 * v + sgn tb L p - 48) := by
          unfold mn
          rw [show v * 10 = 10 * v by omega]
        have m1 : 0 ≤ mn (10 * v + sgn tb L p - 48) ∧ mn (10 * v + sgn tb L p - 48) ≤ 10000 := by
          unfold mn
          split <;> omega
        rw [if_pos (by omega), em, e, ce]
        have o : ∀ k j, ¬ (k = 60 ∧ j = 2) → (gw1 s 60 2 ((p + 1 : Nat) : Int)).1 k j = s.1 k j := fun k j q => by rw [gw1_1, if_neg q]
        obtain ⟨u, u1, u2, u3⟩ := ih (p + 1) n (mn (10 * v + sgn tb L p - 48)) (gw1 s 60 2 ((p + 1 : Nat) : Int)) (by omega) (by omega) (by omega) m1.1 m1.2 (TC_o (o _ _ (by omega)) (fun i => o _ _ (by omega)) T) (by rw [gw1_1, if_pos ⟨rfl, rfl⟩])
        exact ⟨u, u1, u2, u3.1, fun k j q => (u3.2 k j q).trans (o k j q)⟩
      · rw [if_pos ((gbD s).mpr q), if_neg q]
        exact ⟨s, rfl, e, rfl, fun _ _ _ => rfl⟩
    · have z : sgn tb L p = -1 := if_neg q0
      rw [if_pos (by omega), if_neg (by rw [z]; omega)]
      exact ⟨s, rfl, e, rfl, fun _ _ _ => rfl⟩
/-- the reference's place alone changes -/
def P5 (s u : gx_S) : Prop := u.2 = s.2 ∧ ∀ k j, ¬ (k = 215 ∧ j = 5) → u.1 k j = s.1 k j
theorem sl_146 {L : Nat} {tb : Nat → Int} {sl b : Int} : ∀ (r p n : Nat) (v : Int) (s : gx_S), L ≤ p + r → p ≤ L → r < n → 0 ≤ v → v ≤ 10000 → TF s L tb → s.1 215 5 = p → s.1 215 6 = -1 → ∃ u : gx_S, gm_146_164 n sl b v s = gm_146_222 sl b (nm tb L r v p).1 u ∧ u.1 215 5 = (nm tb L r v p).2 ∧ P5 s u := by
  intro r
  induction r with
  | zero =>
    intro p n v s h1 h2 h3 h4 h5 T e e6
    obtain ⟨n, rfl⟩ : ∃ n', n = n' + 1 := ⟨n - 1, by omega⟩
    have hL := T.1
    have z : sgn tb L p = -1 := if_neg (by omega)
    refine ⟨s, ?_, e, rfl, fun _ _ _ => rfl⟩
    rw [gm_146_164, sp_138 (by rw [e6]; unfold i32; omega), Option.bind_some, if_neg (fun t => (gbD s).mp t e6)]
    show ((gm_137 s).bind _) = _
    rw [sp_137 T (by omega) e, Option.bind_some, z, if_pos (show (-2147483648 : Int) ≤ -1 ∧ (-1 : Int) ≤ 2147483647 by decide)]
    show ((gm_130 (-1) 48 57 s).bind _) = _
    rw [in_ s (by unfold i32; omega) (by omega) (by omega), Option.bind_some, if_pos ((gbD s).mpr (by omega))]
    rfl
  | succ r ih =>
    intro p n v s h1 h2 h3 h4 h5 T e e6
    obtain ⟨n, rfl⟩ : ∃ n', n = n' + 1 := ⟨n - 1, by omega⟩
    have hL := T.1
    have sr := sgn_rf T p
    have en : nm tb L (r + 1) v p = if 48 ≤ sgn tb L p ∧ sgn tb L p ≤ 57 then nm tb L r (mn (10 * v + sgn tb L p - 48)) (p + 1) else (v, p) := rfl
    rw [gm_146_164, sp_138 (by rw [e6]; unfold i32; omega), Option.bind_some, if_neg (fun t => (gbD s).mp t e6), en]
    show ∃ u : gx_S, ((gm_137 s).bind _) = _ ∧ _
    rw [sp_137 T (by omega) e, Option.bind_some, if_pos (by omega)]
    show ∃ u : gx_S, ((gm_130 (sgn tb L p) 48 57 s).bind _) = _ ∧ _
    rw [in_ s (by unfold i32; omega) (by omega) (by omega), Option.bind_some]
    by_cases q : 48 ≤ sgn tb L p ∧ sgn tb L p ≤ 57
    · have hp : p < L := Classical.byContradiction fun h => by
        have : sgn tb L p = -1 := if_neg h
        omega
      have ce : ((p : Int) + 1) = ((p + 1 : Nat) : Int) := rfl
      rw [if_neg (fun t => (gbD s).mp t q), if_pos q]
      show ∃ u : gx_S, ((gm_137 s).bind fun q11 => if (-2147483648 ≤ (((10 * v) + q11.1) - 48) ∧ (((10 * v) + q11.1) - 48) ≤ 2147483647) then (gm_146_164 n sl b (if (((10 * v) + q11.1) - 48) < 10000 then (((10 * v) + q11.1) - 48) else 10000) (gw1 q11.2 215 5 ((q11.2.1 215 5) + 1))) else none) = _ ∧ _
      rw [sp_137 T (by omega) e, Option.bind_some]
      show ∃ u : gx_S, (if (-2147483648 ≤ (((10 * v) + sgn tb L p) - 48) ∧ (((10 * v) + sgn tb L p) - 48) ≤ 2147483647) then (gm_146_164 n sl b (mn (10 * v + sgn tb L p - 48)) (gw1 s 215 5 ((s.1 215 5) + 1))) else none) = _ ∧ _
      have m1 : 0 ≤ mn (10 * v + sgn tb L p - 48) ∧ mn (10 * v + sgn tb L p - 48) ≤ 10000 := by
        unfold mn
        split <;> omega
      rw [if_pos (by omega), e, ce]
      have o : ∀ k j, ¬ (k = 215 ∧ j = 5) → (gw1 s 215 5 ((p + 1 : Nat) : Int)).1 k j = s.1 k j := fun k j q => by rw [gw1_1, if_neg q]
      obtain ⟨u, u1, u2, u3⟩ := ih (p + 1) n (mn (10 * v + sgn tb L p - 48)) (gw1 s 215 5 ((p + 1 : Nat) : Int)) (by omega) (by omega) (by omega) m1.1 m1.2 (TF_o (o _ _ (by omega)) (fun i => o _ _ (by omega)) T) (by rw [gw1_1, if_pos ⟨rfl, rfl⟩]) (by rw [o _ _ (by omega)]; exact e6)
      exact ⟨u, u1, u2, u3.1, fun k j q => (u3.2 k j q).trans (o k j q)⟩
    · rw [if_pos ((gbD s).mpr q), if_neg q]
      exact ⟨s, rfl, e, rfl, fun _ _ _ => rfl⟩
