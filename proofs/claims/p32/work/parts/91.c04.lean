/-! THE CLASS ALONE: adopt, small queries, apart -/
section
variable {s : gx_S} {f : Nat → Int} {R C n L : Nat} {pf : Nat → Nat → Int} {tb : Nat → Int}
theorem qs_adopt (h : QS f R C n pf L tb s) (h7 : f 2 = 7) : ∃ u : gx_S, gm_93 s = some (sg (inz f R C) 3, u) ∧ QS (fa f R C) R C (nn n) (pn n pf f) L tb u := by
  obtain ⟨c, v⟩ := id h
  have e7 : s.1 1 6 = f 2 := c.1.2.2.1
  have c57 := sp_57 (s := s) (a := 1) (by decide +kernel) (by rw [e7]; exact v.1.2.1)
  unfold gm_93
  rw [c57, Option.bind_some, e7, if_pos (fun q => (gbD s).mp q h7)]
  obtain ⟨a, a1, a2, a3, a4⟩ := sl_93_14 v.1 h7 100000 0 s (by omega) (by omega) c fun g hg => absurd hg (by omega)
  have a1 : gm_93_14 100000 0 s = _ := a1
  obtain ⟨u, u1, u2, u3, u4, u5⟩ := qs_act (s := a) ⟨a2, v⟩
  obtain ⟨b, b1, b2, b3, b4⟩ := sl_93_44 (f := f) (R := R) (C := C) 100000 0 0 u (by omega) (by omega) fun g hg => MV_o (fun k i q1 q2 q3 => u4 k i (by omega) (by omega)) (a4 g hg)
  have b1 : gm_93_44 100000 0 0 u = some (0 + (sg (inz f R C) 3 - sg (inz f R C) 0), gcp b 2 96 2 0 96) := b1
  have ez : (0 : Int) + (sg (inz f R C) 3 - sg (inz f R C) 0) = sg (inz f R C) 3 := by
    show (0 : Int) + (sg (inz f R C) 3 - 0) = _
    omega
  rw [ez] at b1
  obtain ⟨u', hu'⟩ : ∃ u', u' = gcp b 2 96 2 0 96 := ⟨_, rfl⟩
  rw [← hu'] at b1
  have k6 : ∀ k j, 6 ≤ k → u'.1 k j = u.1 k j := fun k j q => by
    rw [hu', gcp_1, if_neg (by omega), b3 k j (by omega)]
  refine ⟨u', by rw [a1, u1, Option.bind_some, b1], u5 u' _ R C k6 (MP_fa v.1 h7) ?_⟩
  obtain ⟨m1, m2, m3, m4, m5, m6, m7, m8, m9⟩ := u3
  have o : ∀ i, ¬ (5 ≤ i ∧ i < 32) → ¬ (52 ≤ i ∧ i < 148) → fa f R C i = f i := fun i h1 h2 => by
    unfold fa
    rw [if_neg h1, if_neg h2]
  have uk : ∀ k i, k ≠ 2 → k ≠ 3 → u'.1 k i = u.1 k i := fun k i q1 q2 => by rw [hu', gcp_1, if_neg (by omega), b3 k i q2]
  refine ⟨by rw [uk _ _ (by omega) (by omega), o 0 (by omega) (by omega)]; exact m1, by rw [uk _ _ (by omega) (by omega), o 1 (by omega) (by omega)]; exact m2, by rw [uk _ _ (by omega) (by omega), o 2 (by omega) (by omega)]; exact m3, by rw [uk _ _ (by omega) (by omega), o 3 (by omega) (by omega)]; exact m4, by rw [uk _ _ (by omega) (by omega), o 4 (by omega) (by omega)]; exact m5, fun i hi => ?_, fun i hi => by rw [uk _ _ (by omega) (by omega), o _ (by omega) (by omega)]; exact m7 i hi, fun i hi => by rw [uk _ _ (by omega) (by omega), o _ (by omega) (by omega)]; exact m8 i hi, fun l hl bb k hk => ?_⟩
  · rw [show (1 : Nat) + 2 = 3 from rfl, hu', gcp_1, if_neg (by omega), b4, if_pos (by omega)]
    unfold fa
    rw [if_pos (by omega), show 5 + i - 5 = i by omega]
  · have kk := (kC v.1.1.2.2.1 v.1.1.2.2.2 hk (show 2 < 3 by omega))
    rw [show (1 : Nat) + 1 = 2 from rfl] at m9 ⊢
    rw [hu', gcp_1, b3 2 _ (by omega), b3 2 _ (by omega)]
    by_cases z : l = 0
    · have zz : fa f R C (52 + 96 * 0 + 12 * (k / C) + k % C) = f (52 + 96 * 1 + 12 * (k / C) + k % C) := by
        unfold fa
        rw [if_neg (by omega), if_pos (by omega), show 52 + 96 * 0 + 12 * (k / C) + k % C + 96 = 52 + 96 * 1 + 12 * (k / C) + k % C by omega]
      rw [z, if_pos (by omega), zz, show 96 + (96 * 0 + k - 0) = 96 * 1 + k by omega]
      exact m9 1 (by omega) (by rw [h7]; rfl) k hk
    · rw [if_neg (by omega), o _ (by omega) (by omega)]
      exact m9 l hl (by rw [o 2 (by omega) (by omega)] at bb; exact bb) k hk
theorem qs_weight (h : QS f R C n pf L tb s) {x y : Nat} (hx : x < 3) (hy : y < 4) : gm_112 x y s = some (f (32 + 4 * x + y), s) := by
  obtain ⟨c, v⟩ := id h
  unfold gm_112
  rw [sp_114 s (by unfold i32; omega), Option.bind_some, if_neg (fun q => (gbD s).mp q (by omega)), sp_116 s (by unfold i32; omega), Option.bind_some, if_neg (fun q => (gbD s).mp q (by omega)), if_pos (by omega)]
  have e1 := c.1.2.2.2.2.2.2.1 (4 * x + y) (by omega)
  rw [show (1 : Nat) + 3 = 4 from rfl] at e1
  rw [show ((x : Int) * 4 + (y : Int)).toNat = 4 * x + y by omega, e1, show 32 + (4 * x + y) = 32 + 4 * x + y by omega]
theorem qs_districtOf (h : QS f R C n pf L tb s) {x : Nat} (hx : x < 8) : gm_113 x s = some (f (44 + x), s) := by
  obtain ⟨c, v⟩ := id h
  unfold gm_113
  rw [sp_115 s (by unfold i32; omega), Option.bind_some, if_neg (fun q => (gbD s).mp q (by omega)), if_pos (by omega)]
  have e1 := c.1.2.2.2.2.2.2.2.1 x (by omega)
  rw [show (1 : Nat) + 4 = 5 from rfl] at e1
  rw [show ((x : Int)).toNat = x by omega, e1]
/-- what cell() answers -/
def clv (f : Nat → Int) (R C l y z : Nat) : Int := if y < R ∧ z < C then (if l = 2 then 48 + f (52 + 96 * l + 12 * y + z) else if f (52 + 96 * l + 12 * y + z) = 8 then 46 else 97 + f (52 + 96 * l + 12 * y + z)) else -1
theorem qs_cell (h : QS f R C n pf L tb s) (h7 : f 2 = 7) {l y z : Nat} (hl : l < 3) (hy : y < 100) (hz : z < 100) : gm_95 l y z s = some (clv f R C l y z, s) := by
  obtain ⟨c, v⟩ := id h
  have m1 := v.1.1
  have e6 : s.1 1 6 = f 2 := c.1.2.2.1
  have c56 := sp_56 (s := s) (a := 1) (by decide +kernel) l (by omega) (by rw [e6]; exact v.1.2.1)
  have c59 := sp_59 (x := (y : Int)) (y := (z : Int)) c.1 v.1 (by unfold i32; omega) (by unfold i32; omega)
  rw [e6] at c56
  have b : f 2 / 2 ^ l % 2 = 1 := by
    rw [h7]
    rcases (show l = 0 ∨ l = 1 ∨ l = 2 by omega) with e | e | e
    · rw [e]; rfl
    · rw [e]; rfl
    · rw [e]; rfl
  have s1 : gm_95 l y z s = (if 0 ≤ (y : Int) ∧ (y : Int) < R ∧ 0 ≤ (z : Int) ∧ (z : Int) < C then ((gm_60 1 l (((y : Int) * (s.1 1 5)) + z) s).bind fun q25 => if ¬ (l : Int) = 2 then (if (-2147483648 ≤ q25.1 ∧ q25.1 ≤ 2147483647) then (if ¬ q25.1 = 8 then some ((97 + q25.1), q25.2) else some (46, q25.2)) else none) else some ((48 + q25.1), q25.2)) else some (-1, s)) := by
    unfold gm_95
    rw [if_pos (by omega), if_neg (by omega), if_neg (by omega), c56, Option.bind_some, if_neg (fun q => (gbD s).mp q b)]
    show ((gm_59 1 y z s).bind _) = _
    rw [c59, Option.bind_some]
    by_cases d : 0 ≤ (y : Int) ∧ (y : Int) < R ∧ 0 ≤ (z : Int) ∧ (z : Int) < C
    · rw [if_pos (fun q => (gbD s).mp q d), if_pos d]
    · rw [if_neg (fun q => q ((gbD s).mpr d)), if_neg d]
  rw [s1]
  unfold clv
  by_cases d : y < R ∧ z < C
  · rw [if_pos (by omega), if_pos d]
    have hk : y * C + z < R * C := by
      have := Nat.mul_le_mul_right C (show y + 1 ≤ R by omega)
      rw [Nat.add_mul] at this
      omega
    have d1 : (y * C + z) / C = y := by
      rw [Nat.mul_comm, Nat.mul_add_div (by omega), Nat.div_eq_of_lt (by omega)]
      rfl
    have d2 : (y * C + z) % C = z := by
      rw [Nat.mul_comm, Nat.mul_add_mod, Nat.mod_eq_of_lt (by omega)]
    have e5 : s.1 1 5 = C := c.1.2.1.trans m1.2.1
    have ei : (y : Int) * (C : Int) + (z : Int) = ((y * C + z : Nat) : Int) := by
      rw [Int.natCast_add, Int.natCast_mul]
    have c60 := sp_60 (s := s) (a := 1) (by decide +kernel) l (y * C + z) (by omega) (by have := RC_96 m1.2.2.1 m1.2.2.2; omega)
    have e9 := c.1.2.2.2.2.2.2.2.2 l (by omega) b (y * C + z) hk
    have r9 := v.1.2.2.2.2.2.2.2.1 l (by omega) b (y * C + z) hk
    rw [d1, d2] at e9 r9
    rw [e9] at c60
    have rr : -2147483648 ≤ f (52 + 96 * l + 12 * y + z) ∧ f (52 + 96 * l + 12 * y + z) ≤ 2147483647 := by
      by_cases q : l = 2
      · rw [if_pos q] at r9; omega
      · rw [if_neg q] at r9; omega
    rw [e5, ei, c60, Option.bind_some]
    dsimp only
    by_cases q : l = 2
    · rw [if_neg (show ¬ ¬ (l : Int) = 2 by omega), if_pos q]
    · rw [if_pos (show ¬ (l : Int) = 2 by omega), if_neg q, if_pos rr]
      by_cases p : f (52 + 96 * l + 12 * y + z) = 8
      · rw [if_neg (fun t => t p), if_pos p]
      · rw [if_pos p, if_neg p]
  · rw [if_neg (by omega), if_neg d]
/-- what count() answers -/
def cnv (f : Nat → Int) (R C n L x : Nat) : Int := if x = 0 then ((R * C : Nat) : Int) else if x = 1 then f 0 else if x = 2 then KD f R C 0 8 else if x = 3 then KD f R C 1 8 else if x = 4 then KD f R C 2 4 else if x = 5 then f 3 else if x = 6 then f 4 else if x = 7 then f 2 else if x = 8 then n else if x = 9 then L else if x = 10 then mva f R C 3 else asa f R C 3
theorem qs_count (h : QS f R C n pf L tb s) (h7 : f 2 = 7) {x : Nat} (hx : x ≤ 11) : ∃ u : gx_S, gm_111 x s = some (cnv f R C n L x, u) ∧ QS f R C n pf L tb u := by
  obtain ⟨c, v⟩ := id h
  have m := c.1
  have e6 : s.1 1 6 = f 2 := c.1.2.2.1
  unfold gm_111 cnv
  rw [if_pos (by omega)]
  by_cases x0 : x = 0
  · rw [if_pos (by omega), sp_58 (MR_cz m v.1), Option.bind_some, if_pos x0]
    exact ⟨s, rfl, h⟩
  · rw [if_neg (by omega), if_neg x0]
    by_cases x1 : x = 1
    · rw [if_pos (by omega), if_pos x1]
      exact ⟨s, by rw [m.1], h⟩
    · rw [if_neg (by omega), if_neg x1]
      by_cases x2 : x = 2
      · have c63 := sp_63 m v.1 0 8 (by omega) (by omega)
        have c63 : gm_63 1 0 8 s = _ := c63
        rw [if_pos (by omega), c63, Option.bind_some, if_pos x2]
        exact ⟨s, rfl, h⟩
      · rw [if_neg (by omega), if_neg x2]
        by_cases x3 : x = 3
        · have c63 := sp_63 m v.1 1 8 (by omega) (by omega)
          have c63 : gm_63 1 1 8 s = _ := c63
          rw [if_pos (by omega), c63, Option.bind_some, if_pos x3]
          exact ⟨s, rfl, h⟩
        · rw [if_neg (by omega), if_neg x3]
          by_cases x4 : x = 4
          · have c63 := sp_63 m v.1 2 4 (by omega) (by omega)
            have c63 : gm_63 1 2 4 s = _ := c63
            rw [if_pos (by omega), c63, Option.bind_some, if_pos x4]
            exact ⟨s, rfl, h⟩
          · rw [if_neg (by omega), if_neg x4]
            by_cases x5 : x = 5
            · rw [if_pos (by omega), if_pos x5]
              exact ⟨s, by rw [m.2.2.2.1], h⟩
            · rw [if_neg (by omega), if_neg x5]
              by_cases x6 : x = 6
              · rw [if_pos (by omega), if_pos x6]
                exact ⟨s, by rw [m.2.2.2.2.1], h⟩
              · rw [if_neg (by omega), if_neg x6]
                by_cases x7 : x = 7
                · rw [if_pos (by omega), if_pos x7]
                  exact ⟨s, by rw [e6], h⟩
                · rw [if_neg (by omega), if_neg x7]
                  by_cases x8 : x = 8
                  · obtain ⟨_, p, _, _, p2, _⟩ := c.2.2.1
                    rw [if_pos (by omega), if_pos x8]
                    exact ⟨s, by rw [p2], h⟩
                  · rw [if_neg (by omega), if_neg x8]
                    by_cases x9 : x = 9
                    · rw [if_pos (by omega), if_pos x9]
                      exact ⟨s, by rw [c.2.2.2.1], h⟩
                    · rw [if_neg (by omega), if_neg x9]
                      by_cases x10 : x = 10
                      · rw [if_pos (by omega), if_pos x10]
                        obtain ⟨u, u1, u2, u3⟩ := sl_126 v.1 h7 true 100000 0 s (by omega) (by omega) c
                        have u1 : gm_126 1 s = some (mva f R C 3, u) := u1
                        rw [u1, Option.bind_some]
                        exact ⟨u, rfl, u2, v⟩
                      · rw [if_neg (by omega), if_neg x10, if_pos (by omega)]
                        obtain ⟨u, u1, u2, u3⟩ := sl_126 v.1 h7 false 100000 0 s (by omega) (by omega) c
                        have u1 : gm_126 0 s = some (asa f R C 3, u) := u1
                        rw [u1, Option.bind_some]
                        exact ⟨u, rfl, u2, v⟩
/-- OLD and NEW are alike, cell by cell -/
abbrev ALK (f : Nat → Int) (R C : Nat) : Prop := ∀ k, k < R * C → f (52 + 96 * 0 + 12 * (k / C) + k % C) = f (52 + 96 * 1 + 12 * (k / C) + k % C)
theorem bs_1 : ∀ o : Nat, o < 8 → bset 0 o = ((2 ^ o : Nat) : Int) ∧ bset ((2 ^ o : Nat) : Int) o = ((2 ^ o : Nat) : Int) := by decide +kernel
theorem mbs_a {f : Nat → Int} {R C x : Nat} (hx : x < 8) (A : ALK f R C) : ∀ k, k ≤ R * C → mbs f C x k = if 0 < sg (fun k => bi (f (52 + 96 * 0 + 12 * (k / C) + k % C) = x)) k then ((2 ^ x : Nat) : Int) else 0 := by
  intro k
  induction k with
  | zero =>
    intro _
    rw [if_neg (show ¬ (0 : Int) < sg (fun k => bi (f (52 + 96 * 0 + 12 * (k / C) + k % C) = x)) 0 from (by decide : ¬ (0 : Int) < 0))]
    rfl
  | succ k ih =>
    intro hk
    obtain ⟨b1, b2⟩ := bs_1 x hx
    have nn := sg_nn (f := fun k => bi (f (52 + 96 * 0 + 12 * (k / C) + k % C) = x)) (n := k) fun k _ => (bi_r _).1
    have e : sg (fun k => bi (f (52 + 96 * 0 + 12 * (k / C) + k % C) = x)) (k + 1) = sg (fun k => bi (f (52 + 96 * 0 + 12 * (k / C) + k % C) = x)) k + bi (f (52 + 96 * 0 + 12 * (k / C) + k % C) = x) := rfl
    rw [mbs, ih (by omega), e]
    by_cases q : f (52 + 96 * 0 + 12 * (k / C) + k % C) = x
    · have eb : bi (f (52 + 96 * 0 + 12 * (k / C) + k % C) = x) = 1 := if_pos q
      rw [if_pos q, eb, ← A k (by omega), q, if_pos (show 0 < sg (fun k => bi (f (52 + 96 * 0 + 12 * (k / C) + k % C) = x)) k + 1 by omega)]
      split
      · exact b2
      · exact b1
    · have eb : bi (f (52 + 96 * 0 + 12 * (k / C) + k % C) = x) = 0 := if_neg q
      rw [if_neg q, eb, Int.add_zero]
theorem NC_a {f : Nat → Int} {R C : Nat} (h7 : f 2 = 7) (A : ALK f R C) (x : Int) : NC f R C 1 x = NC f R C 0 x := by
  unfold NC
  rw [if_pos (show f 2 / 2 ^ 1 % 2 = 1 by rw [h7]; rfl), if_pos (show f 2 / 2 ^ 0 % 2 = 1 by rw [h7]; rfl)]
  exact sg_eq fun k hk => by rw [A k hk]
theorem qs_la (h : QS f R C n pf L tb s) (h7 : f 2 = 7) (A : ALK f R C) {x : Nat} {w : Int} (hx : x < 8) (hw : w = 1 ∨ w = 2 ∨ w = 3) : gm_125 x w s = some (if w = 1 then decide (0 < NC f R C 0 x) else false, s) := by
  obtain ⟨c, v⟩ := id h
  have T : TT f := ⟨by rw [h7]; rfl, by rw [h7]; rfl⟩
  have hxi : i32 (x : Int) := by unfold i32; omega
  have c65 := sp_65 c.1 v.1 T hxi
  have em := mbs_a hx A (R * C) (Nat.le_refl _)
  have en : sg (fun k => bi (f (52 + 96 * 0 + 12 * (k / C) + k % C) = x)) (R * C) = NC f R C 0 x := by
    unfold NC
    rw [if_pos T.1]
  rw [en] at em
  rw [em] at c65
  obtain ⟨b1, b2, b3⟩ := bc_2 x hx
  have p8 : 2 ^ x ≤ 2 ^ 8 := Nat.pow_le_pow_right (by omega) (by omega)
  have p8 : 2 ^ x ≤ 256 := p8
  have p0 : 0 < 2 ^ x := Nat.pow_pos (by omega)
  obtain ⟨V, hV⟩ : ∃ V : Nat, (if 0 < NC f R C 0 x then ((2 ^ x : Nat) : Int) else 0) = V := by
    by_cases q : 0 < NC f R C 0 x
    · exact ⟨2 ^ x, if_pos q⟩
    · exact ⟨0, if_neg q⟩
  have Vx : (0 < NC f R C 0 x ∧ V = 2 ^ x) ∨ (¬ 0 < NC f R C 0 x ∧ V = 0) := by
    by_cases q : 0 < NC f R C 0 x
    · rw [if_pos q] at hV
      exact .inl ⟨q, by omega⟩
    · rw [if_neg q] at hV
      exact .inr ⟨q, by omega⟩
  rw [hV] at c65
  have br : bc_ V ≤ 1 := by
    rcases Vx with ⟨_, e⟩ | ⟨_, e⟩
    · rw [e, b1]; omega
    · rw [e]; decide +kernel
  have br0 := (bc_r V (by omega)).1
  have b8 : b8_ V = 0 := by
    rcases Vx with ⟨_, e⟩ | ⟨_, e⟩
    · rw [e, b2]
    · rw [e]; decide +kernel
  have e8 : ((Int32.ofInt (((Int32.ofInt (V : Int) >>> (Int32.ofInt 8 &&& 31))).toInt) &&& Int32.ofInt 1)).toInt = b8_ V := rfl
  unfold gm_125
  rw [c65, Option.bind_some, if_pos (by omega)]
  rcases hw with e | e | e
  · rw [e, if_pos (show ¬ (1 : Int) = 3 by decide), if_pos (show ¬ (1 : Int) = 2 by decide)]
    obtain ⟨l1, l2⟩ := sl_125 (v := (V : Int)) c.1 v.1 hx (by omega) 100000 0 (by omega) (by omega)
    rw [if_pos rfl]
    rcases Vx with ⟨q, e⟩ | ⟨q, e⟩
    · have l1 : gm_125_52 100000 x V 0 s = _ := l1 x (by omega) hx (by rw [e])
      rw [NC_a h7 A, decide_eq_true rfl] at l1
      rw [decide_eq_true q]
      exact l1
    · have l2 : gm_125_52 100000 x V 0 s = _ := l2 fun o h1 h2 h3 => by
        have : 0 < 2 ^ o := Nat.pow_pos (by omega)
        omega
      rw [decide_eq_false q]
      exact l2
  · rw [e, if_pos (show ¬ (2 : Int) = 3 by decide), if_neg (show ¬ ¬ (2 : Int) = 2 from fun t => t rfl), sp_230, Option.bind_some, if_pos (show -2147483648 ≤ bc_ (V : Int) ∧ bc_ (V : Int) ≤ 2147483647 by omega), if_pos br, if_neg (by decide)]
  · rw [e, if_neg (show ¬ ¬ (3 : Int) = 3 from fun t => t rfl), e8, if_pos (by omega), if_pos (by omega), if_neg (by decide)]
theorem sl_110a (h : QS f R C n pf L tb s) (h7 : f 2 = 7) (A : ALK f R C) {w : Int} (hw : w = 1 ∨ w = 2 ∨ w = 3) : ∀ (m j : Nat), 8 < m + j → j ≤ 8 → gm_110_49 m w (if w = 1 then KD f R C 0 j else 0) j s = some (if w = 1 then KD f R C 0 8 else 0, s) := by
  intro m
  induction m with
  | zero => intro j h; omega
  | succ m ih =>
    intro j hh hj
    by_cases q : j = 8
    · rw [gm_110_49, if_pos (by omega), if_pos (by omega), q]
    · have ce : ((j : Int) + 1) = ((j + 1 : Nat) : Int) := rfl
      rw [gm_110_49, if_pos (by omega), if_neg (by omega), qs_la h h7 A (show j < 8 by omega) hw, Option.bind_some]
      unfold gm_110_67
      have i := ih (j + 1) (by omega) (by omega)
      by_cases w1 : w = 1
      · rw [if_pos w1] at i ⊢
        have ek : KD f R C 0 (j + 1) = KD f R C 0 j + bi (0 < NC f R C 0 j) := rfl
        rw [if_pos w1]
        by_cases y : 0 < NC f R C 0 j
        · have eb : bi (0 < NC f R C 0 j) = 1 := if_pos y
          rw [ek, eb] at i
          rw [decide_eq_true y, if_neg (show ¬ gb (true, s).1 = 0 from (by decide : ¬ gb true = 0)), ce]
          exact i
        · have eb : bi (0 < NC f R C 0 j) = 0 := if_neg y
          rw [ek, eb, Int.add_zero] at i
          rw [decide_eq_false y, if_pos (show gb (false, s).1 = 0 from rfl), ce]
          exact i
      · rw [if_neg w1] at i ⊢
        rw [if_neg w1, if_pos (show gb (false, s).1 = 0 from rfl), ce]
        exact i
theorem ulk_a {f : Nat → Int} {R C : Nat} (A : ALK f R C) : ulk f C (R * C) = 0 := by
  unfold ulk
  exact sg_z fun k hk => if_pos (A k hk)
theorem qs_apart (h : QS f R C n pf L tb s) (h7 : f 2 = 7) (A : ALK f R C) {w : Nat} (hw : w ≤ 3) : gm_110 w s = some (if w = 1 then KD f R C 0 8 else 0, s) := by
  obtain ⟨c, v⟩ := id h
  have T : TT f := ⟨by rw [h7]; rfl, by rw [h7]; rfl⟩
  have hRC := RC_96 v.1.1.2.2.1 v.1.1.2.2.2
  have m := c.1
  have e6 : s.1 1 6 = f 2 := m.2.2.1
  have c0 := sp_56 (s := s) (a := 1) (by decide +kernel) 0 (by omega) (by rw [e6]; exact v.1.2.1)
  have c1 := sp_56 (s := s) (a := 1) (by decide +kernel) 1 (by omega) (by rw [e6]; exact v.1.2.1)
  rw [e6] at c0 c1
  have c0 : gm_56 1 0 s = _ := c0
  have c1 : gm_56 1 1 s = _ := c1
  unfold gm_110
  rw [if_pos (by omega), if_neg (by omega), if_neg (by omega), c0, Option.bind_some, if_neg (fun q => (gbD s).mp q T.1)]
  show ((gm_56 1 1 s).bind _) = _
  rw [c1, Option.bind_some, if_pos (fun q => (gbD s).mp q T.2)]
  by_cases z : w = 0
  · have t1 := sl_64 m v.1 T 100000 0 (by omega) (by omega)
    have t1 : gm_64_9 100000 1 ((R * C : Nat) : Int) 0 0 s = _ := t1
    have g1 : gm_64 1 s = some (ulk f C (R * C), s) := by
      unfold gm_64
      rw [if_pos (by decide +kernel), sp_58 (MR_cz m v.1), Option.bind_some]
      exact t1
    rw [if_neg (show ¬ ¬ (w : Int) = 0 by omega)]
    show ((gm_64 1 s).bind _) = _
    rw [g1, Option.bind_some, ulk_a A, if_neg (by omega)]
  · rw [if_pos (show ¬ (w : Int) = 0 by omega)]
    have i := sl_110a h h7 A (w := (w : Int)) (by omega) 100000 0 (by omega) (by omega)
    have k0 : KD f R C 0 0 = 0 := rfl
    by_cases w1 : w = 1
    · rw [if_pos (show (w : Int) = 1 by omega), if_pos (show (w : Int) = 1 by omega), k0] at i
      rw [if_pos w1]
      exact i
    · rw [if_neg (show ¬ (w : Int) = 1 by omega), if_neg (show ¬ (w : Int) = 1 by omega)] at i
      rw [if_neg w1]
      exact i
end
