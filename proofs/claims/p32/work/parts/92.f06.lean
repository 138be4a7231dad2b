/-! WHAT FALLS TO CELLS, as the law checks it -/
/-- the map, who lives where (p) -/
def EL (δ : dS) (m a : Nat) (f : Nat → Int) (R C g p : Nat) : Prop := LM δ m a f R C ∧ AR δ 1 p 8 ∧ ∀ z, z < 8 → δ.I p z = LV f R C g z
section
variable {Ls : Nat} {xs : Nat → Int32} {f : Nat → Int} {R C : Nat} {m a g p n L : Nat} {pf : Nat → Nat → Int} {tb : Nat → Int} {δ : dS}
theorem dm_k {C k : Nat} : k / C * C + k % C = k := by rw [Nat.mul_comm]; exact Nat.div_add_mod k C
/-- a cell's share, in lowest terms -/
theorem sfc_ {s : gx_S} (M : MP f R C) (h7 : f 2 = 7) (hg : g < 3) {k : Nat} (hk : k < R * C) (Q : QS f R C n pf L tb s) {w : Int} (hw : w = 0 ∨ w = 1) : ∃ (u : gx_S) (T U d : Nat), QS f R C n pf L tb u ∧ tpv f R C g k = T ∧ unv f R C g k = U ∧ d = Nat.gcd T U ∧ (0 < d ∧ d ≤ U ∧ U ≤ 864 ∧ T ≤ 809919 ∧ 0 < U) ∧ gm_106 g ((k / C : Nat) : Int) ((k % C : Nat) : Int) w s = some (if ¬ w = 0 then ((U / d : Nat) : Int) else ((T / d : Nat) : Int), u) := by
  have r := tpv_r M h7 hg hk
  have up := unv_p M h7 hg hk
  obtain ⟨k1, k2⟩ := rc_k hk
  obtain ⟨T, hT⟩ : ∃ T : Nat, tpv f R C g k = T := ⟨(tpv f R C g k).toNat, by omega⟩
  obtain ⟨U, hU⟩ : ∃ U : Nat, unv f R C g k = U := ⟨(unv f R C g k).toNat, by omega⟩
  obtain ⟨u, u1, u2⟩ := qs_surface Q h7 (g := g) (y := k / C) (z := k % C) (w := w) hg k1 k2 hw
  rw [dm_k, hT, hU, Int.toNat_natCast, Int.toNat_natCast] at u1
  have U0 : 0 < U := by omega
  refine ⟨u, T, U, _, u2, hT, hU, rfl, ⟨Nat.gcd_pos_of_pos_right T U0, Nat.gcd_le_right T U0, by omega, by omega, U0⟩, ?_⟩
  rw [u1]
  by_cases q : ¬ w = 0
  · rw [if_pos q, if_pos q]
    rfl
  · rw [if_neg q, if_neg q]
    rfl
theorem sf_108 {K : Nat → Int → Nat → Int → Int → gx_S → dS → Option (Int × DS)} {x4 : Int} {k : Nat} {s : gx_S} (E : EL δ m a f R C g p) (hg : g < 3) (hk : k < R * C) (Q : QS f R C n pf L tb s) : ∃ u : gx_S, QS f R C n pf L tb u ∧ dm_255_108 Ls xs K m g p x4 k (tpv f R C g k) (unv f R C g k) s δ = K m g p x4 ((k + 1 : Nat) : Int) u δ := by
  obtain ⟨⟨⟨⟨-, o1, -⟩, ⟨-, i1, -⟩, -⟩, M, h7⟩, -⟩ := E
  have N96 := MP_N M
  have C0 : 0 < C := Nat.pos_of_ne_zero fun z => by rw [z, Nat.mul_zero] at hk; omega
  have C12 := M.1.2.2.2
  obtain ⟨u1, T, U, d, Q1, hT, hU, hd, ⟨d0, d1, d2, d3, d4⟩, g1⟩ := sfc_ M h7 hg hk Q (w := 0) (.inl rfl)
  obtain ⟨u2, T', U', d', Q2, hT', hU', hd', -, g2⟩ := sfc_ M h7 hg hk Q1 (w := 1) (.inr rfl)
  have eT : T' = T := by omega
  have eU : U' = U := by omega
  rw [eT, eU] at hd' g2
  rw [← hd] at hd'
  rw [hd'] at g2
  rw [if_neg (fun t => t rfl)] at g1
  rw [if_pos (by decide)] at g2
  have dv := divisor_ (L0 := Ls) (xs := xs) (a := T) (b := U) s δ (by omega) (by omega)
  rw [← hd] at dv
  have e1 : (k : Int) / (C : Int) = ((k / C : Nat) : Int) := rfl
  have e2 : (k : Int) % (C : Int) = ((k % C : Nat) : Int) := rfl
  have e3 : (T : Int) / (d : Int) = ((T / d : Nat) : Int) := rfl
  have e4 : (U : Int) / (d : Int) = ((U / d : Nat) : Int) := rfl
  have y1 := Nat.div_le_self T d
  have y2 := Nat.div_le_self U d
  obtain ⟨Td, hTd⟩ : ∃ x, x = T / d := ⟨_, rfl⟩
  obtain ⟨Ud, hUd⟩ : ∃ x, x = U / d := ⟨_, rfl⟩
  rw [← hTd] at y1 e3 g1
  rw [← hUd] at y2 e4 g2
  refine ⟨u2, Q2, ?_⟩
  rw [hT, hU]
  unfold dm_255_108
  rw [dv, Option.bind_some]
  dsimp only
  rw [if_pos o1, i1, e1, e2, if_pos (by omega), g1, Option.bind_some]
  dsimp only
  rw [e3, e4, if_pos (by omega), if_pos (by omega), if_pos (by omega), if_neg (fun t => t rfl), g2, Option.bind_some]
  dsimp only
  rw [if_pos (by omega), if_pos (by omega), if_pos (by omega), if_pos rfl]
  rfl
theorem sf_16 : ∀ (q k : Nat) (s : gx_S), R * C < q + k → k ≤ R * C → EL δ m a f R C g p → g < 3 → QS f R C n pf L tb s → ∃ u : gx_S, QS f R C n pf L tb u ∧ dm_255_16 Ls xs q m g p (R * C : Nat) k s δ = dm_255_192 Ls xs 100000 m g (R * C : Nat) δ.n 0 u (δ.al 2 (R * C)) := by
  intro q
  induction q with
  | zero => intro k s h; omega
  | succ q ih =>
    intro k s h hk E hg Q
    have E' := E
    obtain ⟨⟨⟨⟨-, o1, ⟨c1, c2, c3⟩, -, ⟨e1, e2⟩, -, h4, h5, h6, h7', h8, -⟩, -, v1, -, v3, -, v5, -⟩, M, h7⟩, b1, b2⟩ := E
    have N96 := MP_N M
    rw [dm_255_16, if_pos (by omega), if_pos (by omega)]
    by_cases e : k = R * C
    · refine ⟨s, Q, ?_⟩
      rw [if_pos (by omega), if_pos (by omega), Option.bind_some, Int.toNat_natCast]
    · have hk' : k < R * C := by omega
      obtain ⟨u1, Q1, U1⟩ := sf_108 (Ls := Ls) (xs := xs) (K := dm_255_16 Ls xs q) (x4 := (R * C : Nat)) E' hg hk' Q
      obtain ⟨u, Q2, U2⟩ := ih (k + 1) u1 (by omega) (by omega) E' hg Q1
      refine ⟨u, Q2, ?_⟩
      rw [← U2, ← U1]
      have r := MP_cl (l := 0) M h7 (by omega) hk'
      rw [if_neg (by decide)] at r
      have r2 := MP_cl (l := 2) M h7 (by omega) hk'
      rw [if_pos rfl] at r2
      have cd : co f C 0 k = (f (52 + 96 * 0 + 12 * (k / C) + k % C)).toNat := rfl
      have cd2 : co f C 2 k = (f (52 + 96 * 2 + 12 * (k / C) + k % C)).toNat := rfl
      have vk := v1 k hk'
      have vk2 := v3 k hk'
      obtain ⟨z, hz⟩ : ∃ z : Nat, f (52 + 96 * 0 + 12 * (k / C) + k % C) = z := ⟨(f (52 + 96 * 0 + 12 * (k / C) + k % C)).toNat, by omega⟩
      obtain ⟨y, hy⟩ : ∃ y : Nat, f (52 + 96 * 2 + 12 * (k / C) + k % C) = y := ⟨(f (52 + 96 * 2 + 12 * (k / C) + k % C)).toNat, by omega⟩
      rw [hz] at r cd vk
      rw [hy] at r2 cd2 vk2
      rw [Int.toNat_natCast] at cd cd2
      rw [if_neg (by omega), if_pos o1, h4, Option.bind_some, if_pos (AR_A c1), if_pos (AR_I c1 hk'), Int.toNat_natCast, vk, if_pos (by omega)]
      by_cases q8 : z < 8
      · have tp : tpv f R C g k = LV f R C g z * (if SO f R C g z (-1) false = 0 then 1 else f (32 + 4 * g + y)) := by
          unfold tpv wt
          rw [cd, cd2, if_pos q8]
        have un : unv f R C g k = SO f R C g z (-1) (decide (SO f R C g z (-1) false = 0)) := by
          rw [unv_SO M h7 (by rw [cd]; exact q8), cd]
        have sr := SO_r M h7 hg z (-1)
        have wr := M.2.2.2.2.2.1 (4 * g + y) (by omega)
        rw [← Nat.add_assoc] at wr
        rw [if_neg (by omega), sum_ (o := (z : Int)) (z := -1) (w := 0) false s E'.1 hg (by omega) (by omega) (if_neg (by decide)).symm, Option.bind_some]
        dsimp only
        have sr0 := sr false
        rw [if_pos (by omega)]
        by_cases q0 : SO f R C g z (-1) false = 0
        · rw [if_pos q0, Int.mul_one] at tp
          rw [decide_eq_true q0] at un
          have sr1 := sr true
          rw [if_neg (fun t => t q0)]
          unfold dm_255_62
          rw [if_pos (AR_A b1), if_pos (AR_I b1 q8), if_pos (by decide), if_neg (by decide), Int.toNat_natCast, b2 z q8]
          unfold dm_255_91
          rw [if_pos (by decide), sum_ (o := (z : Int)) (z := -1) (w := 1) true s E'.1 hg (by omega) (by omega) (if_pos rfl).symm, Option.bind_some]
          dsimp only
          rw [if_pos (by omega), Int.mul_one, tp, un]
        · rw [if_neg q0] at tp
          rw [decide_eq_false q0] at un
          rw [if_pos q0]
          unfold dm_255_62
          rw [if_pos (AR_A b1), if_pos (AR_I b1 q8), if_pos (by decide), if_pos rfl, if_pos o1, h8, Option.bind_some, if_pos (AR_A e1), if_pos (AR_I e1 hg), Int.toNat_natCast, (e2 g hg).2, Option.bind_some, h6, Option.bind_some, if_pos (AR_A c3), if_pos (AR_I c3 hk'), if_pos (AR_A (e2 g hg).1), Int.toNat_natCast, vk2, if_pos (AR_I (e2 g hg).1 (by omega)), Int.toNat_natCast, Int.toNat_natCast, b2 z q8, v5 g y hg (by omega)]
          unfold dm_255_91
          rw [if_pos (by omega), sum_ (o := (z : Int)) (z := -1) (w := 0) false s E'.1 hg (by omega) (by omega) (if_neg (by decide)).symm, Option.bind_some]
          dsimp only
          rw [if_pos (by omega), tp, un]
      · have tp : tpv f R C g k = 0 := if_neg (by rw [cd]; exact q8)
        have un : unv f R C g k = 1 := if_neg (by rw [cd]; exact q8)
        rw [if_pos (by omega), tp, un]
end
