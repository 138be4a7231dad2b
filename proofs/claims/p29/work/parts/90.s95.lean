/-! NOBODY is lost: the lives, the moved -/
/-- by remainders: where there is no amount, nobody goes -/
theorem TB_Az {P : Nat → Int} {A : Nat → Nat → Int} (h : PA P A) {x y : Nat} (hx : x < 8) (hy : y < 9) (z : A x y = 0) : TB 0 P A x y = 0 := by
  obtain ⟨v, u, v1, u1, u2, u3, u4, u5⟩ := sp_41_0 (t := 74) (by decide +kernel) (cc_tf h)
  obtain ⟨v', w1, w2, w3, w4, w5, w6⟩ := sp_70 (t := 74) (by decide +kernel) (cc_tf h)
  have ev : v' = v := Option.some.inj (w1.symm.trans v1)
  rw [ev] at w4
  have a0 : am (cc P A) 74 x y = 0 := by rw [cc_am P A hy, z]
  have f0 : af (cc P A) 74 x y = 0 := by
    unfold af
    rw [a0, Int.mul_zero]
    split
    · rfl
    · exact Int.zero_ediv _
  have r0 : ar (cc P A) 74 x y = 0 := by
    unfold ar
    rw [a0, Int.mul_zero]
    split
    · rfl
    · exact Int.zero_emod _
  obtain ⟨y1, y2, y3, y4⟩ := (w4 x hx).2.2 y hy
  have e := u3 x y hx hy
  rw [gcn_z hy _ v (by rw [y3, r0]; omega), y4, f0] at e
  unfold TB
  rw [u1]
  exact e
theorem LV_n {f : Nat → Int} {R C g x : Nat} (M : MP f R C) (hg : g < 3) (hx : x < 8) (n : ¬ 0 < NC f R C 0 x) : LV f R C g x = 0 := by
  obtain ⟨p1, p2⟩ := PA_sh M hg
  have n0 := NC_nn f R C 0 x
  have l : L0 f R C g x = 0 := if_neg n
  have a : Ash f R C g 0 x = 0 := by
    unfold Ash
    rw [if_pos ⟨rfl, hx⟩, l]
    split <;> omega
  unfold LV
  rw [l, TB_Az p1 (by omega) (by omega) a]
  rfl
theorem LV_all {f : Nat → Int} {R C g : Nat} (M : MP f R C) (hg : g < 3) : sg (LV f R C g) 8 + ASf f R C g = sg (fun z => f (5 + 9 * g + z)) 9 := by
  obtain ⟨p1, p2⟩ := PA_sh M hg
  obtain ⟨l1, l2⟩ := L0_r M hg
  obtain ⟨t1, t2⟩ := TB_0 (md := 0) (.inl rfl) p1 (fun h => absurd h (by decide))
  have e := sg_add (L0 f R C g) (fun z => TB 0 (Psh f R C g) (Ash f R C g) 0 z) 8
  have a := t2 0 (by omega)
  have d : sg (fun z => TB 0 (Psh f R C g) (Ash f R C g) 0 z) 9 = sg (fun z => TB 0 (Psh f R C g) (Ash f R C g) 0 z) 8 + TB 0 (Psh f R C g) (Ash f R C g) 0 8 := rfl
  have n8 : TB 0 (Psh f R C g) (Ash f R C g) 0 8 = 0 := TB_Az p1 (by omega) (by omega) (p2 0 8 (by omega) (by omega) (by omega))
  have q0 : Psh f R C g 0 = UN f R C g - ASf f R C g := if_pos rfl
  have eL : sg (LV f R C g) 8 = sg (fun z => L0 f R C g z + TB 0 (Psh f R C g) (Ash f R C g) 0 z) 8 := rfl
  rw [q0] at a
  by_cases s : SHr f R C
  · have as0 : ASf f R C g = 0 := if_pos s
    have ex : ∃ z : Nat, z < 8 ∧ 0 < NC f R C 0 z := Classical.byContradiction fun q => by
      have : KD f R C 0 8 = 0 := sg_0 fun z hz => by
        unfold bi
        rw [if_neg (fun t => q ⟨z, hz, t⟩)]
      have := s.2
      omega
    obtain ⟨z, hz, nz⟩ := ex
    have Ann : ∀ y, y < 9 → 0 ≤ Ash f R C g 0 y := fun y hy => (p1.2.1 0 y (by omega) hy).1
    have tot : 0 < sg (fun y => Ash f R C g 0 y) 9 := by
      by_cases w : sg (L0 f R C g) 8 = 0
      · have q := sg_at (f := fun y => Ash f R C g 0 y) (n := 9) Ann z (by omega)
        have e : Ash f R C g 0 z = NC f R C 0 z := by
          unfold Ash
          rw [if_pos ⟨rfl, hz⟩, if_pos w]
        have q : Ash f R C g 0 z ≤ sg (fun y => Ash f R C g 0 y) 9 := q
        omega
      · have e : sg (fun y => Ash f R C g 0 y) 9 = sg (L0 f R C g) 8 := by
          show sg (fun y => Ash f R C g 0 y) 8 + Ash f R C g 0 8 = _
          rw [p2 0 8 (by omega) (by omega) (by omega), Int.add_zero]
          refine sg_eq fun y hy => ?_
          unfold Ash
          rw [if_pos ⟨rfl, hy⟩, if_neg w]
        have := sg_nn (f := L0 f R C g) (n := 8) l1
        omega
    rw [if_neg (by omega)] at a
    omega
  · have as0 : ASf f R C g = UN f R C g := if_neg s
    rw [as0] at a ⊢
    have a : sg (fun z => TB 0 (Psh f R C g) (Ash f R C g) 0 z) 9 = 0 := by
      rw [a]
      split <;> omega
    omega
theorem GV_all {f : Nat → Int} {R C g : Nat} (M : MP f R C) (h7 : f 2 = 7) (hg : g < 3) : sg (fun x => sg (fun y => GV f R C g x y) 9) 8 = sg (fun z => f (5 + 9 * g + z)) 9 - ASf f R C g := by
  obtain ⟨p1, p2⟩ := PA_mv M h7 hg
  obtain ⟨t1, t2⟩ := TB_0 (md := f 3) M.2.2.1 p1 (fun _ => p2)
  have e : sg (fun x => sg (fun y => GV f R C g x y) 9) 8 = sg (LV f R C g) 8 := sg_eq fun x hx => by
    have a : sg (fun y => GV f R C g x y) 9 = if sg (fun y => PMV f R C g x y) 9 ≤ 0 then 0 else LV f R C g x := t2 x hx
    rw [a]
    by_cases z : sg (fun y => PMV f R C g x y) 9 ≤ 0
    · rw [if_pos z]
      have s : sg (fun y => PMV f R C g x y) 9 = SO f R C g x (-1) (decide (SO f R C g x (-1) false = 0)) := SO_row M h7 x _
      have r := SO_r M h7 hg x (-1) (decide (SO f R C g x (-1) false = 0))
      exact (LV_n M hg hx ((tot_0 M h7 hg).mp (by omega))).symm
    · rw [if_neg z]
  have := LV_all M hg
  omega
/-! QUERIES: count -/
theorem sp_63 {s : gx_S} {f : Nat → Int} {R C : Nat} (m : MR s 1 f R C) (M : MP f R C) (l k : Nat) (hl : l < 3) (hk : k ≤ 8) : gm_63 1 l k s = some (KD f R C l k, s) := by
  have e : ∀ (n j : Nat), k < n + j → j ≤ k → gm_63_5 n 1 l k (KD f R C l j) j s = some (KD f R C l k, s) := by
    intro n
    induction n with
    | zero => intro j h; omega
    | succ n ih =>
      intro j h hj
      rw [gm_63_5, if_pos (by omega), if_pos (by omega)]
      by_cases q : j = k
      · rw [if_pos (by omega), q]
      · have ce : ((j : Int) + 1) = ((j + 1 : Nat) : Int) := rfl
        have n1 := NC_nn f R C l j
        have hRC := RC_96 M.1.2.2.1 M.1.2.2.2
        rw [← Int.natCast_mul] at n1
        rw [if_neg (by omega), sp_62g m M l j hl (by omega), Option.bind_some]
        show (if -2147483648 ≤ NC f R C l j ∧ NC f R C l j ≤ 2147483647 then (if NC f R C l j ≤ 0 then gm_63_24 (gm_63_5 n) 1 l k (KD f R C l j) j s else gm_63_24 (gm_63_5 n) 1 l k (KD f R C l j + 1) j s) else none) = _
        rw [if_pos (by omega)]
        unfold gm_63_24
        have st : KD f R C l (j + 1) = KD f R C l j + bi (0 < NC f R C l j) := rfl
        by_cases z : NC f R C l j ≤ 0
        · have b : bi (0 < NC f R C l j) = 0 := if_neg (by omega)
          rw [b, Int.add_zero] at st
          rw [if_pos z, ce, ← st]
          exact ih (j + 1) (by omega) (by omega)
        · have b : bi (0 < NC f R C l j) = 1 := if_pos (by omega)
          rw [b] at st
          rw [if_neg z, ce, ← st]
          exact ih (j + 1) (by omega) (by omega)
  unfold gm_63
  rw [if_pos (by decide +kernel)]
  exact e 100000 0 (by omega) (by omega)
