/-! HOW DENSELY A CELL IS LIVED IN: the order of cells -/
def tpv (f : Nat → Int) (R C g k : Nat) : Int := if co f C 0 k < 8 then LV f R C g (co f C 0 k) * (if SO f R C g (co f C 0 k) (-1) false = 0 then 1 else wt f C g k) else 0
def unv (f : Nat → Int) (R C g k : Nat) : Int := if co f C 0 k < 8 then sg (fun y => PMV f R C g (co f C 0 k) y) 9 else 1
abbrev AHb (f : Nat → Int) (R C g a b : Nat) : Bool := decide ((tpv f R C g a * unv f R C g b = tpv f R C g b * unv f R C g a ∧ a < b) ∨ tpv f R C g b * unv f R C g a < tpv f R C g a * unv f R C g b)
def AHn (f : Nat → Int) (R C g a n : Nat) : Int := sg (fun b => gb (AHb f R C g b a)) n
/-- the cell at place k of the order -/
def QK (f : Nat → Int) (R C g k : Nat) (v : Int) : Prop := 0 ≤ v ∧ v < R * C ∧ AHn f R C g v.toNat (R * C) = k
theorem tot_0 {f : Nat → Int} {R C g x : Nat} (M : MP f R C) (h7 : f 2 = 7) (hg : g < 3) : (SO f R C g x (-1) (decide (SO f R C g x (-1) false = 0)) = 0 ↔ ¬ 0 < NC f R C 0 x) := by
  have e1 : SO f R C g x (-1) true = NC f R C 0 x := by
    unfold SO NC
    rw [if_pos (by rw [h7]; rfl)]
    refine sg_eq fun k hk => ?_
    unfold bi
    by_cases q : f (52 + 96 * 0 + 12 * (k / C) + k % C) = x
    · rw [if_pos ⟨.inr q, .inl rfl⟩, if_pos rfl, if_pos q]
    · rw [if_neg (fun t => by
        have := t.1
        omega), if_neg q]
  have r1 := SO_r M h7 hg x (-1) true
  have r0 := SO_r M h7 hg x (-1) false
  have le : SO f R C g x (-1) false ≤ 9 * NC f R C 0 x := by
    unfold SO NC
    rw [if_pos (by rw [h7]; rfl), ← sg_mul]
    refine sg_le fun k hk => ?_
    have w := wt_r M h7 hg hk false
    unfold bi
    by_cases q : f (52 + 96 * 0 + 12 * (k / C) + k % C) = x
    · rw [if_pos ⟨.inr q, .inl rfl⟩, if_pos q]
      omega
    · rw [if_neg (fun t => by
        have := t.1
        omega), if_neg q]
      omega
  by_cases z : SO f R C g x (-1) false = 0
  · rw [decide_eq_true z, e1]
    omega
  · rw [decide_eq_false z]
    omega
theorem NC_p {f : Nat → Int} {R C l k : Nat} (hb : f 2 / 2 ^ l % 2 = 1) (hk : k < R * C) : 0 < NC f R C l (f (52 + 96 * l + 12 * (k / C) + k % C)) := by
  unfold NC
  rw [if_pos hb]
  refine sg_pos (i := k) (fun _ _ => (bi_r _).1) hk ?_
  show (0 : Int) < bi (f (52 + 96 * l + 12 * (k / C) + k % C) = f (52 + 96 * l + 12 * (k / C) + k % C))
  unfold bi
  rw [if_pos rfl]
  decide
theorem unv_SO {f : Nat → Int} {R C g k : Nat} (M : MP f R C) (h7 : f 2 = 7) (q : co f C 0 k < 8) : unv f R C g k = SO f R C g (co f C 0 k) (-1) (decide (SO f R C g (co f C 0 k) (-1) false = 0)) := by
  unfold unv
  rw [if_pos q]
  exact SO_row M h7 _ _
theorem unv_p {f : Nat → Int} {R C g k : Nat} (M : MP f R C) (h7 : f 2 = 7) (hg : g < 3) (hk : k < R * C) : 0 < unv f R C g k := by
  by_cases q : co f C 0 k < 8
  · have r := SO_r M h7 hg (co f C 0 k) (-1) (decide (SO f R C g (co f C 0 k) (-1) false = 0))
    have t := tot_0 (x := co f C 0 k) M h7 hg
    have p := NC_p (R := R) (l := 0) (f := f) (by rw [h7]; rfl) hk
    rw [(co_s M h7 hk).1.1] at p
    rw [unv_SO M h7 q]
    omega
  · unfold unv
    rw [if_neg q]
    decide
