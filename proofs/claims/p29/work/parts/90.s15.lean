/-! THE CLASS's TURN of a way: a node's measure; what a turn changes -/
theorem sg_updn {f g : Nat → Int} {i n : Nat} {x : Int} (hi : i < n) (hg : g i = f i + x) (ho : ∀ c, c < n → c ≠ i → g c = f c) : sg g n = sg f n + x := by
  have a : sg g n = sg (fun c => f c + if c = i then x else 0) n := sg_eq fun c hc => by
    by_cases e : c = i
    · rw [e, if_pos rfl]; exact hg
    · rw [if_neg e]
      have := ho c hc e
      omega
  have b := sg_upd (f := fun _ => 0) (g := fun c => if c = i then x else 0) (i := i) (x := x) (by show (if i = i then x else 0) = 0 + x; rw [if_pos rfl]; omega) (fun c hc => if_neg hc) hi
  rw [a, sg_add, b, sg_0 (f := fun _ => 0) fun _ _ => rfl]
  omega
def ph (s : gx_S) (v : Nat) : Int := if v < 8 then sg (fun c => s.1 8 (9 * v + c)) 9 else if v < 17 then s.1 11 (v - 8) - sg (fun r => s.1 8 (9 * r + (v - 8))) 8 else - sg (fun c => s.1 11 c) 9
theorem ph_w8 {s : gx_S} {r0 c0 : Nat} {x d : Int} (hr : r0 < 8) (hc : c0 < 9) (hx : x = s.1 8 (9 * r0 + c0) + d) (v : Nat) : ph (gw1 s 8 (9 * r0 + c0) x) v = ph s v + (if v = r0 then d else 0) - (if v = 8 + c0 then d else 0) := by
  have z11 : ∀ j, (gw1 s 8 (9 * r0 + c0) x).1 11 j = s.1 11 j := fun j => by rw [gw1_1, if_neg (by omega)]
  have z8 : ∀ j, (gw1 s 8 (9 * r0 + c0) x).1 8 j = if j = 9 * r0 + c0 then x else s.1 8 j := fun j => by
    rw [gw1_1]
    by_cases e : j = 9 * r0 + c0
    · rw [if_pos ⟨rfl, e⟩, if_pos e]
    · rw [if_neg (fun h => e h.2), if_neg e]
  unfold ph
  by_cases h1 : v < 8
  · rw [if_pos h1, if_pos h1, if_neg (show ¬ v = 8 + c0 by omega)]
    by_cases e : v = r0
    · rw [if_pos e, sg_updn (f := fun c => s.1 8 (9 * v + c)) (i := c0) (x := d) hc (by
        show (gw1 s 8 (9 * r0 + c0) x).1 8 (9 * v + c0) = s.1 8 (9 * v + c0) + d
        rw [z8, e, if_pos rfl, hx]) (fun c h2 h3 => by
        show (gw1 s 8 (9 * r0 + c0) x).1 8 (9 * v + c) = s.1 8 (9 * v + c)
        rw [z8, if_neg (by omega)])]
      omega
    · rw [if_neg e, sg_eq (g := fun c => s.1 8 (9 * v + c)) fun c h2 => by
        show (gw1 s 8 (9 * r0 + c0) x).1 8 (9 * v + c) = s.1 8 (9 * v + c)
        rw [z8, if_neg (by omega)]]
      omega
  · rw [if_neg h1, if_neg h1, if_neg (show ¬ v = r0 by omega)]
    by_cases h2 : v < 17
    · rw [if_pos h2, if_pos h2, z11]
      by_cases e : v = 8 + c0
      · rw [if_pos e, sg_updn (f := fun r => s.1 8 (9 * r + (v - 8))) (i := r0) (x := d) hr (by
          show (gw1 s 8 (9 * r0 + c0) x).1 8 (9 * r0 + (v - 8)) = s.1 8 (9 * r0 + (v - 8)) + d
          rw [z8, show v - 8 = c0 by omega, if_pos rfl, hx]) (fun c h2 h3 => by
          show (gw1 s 8 (9 * r0 + c0) x).1 8 (9 * c + (v - 8)) = s.1 8 (9 * c + (v - 8))
          rw [z8, if_neg (by omega)])]
        omega
      · rw [if_neg e, sg_eq (g := fun r => s.1 8 (9 * r + (v - 8))) fun c h3 => by
          show (gw1 s 8 (9 * r0 + c0) x).1 8 (9 * c + (v - 8)) = s.1 8 (9 * c + (v - 8))
          rw [z8, if_neg (by omega)]]
        omega
    · rw [if_neg h2, if_neg h2, if_neg (show ¬ v = 8 + c0 by omega), sg_eq (g := fun c => s.1 11 c) fun c _ => z11 c]
      omega
theorem ph_w11 {s : gx_S} {c0 : Nat} {x d : Int} (hc : c0 < 9) (hx : x = s.1 11 c0 + d) {v : Nat} (hv : v < 18) : ph (gw1 s 11 c0 x) v = ph s v + (if v = 8 + c0 then d else 0) - (if v = 17 then d else 0) := by
  have z8 : ∀ j, (gw1 s 11 c0 x).1 8 j = s.1 8 j := fun j => by rw [gw1_1, if_neg (by omega)]
  have z11 : ∀ j, (gw1 s 11 c0 x).1 11 j = if j = c0 then x else s.1 11 j := fun j => by
    rw [gw1_1]
    by_cases e : j = c0
    · rw [if_pos ⟨rfl, e⟩, if_pos e]
    · rw [if_neg (fun h => e h.2), if_neg e]
  unfold ph
  by_cases h1 : v < 8
  · rw [if_pos h1, if_pos h1, if_neg (show ¬ v = 8 + c0 by omega), if_neg (show ¬ v = 17 by omega), sg_eq (g := fun c => s.1 8 (9 * v + c)) fun c _ => z8 _]
    omega
  · rw [if_neg h1, if_neg h1]
    by_cases h2 : v < 17
    · rw [if_pos h2, if_pos h2, if_neg (show ¬ v = 17 by omega), sg_eq (f := fun r => (gw1 s 11 c0 x).1 8 (9 * r + (v - 8))) (g := fun r => s.1 8 (9 * r + (v - 8))) fun c _ => z8 _, z11]
      by_cases e : v = 8 + c0
      · rw [if_pos e, if_pos (show v - 8 = c0 by omega), show v - 8 = c0 by omega, hx]
        omega
      · rw [if_neg e, if_neg (show ¬ v - 8 = c0 by omega)]
        omega
    · rw [if_neg h2, if_neg h2, if_neg (show ¬ v = 8 + c0 by omega), if_pos (show v = 17 by omega), sg_updn (f := fun c => s.1 11 c) (i := c0) (x := d) hc (by
        show (gw1 s 11 c0 x).1 11 c0 = s.1 11 c0 + d
        rw [z11, if_pos rfl, hx]) (fun c h2 h3 => by
        show (gw1 s 11 c0 x).1 11 c = s.1 11 c
        rw [z11, if_neg h3])]
      omega
theorem arc_w8 {s : gx_S} {r0 c0 a b : Nat} {x : Int} (hr : r0 < 8) (hc : c0 < 9) (h : ¬ (a = r0 ∧ b = 8 + c0)) (h' : ¬ (a = 8 + c0 ∧ b = r0)) : arc (gw1 s 8 (9 * r0 + c0) x) a b ↔ arc s a b := by
  have zo : ∀ k j, k ≠ 8 → (gw1 s 8 (9 * r0 + c0) x).1 k j = s.1 k j := fun k j hk => by rw [gw1_1, if_neg (fun h => hk h.1)]
  unfold arc
  refine or_congr (and_congr_right fun h1 => and_congr_right fun h2 => and_congr_right fun h3 => ?_) (or_congr (and_congr_right fun h1 => and_congr_right fun h2 => and_congr_right fun h3 => ?_) (or_congr ?_ ?_))
  · rw [zo 7 _ (by omega), gw1_1, if_neg (by omega)]
  · rw [zo 7 _ (by omega), gw1_1, if_neg (by omega)]
  · rw [zo 11 _ (by omega), zo 10 _ (by omega)]
  · rw [zo 11 _ (by omega), zo 9 _ (by omega)]
theorem arc_w11 {s : gx_S} {c0 a b : Nat} {x : Int} (h : ¬ (a = 8 + c0 ∧ b = 17)) (h' : ¬ (a = 17 ∧ b = 8 + c0)) : arc (gw1 s 11 c0 x) a b ↔ arc s a b := by
  have zo : ∀ k j, k ≠ 11 → (gw1 s 11 c0 x).1 k j = s.1 k j := fun k j hk => by rw [gw1_1, if_neg (fun h => hk h.1)]
  unfold arc
  refine or_congr ?_ (or_congr ?_ (or_congr (and_congr_right fun h1 => and_congr_right fun h2 => and_congr_right fun h3 => ?_) (and_congr_right fun h1 => and_congr_right fun h2 => and_congr_right fun h3 => ?_)))
  · rw [zo 7 _ (by omega), zo 8 _ (by omega)]
  · rw [zo 7 _ (by omega), zo 8 _ (by omega)]
  · rw [zo 10 _ (by omega), gw1_1, if_neg (by omega)]
  · rw [zo 9 _ (by omega), gw1_1, if_neg (by omega)]
/-- what a turn may change: free entries' more, come within bounds -/
def tn (s t : gx_S) : Prop := t.2 = s.2 ∧ (∀ k j, k ≠ 8 → k ≠ 11 → t.1 k j = s.1 k j) ∧ (∀ j, j < 72 → t.1 8 j = s.1 8 j ∨ (s.1 7 j = 1 ∧ (t.1 8 j = 0 ∨ t.1 8 j = 1))) ∧ ∀ c, c < 9 → (s.1 11 c ≤ t.1 11 c ∨ s.1 9 c ≤ t.1 11 c) ∧ (t.1 11 c ≤ s.1 11 c ∨ t.1 11 c ≤ s.1 10 c)
theorem tn_rf (s : gx_S) : tn s s := ⟨rfl, fun _ _ _ _ => rfl, fun _ _ => .inl rfl, fun _ _ => ⟨.inl (Int.le_refl _), .inl (Int.le_refl _)⟩⟩
theorem tn_tr {s t u : gx_S} (a : tn s t) (b : tn t u) : tn s u := by
  refine ⟨b.1.trans a.1, fun k j h1 h2 => (b.2.1 k j h1 h2).trans (a.2.1 k j h1 h2), fun j hj => ?_, fun c hc => ?_⟩
  · have x := a.2.2.1 j hj
    have y := b.2.2.1 j hj
    have z := a.2.1 7 j (by omega) (by omega)
    omega
  · have x := a.2.2.2 c hc
    have y := b.2.2.2 c hc
    have z := a.2.1 9 c (by omega) (by omega)
    have z' := a.2.1 10 c (by omega) (by omega)
    omega
