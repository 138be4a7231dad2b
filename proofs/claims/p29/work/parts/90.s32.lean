/-! THE REFERENCE's BALANCED TABLE: what finds and makesPlace do (s before, t after) -/
def or_ (s : gx_S) (r : Nat) : Int := sg (fun c => s.1 232 (9 * r + c)) 9
def oc_ (s : gx_S) (c : Nat) : Int := sg (fun r => s.1 232 (9 * r + c)) 8 - s.2 230 c
/-- the entry is free, not fixed, and of the table -/
def mv_ (s : gx_S) (j : Nat) : Prop := s.1 233 j = 0 ∧ 0 < s.2 225 j ∧ ((j / 9 : Nat) : Int) < s.1 215 17 ∧ ((j % 9 : Nat) : Int) < s.1 215 18
/-- only on, seen and filled change; seen grows; columns seen before and entries fixed or not free stay -/
def fo (s t : gx_S) : Prop := (∀ k j, k ≠ 232 → k ≠ 235 → t.1 k j = s.1 k j) ∧ (∀ k j, k ≠ 230 → t.2 k j = s.2 k j) ∧ (∀ c, c < 9 → s.1 235 c = 1 → t.1 235 c = 1 ∧ t.2 230 c = s.2 230 c ∧ ∀ r, r < 8 → t.1 232 (9 * r + c) = s.1 232 (9 * r + c)) ∧ ∀ j, j < 72 → t.1 232 j = s.1 232 j ∨ mv_ s j
/-- on and filled stay -/
def fs (s t : gx_S) : Prop := (∀ k j, k ≠ 235 → t.1 k j = s.1 k j) ∧ t.2 = s.2 ∧ ∀ c, c < 9 → s.1 235 c = 1 → t.1 235 c = 1
theorem fs_rf (s : gx_S) : fs s s := ⟨fun _ _ _ => rfl, rfl, fun _ _ h => h⟩
theorem fs_tr {s t u : gx_S} (a : fs s t) (b : fs t u) : fs s u := ⟨fun k j h => (b.1 k j h).trans (a.1 k j h), b.2.1.trans a.2.1, fun c hc h => b.2.2 c hc (a.2.2 c hc h)⟩
theorem fs_fo {s t : gx_S} (a : fs s t) : fo s t := ⟨fun k j _ h => a.1 k j h, fun k j _ => by rw [a.2.1], fun c hc h => ⟨a.2.2 c hc h, by rw [a.2.1], fun r _ => a.1 _ _ (by omega)⟩, fun j _ => .inl (a.1 _ _ (by omega))⟩
theorem fo_tr {s t u : gx_S} (a : fo s t) (b : fo t u) : fo s u := by
  refine ⟨fun k j h1 h2 => (b.1 k j h1 h2).trans (a.1 k j h1 h2), fun k j h => (b.2.1 k j h).trans (a.2.1 k j h), fun c hc h => ?_, fun j hj => ?_⟩
  · obtain ⟨a1, a2, a3⟩ := a.2.2.1 c hc h
    obtain ⟨b1, b2, b3⟩ := b.2.2.1 c hc a1
    exact ⟨b1, b2.trans a2, fun r hr => (b3 r hr).trans (a3 r hr)⟩
  · rcases a.2.2.2 j hj with x | x
    · rcases b.2.2.2 j hj with y | y
      · exact .inl (y.trans x)
      · unfold mv_ at y
        rw [a.1 233 j (by omega) (by omega), a.2.1 225 j (by omega), a.1 215 17 (by omega) (by omega), a.1 215 18 (by omega) (by omega)] at y
        exact .inr y
    · exact .inr x
theorem RK_fs {s t : gx_S} {R m : Nat} (K : RK s R m) (a : fs s t) (h : ∀ c, c < 9 → t.1 235 c = 0 ∨ t.1 235 c = 1) : RK t R m := by
  obtain ⟨k1, k2, k3, k4, k5, k6⟩ := K
  refine ⟨fun j hj => ?_, fun c hc => ⟨h c hc, ?_⟩, ?_, ?_, k5, k6⟩
  · rw [a.1 232 j (by omega), a.1 233 j (by omega), a.2.1, a.1 215 17 (by omega), a.1 215 18 (by omega)]
    exact k1 j hj
  · rw [a.2.1]
    exact (k2 c hc).2
  · rw [a.1 215 17 (by omega)]
    exact k3
  · rw [a.1 215 18 (by omega)]
    exact k4
/-- put and off: sums of rows and columns -/
theorem put_s {s : gx_S} {r c : Nat} (hr : r < 8) (hc : c < 9) (h : s.1 232 (9 * r + c) = 0) : (∀ k, or_ (put s r c) k = or_ s k + if k = r then 1 else 0) ∧ ∀ k, k < 9 → oc_ (put s r c) k = oc_ s k := by
  have z : ∀ j, (put s r c).1 232 j = if j = 9 * r + c then 1 else s.1 232 j := fun j => by
    show (if _ then _ else _) = _
    by_cases e : j = 9 * r + c
    · rw [if_pos ⟨rfl, e⟩, if_pos e]
    · rw [if_neg (fun h => e h.2), if_neg e]
  have y : ∀ j, (put s r c).2 230 j = if j = c then s.2 230 c + 1 else s.2 230 j := fun j => by
    show (if _ then _ else _) = _
    by_cases e : j = c
    · rw [if_pos ⟨rfl, e⟩, if_pos e]
    · rw [if_neg (fun h => e h.2), if_neg e]
      rfl
  refine ⟨fun k => ?_, fun k hk => ?_⟩
  · unfold or_
    by_cases e : k = r
    · rw [if_pos e, sg_updn (f := fun c => s.1 232 (9 * k + c)) (i := c) (x := 1) hc (by
        show (put s r c).1 232 (9 * k + c) = s.1 232 (9 * k + c) + 1
        rw [z, e, if_pos rfl, h]
        rfl) (fun d h1 h2 => by
        show (put s r c).1 232 (9 * k + d) = s.1 232 (9 * k + d)
        rw [z, if_neg (by omega)])]
    · rw [if_neg e, sg_eq (g := fun c => s.1 232 (9 * k + c)) fun d h1 => by
        show (put s r c).1 232 (9 * k + d) = s.1 232 (9 * k + d)
        rw [z, if_neg (by omega)]]
      omega
  · unfold oc_
    rw [y]
    by_cases e : k = c
    · rw [if_pos e, e, sg_updn (f := fun r => s.1 232 (9 * r + c)) (i := r) (x := 1) hr (by
        show (put s r c).1 232 (9 * r + c) = s.1 232 (9 * r + c) + 1
        rw [z, if_pos rfl, h]
        rfl) (fun d h1 h2 => by
        show (put s r c).1 232 (9 * d + c) = s.1 232 (9 * d + c)
        rw [z, if_neg (by omega)])]
      omega
    · rw [if_neg e, sg_eq (f := fun x => (put s r c).1 232 (9 * x + k)) (g := fun r => s.1 232 (9 * r + k)) fun d h1 => by
        show (put s r c).1 232 (9 * d + k) = s.1 232 (9 * d + k)
        rw [z, if_neg (by omega)]]
theorem off_s {s : gx_S} {r c : Nat} (hr : r < 8) (hc : c < 9) (h : s.1 232 (9 * r + c) = 1) : (∀ k, or_ (off1 s r c) k = or_ s k - if k = r then 1 else 0) ∧ ∀ k, k < 9 → oc_ (off1 s r c) k = oc_ s k := by
  have z : ∀ j, (off1 s r c).1 232 j = if j = 9 * r + c then 0 else s.1 232 j := fun j => by
    show (if _ then _ else _) = _
    by_cases e : j = 9 * r + c
    · rw [if_pos ⟨rfl, e⟩, if_pos e]
    · rw [if_neg (fun h => e h.2), if_neg e]
  have y : ∀ j, (off1 s r c).2 230 j = if j = c then s.2 230 c - 1 else s.2 230 j := fun j => by
    show (if _ then _ else _) = _
    by_cases e : j = c
    · rw [if_pos ⟨rfl, e⟩, if_pos e]
    · rw [if_neg (fun h => e h.2), if_neg e]
      rfl
  refine ⟨fun k => ?_, fun k hk => ?_⟩
  · unfold or_
    by_cases e : k = r
    · rw [if_pos e, sg_updn (f := fun c => s.1 232 (9 * k + c)) (i := c) (x := -1) hc (by
        show (off1 s r c).1 232 (9 * k + c) = s.1 232 (9 * k + c) + -1
        rw [z, e, if_pos rfl, h]
        rfl) (fun d h1 h2 => by
        show (off1 s r c).1 232 (9 * k + d) = s.1 232 (9 * k + d)
        rw [z, if_neg (by omega)])]
      rfl
    · rw [if_neg e, sg_eq (g := fun c => s.1 232 (9 * k + c)) fun d h1 => by
        show (off1 s r c).1 232 (9 * k + d) = s.1 232 (9 * k + d)
        rw [z, if_neg (by omega)]]
      omega
  · unfold oc_
    rw [y]
    by_cases e : k = c
    · rw [if_pos e, e, sg_updn (f := fun r => s.1 232 (9 * r + c)) (i := r) (x := -1) hr (by
        show (off1 s r c).1 232 (9 * r + c) = s.1 232 (9 * r + c) + -1
        rw [z, if_pos rfl, h]
        rfl) (fun d h1 h2 => by
        show (off1 s r c).1 232 (9 * d + c) = s.1 232 (9 * d + c)
        rw [z, if_neg (by omega)])]
      omega
    · rw [if_neg e, sg_eq (f := fun x => (off1 s r c).1 232 (9 * x + k)) (g := fun r => s.1 232 (9 * r + k)) fun d h1 => by
        show (off1 s r c).1 232 (9 * d + k) = s.1 232 (9 * d + k)
        rw [z, if_neg (by omega)]]
