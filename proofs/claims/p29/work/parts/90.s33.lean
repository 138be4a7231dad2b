/-! THE REFERENCE's BALANCED TABLE: what finds and makesPlace answer -/
/-- what is seen newly is full, and the rows that are on there see all that they could use -/
def CLs (s t : gx_S) (R m : Nat) : Prop := ∀ c, c < m → s.1 235 c = 0 → t.1 235 c = 1 → s.2 229 c ≤ s.2 230 c ∧ ∀ r, r < R → s.1 232 (9 * r + c) = 1 → s.1 233 (9 * r + c) = 0 → ∀ d, d < m → can1 s r d → t.1 235 d = 1
theorem can1_fs {s t : gx_S} (a : fs s t) (r c : Nat) : can1 t r c ↔ can1 s r c := by
  unfold can1
  rw [a.2.1, a.1 233 _ (by omega), a.1 232 _ (by omega)]
theorem CLs_tr {s t u : gx_S} {R m : Nat} (hm : m ≤ 9) (a : fs s t) (b : fs t u) (ht : ∀ c, c < 9 → t.1 235 c = 0 ∨ t.1 235 c = 1) (x : CLs s t R m) (y : CLs t u R m) : CLs s u R m := by
  intro c hc h0 h1
  rcases ht c (by omega) with h | h
  · obtain ⟨y1, y2⟩ := y c hc h h1
    rw [a.2.1] at y1
    refine ⟨y1, fun r hr q1 q2 d hd q3 => y2 r hr ?_ ?_ d hd ((can1_fs a r d).mpr q3)⟩
    · rw [a.1 232 _ (by omega)]; exact q1
    · rw [a.1 233 _ (by omega)]; exact q2
  · obtain ⟨x1, x2⟩ := x c hc h0 h
    exact ⟨x1, fun r hr q1 q2 d hd q3 => b.2.2 d (by omega) (x2 r hr q1 q2 d hd q3)⟩
/-- finds(r): yes -/
def FT (s t : gx_S) (r R m : Nat) : Prop := fo s t ∧ RK t R m ∧ (∀ k, k < 8 → or_ t k = or_ s k + if k = r then 1 else 0) ∧ (∀ k, k < 9 → oc_ t k = oc_ s k) ∧ ∃ c0, c0 < m ∧ s.2 230 c0 < s.2 229 c0 ∧ ∀ k, k < 9 → t.2 230 k = s.2 230 k + if k = c0 then 1 else 0
/-- finds(r): no -/
def FF (s t : gx_S) (r R m : Nat) : Prop := fs s t ∧ RK t R m ∧ CLs s t R m ∧ ∀ c, c < m → can1 s r c → t.1 235 c = 1
/-- makesPlace(c): yes; s is the state before c is marked -/
def MT (s t : gx_S) (c R m : Nat) : Prop := fo s t ∧ RK t R m ∧ t.1 235 c = 1 ∧ (∀ k, k < 8 → or_ t k = or_ s k) ∧ (∀ k, k < 9 → oc_ t k = oc_ s k) ∧ (∀ r, r < 8 → s.1 232 (9 * r + c) = 0 → t.1 232 (9 * r + c) = 0) ∧ ∃ c0, c0 < m ∧ c0 ≠ c ∧ s.2 230 c0 < s.2 229 c0 ∧ ∀ k, k < 9 → t.2 230 k = s.2 230 k + (if k = c0 then 1 else 0) - if k = c then 1 else 0
/-- makesPlace(c): no; s is the state with c marked -/
def MN (s t : gx_S) (c R m : Nat) : Prop := fs s t ∧ RK t R m ∧ CLs s t R m ∧ ∀ r, r < R → s.1 232 (9 * r + c) = 1 → s.1 233 (9 * r + c) = 0 → ∀ d, d < m → can1 s r d → t.1 235 d = 1
/-- how many columns are unseen -/
def us (s : gx_S) : Int := sg (fun c => bi (s.1 235 c = 0)) 9
theorem us_mark {s : gx_S} {c : Nat} (hc : c < 9) (h : s.1 235 c = 0) : us (gw1 s 235 c 1) = us s - 1 := by
  have b1 : bi (s.1 235 c = 0) = 1 := if_pos h
  have z : ∀ j, (gw1 s 235 c 1).1 235 j = if j = c then 1 else s.1 235 j := fun j => by
    rw [gw1_1]
    by_cases e : j = c
    · rw [if_pos ⟨rfl, e⟩, if_pos e]
    · rw [if_neg (fun h => e h.2), if_neg e]
  have b0 : bi ((gw1 s 235 c 1).1 235 c = 0) = 0 := if_neg (by rw [z, if_pos rfl]; decide)
  have a := sg_updn (f := fun c => bi (s.1 235 c = 0)) (g := fun k => bi ((gw1 s 235 c 1).1 235 k = 0)) (i := c) (x := -1) hc (by
    show bi ((gw1 s 235 c 1).1 235 c = 0) = bi (s.1 235 c = 0) + -1
    rw [b0, b1]
    rfl) (fun k h1 h2 => by
    show bi ((gw1 s 235 c 1).1 235 k = 0) = bi (s.1 235 k = 0)
    unfold bi
    rw [z, if_neg h2])
  unfold us
  rw [a]
  rfl
