/-! THE REFERENCE: coarse parts -/
theorem dsc_r_ {f : Nat → Int} {R C y : Nat} (M : MP f R C) (hy : y < 9) : 0 ≤ dsc f y ∧ dsc f y ≤ 4 := by
  have m := M.2.2.2.2.2.2.1
  unfold dsc
  by_cases e : y = 8
  · rw [if_pos e]
    omega
  · rw [if_neg e]
    have := m y (by omega)
    omega
theorem sp_186 {s : gx_S} {f : Nat → Int} {y : Nat} (e : s.1 216 = f) (hy : y < 9) : gm_186 y s = some (dsc f y, s) := by
  unfold gm_186 dsc
  rw [if_pos (by omega)]
  by_cases q : y = 8
  · rw [if_neg (by omega), if_pos q]
  · rw [if_pos (by omega), if_neg q, if_pos (by omega), show (44 + (y : Int)).toNat = 44 + y by omega, e]
/-- the parts by district, up to column y -/
def dpt (f : Nat → Int) (A : Nat → Int) (d y : Nat) : Int := sg (fun y => if dsc f y = (d : Int) then A y else 0) y
theorem sl_187_91 {k : Int → gx_S → Option gx_S} {x : Nat} (hx : x < 8) : ∀ (n d : Nat) (s : gx_S), 5 < n + d → d ≤ 5 → ∃ u : gx_S, gm_187_91 k n x d s = k ((x + 1 : Nat) : Int) u ∧ u.2 = s.2 ∧ (∀ k i, k ≠ 222 → u.1 k i = s.1 k i) ∧ (∀ j, d ≤ j → j < 5 → u.1 222 (9 * x + j) = s.1 237 j) ∧ ∀ i, ¬ (9 * x + d ≤ i ∧ i < 9 * x + 5) → u.1 222 i = s.1 222 i := by
  intro n
  induction n with
  | zero => intro d s h; omega
  | succ n ih =>
    intro d s h hd
    rw [gm_187_91, if_pos (by omega)]
    by_cases q : d = 5
    · rw [if_pos (by omega)]
      exact ⟨s, rfl, rfl, fun _ _ _ => rfl, fun j h1 h2 => by omega, fun _ _ => rfl⟩
    · have ce : ((d : Int) + 1) = ((d + 1 : Nat) : Int) := rfl
      have i1 : ((9 * (x : Int) + (d : Int))).toNat = 9 * x + d := by omega
      have i2 : ((d : Int)).toNat = d := by omega
      rw [if_neg (by omega), sp_160, Option.bind_some, if_pos (by omega)]
      show ∃ u : gx_S, (if 0 ≤ (9 * (x : Int) + (d : Int)) ∧ (9 * (x : Int) + (d : Int)) < 72 then gm_187_91 k n x ((d : Int) + 1) (gw1 s 222 ((9 * (x : Int) + (d : Int))).toNat (s.1 237 ((d : Int)).toNat)) else none) = _ ∧ _
      rw [if_pos (by omega), i1, i2, ce]
      obtain ⟨u, u1, u2, u3, u4, u5⟩ := ih (d + 1) (gw1 s 222 (9 * x + d) (s.1 237 d)) (by omega) (by omega)
      refine ⟨u, u1, u2, fun k i h1 => by rw [u3 k i h1, gw1_1, if_neg (fun x => h1 x.1)], fun j h1 h2 => ?_, fun i h1 => ?_⟩
      · by_cases e : j = d
        · rw [e, u5 _ (by omega), gw1_1, if_pos ⟨rfl, rfl⟩]
        · rw [u4 j (by omega) h2, gw1_1, if_neg (by omega)]
      · rw [u5 i (by omega), gw1_1, if_neg (by omega)]
theorem sl_187_41 {f : Nat → Int} {R C x : Nat} {A : Nat → Int} {k : Int → gx_S → Option gx_S} (M : MP f R C) (hx : x < 8) : ∀ (n y : Nat) (s : gx_S), 9 < n + y → y ≤ 9 → s.1 216 = f → (∀ j, y ≤ j → j < 9 → s.1 222 (9 * x + j) = A j) → (∀ d, d < 5 → s.1 237 d = dpt f A d y) → ∃ u : gx_S, gm_187_41 k n x y s = gm_187_91 k 100000 x 0 u ∧ u.2 = s.2 ∧ (∀ k i, k ≠ 222 → k ≠ 237 → u.1 k i = s.1 k i) ∧ (∀ d, d < 5 → u.1 237 d = dpt f A d 9) ∧ ∀ i, ¬ (9 * x + y ≤ i ∧ i < 9 * x + 9) → u.1 222 i = s.1 222 i := by
  intro n
  induction n with
  | zero => intro y s h; omega
  | succ n ih =>
    intro y s h hy ef hA hd
    rw [gm_187_41, if_pos (by omega)]
    by_cases q : y = 9
    · rw [if_pos (by omega)]
      exact ⟨s, rfl, rfl, fun _ _ _ _ => rfl, fun d h1 => by rw [hd d h1, q], fun _ _ => rfl⟩
    · have ce : ((y : Int) + 1) = ((y + 1 : Nat) : Int) := rfl
      have i1 : ((9 * (x : Int) + (y : Int))).toNat = 9 * x + y := by omega
      have dr := dsc_r_ M (show y < 9 by omega)
      obtain ⟨e, he⟩ : ∃ e : Nat, dsc f y = e := ⟨_, (Int.toNat_of_nonneg dr.1).symm⟩
      rw [he] at dr
      have i2 : ((e : Int)).toNat = e := by omega
      rw [if_neg (by omega), sp_186 ef (show y < 9 by omega), Option.bind_some, he, if_pos (by omega), sp_160, Option.bind_some]
      show ∃ u : gx_S, (if 0 ≤ (9 * (x : Int) + (y : Int)) ∧ (9 * (x : Int) + (y : Int)) < 72 then ((gm_160 x y (gw1 s 237 ((e : Int)).toNat ((s.1 237 ((e : Int)).toNat) + (s.1 222 ((9 * (x : Int) + (y : Int))).toNat)))).bind fun q16 => if 0 ≤ q16.1 ∧ q16.1 < 72 then gm_187_41 k n x ((y : Int) + 1) (gw1 q16.2 222 (q16.1).toNat 0) else none) else none) = _ ∧ _
      rw [if_pos (by omega), sp_160, Option.bind_some]
      show ∃ u : gx_S, (if 0 ≤ (9 * (x : Int) + (y : Int)) ∧ (9 * (x : Int) + (y : Int)) < 72 then gm_187_41 k n x ((y : Int) + 1) (gw1 (gw1 s 237 ((e : Int)).toNat ((s.1 237 ((e : Int)).toNat) + (s.1 222 ((9 * (x : Int) + (y : Int))).toNat))) 222 ((9 * (x : Int) + (y : Int))).toNat 0) else none) = _ ∧ _
      rw [if_pos (by omega), i1, i2, ce, hA y (Nat.le_refl y) (by omega)]
      obtain ⟨t, ht⟩ : ∃ t, t = gw1 (gw1 s 237 e (s.1 237 e + A y)) 222 (9 * x + y) 0 := ⟨_, rfl⟩
      have to : ∀ k i, k ≠ 222 → k ≠ 237 → t.1 k i = s.1 k i := fun k i h1 h2 => by rw [ht, gw1_1, if_neg (by omega), gw1_1, if_neg (by omega)]
      have t2 : ∀ i, i ≠ 9 * x + y → t.1 222 i = s.1 222 i := fun i h1 => by rw [ht, gw1_1, if_neg (by omega), gw1_1, if_neg (by omega)]
      rw [← ht]
      obtain ⟨u, u1, u2, u3, u4, u5⟩ := ih (y + 1) t (by omega) (by omega) (by
        funext i
        rw [to 216 i (by decide) (by decide), ef]) (fun j h1 h2 => by rw [t2 _ (by omega)]; exact hA j (by omega) h2) (fun d h1 => by
        rw [ht, gw1_1, if_neg (by omega), gw1_1]
        show _ = dpt f A d y + (if dsc f y = (d : Int) then A y else 0)
        by_cases z : d = e
        · rw [if_pos ⟨rfl, z⟩, if_pos (by rw [he, z]), hd e (by omega), z]
        · rw [if_neg (fun t => z t.2), if_neg (by rw [he]; omega), hd d h1, Int.add_zero])
      exact ⟨u, u1, by rw [u2, ht]; rfl, fun k i h1 h2 => by rw [u3 k i h1 h2, to k i h1 h2], u4, fun i h1 => by rw [u5 i (by omega), t2 i (by omega)]⟩
theorem sl_187_21 {x : Nat} {k : Int → gx_S → Option gx_S} : ∀ (n d : Nat) (s : gx_S), 5 < n + d → d ≤ 5 → ∃ u : gx_S, gm_187_21 k n x d s = gm_187_41 k 100000 x 0 u ∧ u.2 = s.2 ∧ (∀ k i, k ≠ 237 → u.1 k i = s.1 k i) ∧ ∀ j, u.1 237 j = if d ≤ j ∧ j < 5 then 0 else s.1 237 j := by
  intro n
  induction n with
  | zero => intro d s h; omega
  | succ n ih =>
    intro d s h hd
    rw [gm_187_21, if_pos (by omega)]
    by_cases q : d = 5
    · rw [if_pos (by omega)]
      exact ⟨s, rfl, rfl, fun _ _ _ => rfl, fun j => by rw [if_neg (by omega)]⟩
    · have ce : ((d : Int) + 1) = ((d + 1 : Nat) : Int) := rfl
      have i2 : ((d : Int)).toNat = d := by omega
      rw [if_neg (by omega), if_pos (by omega), i2, ce]
      obtain ⟨u, u1, u2, u3, u4⟩ := ih (d + 1) (gw1 s 237 d 0) (by omega) (by omega)
      refine ⟨u, u1, u2, fun k i h1 => by rw [u3 k i h1, gw1_1, if_neg (fun x => h1 x.1)], fun j => ?_⟩
      rw [u4, gw1_1]
      by_cases e : j = d
      · rw [if_neg (by omega), if_pos ⟨rfl, e⟩, if_pos (by omega)]
      · by_cases e2 : d + 1 ≤ j ∧ j < 5
        · rw [if_pos e2, if_pos (show d ≤ j ∧ j < 5 by omega)]
        · rw [if_neg e2, if_neg (fun t => e t.2), if_neg (show ¬ (d ≤ j ∧ j < 5) by omega)]
theorem sl_187_7 {f : Nat → Int} {R C : Nat} {A : Nat → Nat → Int} (M : MP f R C) : ∀ (n x : Nat) (s : gx_S), 8 < n + x → x ≤ 8 → s.1 216 = f → (∀ x' y, x ≤ x' → x' < 8 → y < 9 → s.1 222 (9 * x' + y) = A x' y) → ∃ u : gx_S, gm_187_7 n x s = some (gw1 u 215 18 5) ∧ u.2 = s.2 ∧ (∀ k i, k ≠ 222 → k ≠ 237 → u.1 k i = s.1 k i) ∧ (∀ x' d, x ≤ x' → x' < 8 → d < 5 → u.1 222 (9 * x' + d) = dpt f (A x') d 9) ∧ ∀ i, i < 9 * x → u.1 222 i = s.1 222 i := by
  intro n
  induction n with
  | zero => intro x s h; omega
  | succ n ih =>
    intro x s h hx ef hA
    rw [gm_187_7, if_pos (by omega)]
    by_cases q : x = 8
    · rw [if_pos (by omega)]
      exact ⟨s, rfl, rfl, fun _ _ _ _ => rfl, fun x' d h1 h2 => by omega, fun _ _ => rfl⟩
    · rw [if_neg (by omega)]
      obtain ⟨a, a1, a2, a3, a4⟩ := sl_187_21 (x := x) (k := gm_187_7 n) 100000 0 s (by omega) (by omega)
      have a1 : gm_187_21 (gm_187_7 n) 100000 x 0 s = _ := a1
      obtain ⟨b, b1, b2, b3, b4, b5⟩ := sl_187_41 (k := gm_187_7 n) (A := A x) M (show x < 8 by omega) 100000 0 a (by omega) (by omega) (by
        funext i
        rw [a3 216 i (by decide), ef]) (fun j h1 h2 => by rw [a3 222 _ (by decide)]; exact hA x j (Nat.le_refl x) (by omega) h2) (fun d h1 => by
        rw [a4, if_pos (by omega)]
        rfl)
      have b1 : gm_187_41 (gm_187_7 n) 100000 x 0 a = _ := b1
      obtain ⟨c, c1, c2, c3, c4, c5⟩ := sl_187_91 (k := gm_187_7 n) (show x < 8 by omega) 100000 0 b (by omega) (by omega)
      have c1 : gm_187_91 (gm_187_7 n) 100000 x 0 b = _ := c1
      have ck : ∀ k i, k ≠ 222 → k ≠ 237 → c.1 k i = s.1 k i := fun k i h1 h2 => by rw [c3 k i h1, b3 k i h1 h2, a3 k i h2]
      have co_ : ∀ i, ¬ (9 * x ≤ i ∧ i < 9 * x + 9) → c.1 222 i = s.1 222 i := fun i h1 => by rw [c5 i (by omega), b5 i (by omega), a3 222 i (by decide)]
      obtain ⟨u, u1, u2, u3, u4, u5⟩ := ih (x + 1) c (by omega) (by omega) (by
        funext i
        rw [ck 216 i (by decide) (by decide), ef]) (fun x' y h1 h2 h3 => by rw [co_ _ (by omega)]; exact hA x' y (by omega) h2 h3)
      rw [a1, b1, c1]
      refine ⟨u, u1, by rw [u2, c2, b2, a2], fun k i h1 h2 => by rw [u3 k i h1 h2, ck k i h1 h2], fun x' d h1 h2 h3 => ?_, fun i h1 => by rw [u5 i (by omega), co_ i (by omega)]⟩
      by_cases e : x' = x
      · rw [e, u5 _ (by omega), c4 d (by omega) h3, b4 d h3]
      · exact u4 x' d (by omega) h2 h3
theorem sp_187 {s : gx_S} {R C g : Nat} (M : MP (s.1 216) R C) (h7 : s.1 216 2 = 7) (hg : g < 3) : ∃ u : gx_S, gm_187 g s = some u ∧ KRw s u ∧ u.1 215 17 = 8 ∧ u.1 215 18 = 5 ∧ (∀ x, x < 8 → u.2 221 x = LV (s.1 216) R C g x) ∧ ∀ x d, x < 8 → d < 5 → u.1 222 (9 * x + d) = Aco (s.1 216) R C g x d := by
  obtain ⟨a, a1, a2, a3, a4, a5⟩ := sp_181 M h7 hg
  obtain ⟨u, u1, u2, u3, u4, u5⟩ := sl_187_7 (A := PMV (s.1 216) R C g) M 100000 0 a (by omega) (by omega) (KR_216 a2) (fun x' y _ h2 h3 => (a5 x' h2).2 y h3)
  have u1 : gm_187_7 100000 0 a = _ := u1
  refine ⟨gw1 u 215 18 5, ?_, KRw_tr (KR_w a2) (KRw_of (fun k j q => by rw [gw1_1, if_neg (by omega), u3 k j (by omega) (by omega)]) fun k j _ => by rw [gw1_2, u2]), ?_, by rw [gw1_1, if_pos ⟨rfl, rfl⟩], fun x hx => ?_, fun x d hx hd => ?_⟩
  · unfold gm_187
    rw [a1, Option.bind_some, u1]
  · rw [gw1_1, if_neg (by omega), u3 215 17 (by decide) (by decide)]
    exact a3
  · rw [gw1_2, u2]
    exact (a5 x hx).1
  · rw [gw1_1, if_neg (by omega), u4 x d (by omega) hx hd]
    rfl
