/-! TEXTS of layers: the class's reading -/
def lv_ (l : Nat) (x : Int) : Int := if l = 2 then (if 48 ≤ x ∧ x ≤ 51 then x - 48 else -1) else if x = 46 then 8 else if 97 ≤ x ∧ x ≤ 104 then x - 97 else -1
theorem lvr_ (l : Nat) (x : Int) : -1 ≤ lv_ l x ∧ lv_ l x ≤ (if l = 2 then 3 else 8) := by
  unfold lv_
  by_cases a : l = 2
  · rw [if_pos a, if_pos a]
    split <;> omega
  · rw [if_neg a, if_neg a]
    split
    · omega
    · split <;> omega
def up2 (h : Nat → Nat → Int) (r c : Nat) (v : Int) (i j : Nat) : Int := if i = r ∧ j = c then v else h i j
/-- a layer, from place p on, in row r with c signs; K: is the width w known -/
def lyt (tb : Nat → Int) (L l M : Nat) : Nat → Nat → Nat → Nat → Nat → Nat → (Nat → Nat → Int) → Int × Nat × Nat × (Nat → Nat → Int)
  | 0, _, r, c, _, _, h => (-1, r, c, h)
  | k + 1, p, r, c, K, w, h =>
    if ¬ lv_ l (sgn tb L p) = -1 then
      if w ≤ c then (8 * (p : Int) + 3, r, c, h) else lyt tb L l M k (p + 1) r (c + 1) K w (up2 h r c (lv_ l (sgn tb L p)))
    else if c = 0 ∨ ¬ (sgn tb L p = 47 ∨ sgn tb L p = -1) then (8 * (p : Int) + 1, r, c, h)
    else if K = 1 ∧ c < w then (8 * (p : Int) + 2, r, c, h)
    else if sgn tb L p = 47 then (if M ≤ r + 1 then (8 * (p : Int) + 3, r, c, h) else lyt tb L l M k (p + 1) (r + 1) 0 1 c h)
    else if ¬ l = 0 ∧ r + 1 < M then (8 * (p : Int) + 4, r, c, h) else (-1, r + 1, c, h)
theorem sp_35 (s : gx_S) {l : Nat} {x : Int} (hl : l < 3) (h : i32 x) : gm_35 x l s = some (lv_ l x, s) := by
  unfold i32 at h
  unfold gm_35 lv_
  rw [if_pos (by omega)]
  by_cases a : l = 2
  · rw [if_neg (by omega), if_pos a, if_pos h]
    by_cases b : x < 48
    · rw [if_pos b, if_neg (by omega)]
    · rw [if_neg b]
      by_cases c : 51 < x
      · rw [if_pos c, if_neg (by omega)]
      · rw [if_neg c, if_pos (by omega)]
  · rw [if_pos (by omega), if_neg a, if_pos h]
    by_cases d : x = 46
    · rw [if_neg (fun t => t d), if_pos d]
    · rw [if_pos d, if_neg d]
      by_cases b : x < 97
      · rw [if_pos b, if_neg (by omega)]
      · rw [if_neg b]
        by_cases c : 104 < x
        · rw [if_pos c, if_neg (by omega)]
        · rw [if_neg c, if_pos (by omega)]
def CLy (s u : gx_S) : Prop := u.2 = s.2 ∧ ∀ k j, k ≠ 58 → k ≠ 59 → u.1 k j = s.1 k j
theorem CLy_tr {s t u : gx_S} (a : CLy s t) (b : CLy t u) : CLy s u := ⟨b.1.trans a.1, fun k j h1 h2 => (b.2 k j h1 h2).trans (a.2 k j h1 h2)⟩
theorem CLy_TC {s u : gx_S} {L : Nat} {tb : Nat → Int} (a : CLy s u) (T : TC s L tb) : TC u L tb := TC_o (a.2 _ _ (by omega) (by omega)) (fun i => a.2 _ _ (by omega) (by omega)) T
/-- what is read so far -/
def LSt (s : gx_S) (l M r c K w : Nat) (h : Nat → Nat → Int) : Prop := s.1 58 1 = r ∧ s.1 58 2 = w ∧ s.1 58 3 = c ∧ s.1 58 4 = M ∧ s.1 58 5 = K ∧ s.1 58 6 = (if l = 0 then 0 else 1) ∧ ∀ i j, (i < r ∧ j < w) ∨ (i = r ∧ j < c) → s.1 59 (i * w + j) = h i j
/-- the wrong of a place -/
def wr_ (tb : Nat → Int) (L l M p r c K w : Nat) : Int :=
  if ¬ lv_ l (sgn tb L p) = -1 then (if w ≤ c then 3 else 0)
  else if c = 0 ∨ ¬ (sgn tb L p = 47 ∨ sgn tb L p = -1) then 1
  else if K = 1 ∧ c < w then 2
  else if sgn tb L p = 47 then (if M ≤ r + 1 then 3 else 0)
  else if ¬ l = 0 ∧ r + 1 < M then 4 else 0
theorem sp_36 {s : gx_S} {l M r c K w : Nat} {h : Nat → Nat → Int} (S : LSt s l M r c K w h) (hc : c ≤ 12) (hw : w ≤ 12) : gm_36 s = some (if w ≤ c then 3 else 0, s) := by
  unfold gm_36
  rw [S.2.2.1, S.2.1, if_pos (by omega), if_pos (by omega)]
  by_cases a : w ≤ c
  · rw [if_neg (by omega), if_pos a]
  · rw [if_pos (by omega), if_neg a]
theorem sp_37 {s : gx_S} {l M r c K w : Nat} {h : Nat → Nat → Int} {x : Int} (S : LSt s l M r c K w h) (hc : c ≤ 12) (hw : w ≤ 12) (hr : r ≤ 8) (hM : M ≤ 8) (hK : K = 0 ∨ K = 1) (hx : i32 x) : gm_37 x s = some (if c = 0 ∨ ¬ (x = 47 ∨ x = -1) then 1 else if K = 1 ∧ c < w then 2 else if x = 47 then (if M ≤ r + 1 then 3 else 0) else if ¬ l = 0 ∧ r + 1 < M then 4 else 0, s) := by
  obtain ⟨s1, s2, s3, s4, s5, s6, s7⟩ := S
  unfold i32 at hx
  unfold gm_37
  rw [s3, if_pos (by omega)]
  by_cases a : c = 0
  · rw [if_pos (by omega), if_pos (.inl a)]
  · rw [if_neg (by omega), if_pos hx]
    have g40 : gm_37_40 x s = some (if x = 47 then (if M ≤ r + 1 then 3 else 0) else if ¬ l = 0 ∧ r + 1 < M then 4 else 0, s) := by
      unfold gm_37_40
      rw [if_pos hx, s1, s4, s6]
      by_cases b : x = 47
      · rw [if_neg (fun t => t b), if_pos b, if_pos (by omega), if_pos (by omega)]
        by_cases d : M ≤ r + 1
        · rw [if_neg (by omega), if_pos d]
        · rw [if_pos (by omega), if_neg d]
      · rw [if_pos b, if_neg b]
        by_cases d : l = 0
        · rw [if_pos d, if_pos (show (-2147483648 : Int) ≤ 0 ∧ (0 : Int) ≤ 2147483647 by decide), if_pos rfl, if_neg (fun t => t.1 d)]
        · rw [if_neg d, if_pos (show (-2147483648 : Int) ≤ 1 ∧ (1 : Int) ≤ 2147483647 by decide), if_neg (show ¬ (1 : Int) = 0 by decide), if_pos (by omega), if_pos (by omega)]
          by_cases e : r + 1 < M
          · rw [if_neg (by omega), if_pos ⟨d, e⟩]
          · rw [if_pos (by omega), if_neg (fun t => e t.2)]
    have g20 : gm_37_20 x s = some (if K = 1 ∧ c < w then 2 else if x = 47 then (if M ≤ r + 1 then 3 else 0) else if ¬ l = 0 ∧ r + 1 < M then 4 else 0, s) := by
      unfold gm_37_20
      rw [s5, s3, s2, g40, if_pos (by omega)]
      by_cases b : K = 0
      · rw [if_pos (by omega), if_neg (show ¬ (K = 1 ∧ c < w) by omega)]
      · rw [if_neg (show ¬ (K : Int) = 0 by omega), if_pos (show -2147483648 ≤ (c : Int) ∧ (c : Int) ≤ 2147483647 by omega), if_pos (show -2147483648 ≤ (w : Int) ∧ (w : Int) ≤ 2147483647 by omega)]
        by_cases d : w ≤ c
        · rw [if_pos (show (w : Int) ≤ (c : Int) by omega), if_neg (show ¬ (K = 1 ∧ c < w) by omega)]
        · rw [if_neg (show ¬ (w : Int) ≤ (c : Int) by omega), if_pos (show K = 1 ∧ c < w by omega)]
    rw [g20]
    by_cases b : x = 47
    · rw [if_pos b, if_neg (show ¬ (c = 0 ∨ ¬ (x = 47 ∨ x = -1)) by omega)]
    · rw [if_neg b]
      by_cases d : x = -1
      · rw [if_pos d, if_neg (show ¬ (c = 0 ∨ ¬ (x = 47 ∨ x = -1)) by omega)]
      · rw [if_neg d, if_pos (show c = 0 ∨ ¬ (x = 47 ∨ x = -1) by omega)]
/-- how the reading stands -/
def LI (M r c K w : Nat) : Prop := r < M ∧ M ≤ 8 ∧ c ≤ w ∧ w ≤ 12 ∧ ((K = 0 ∧ r = 0 ∧ w = 12) ∨ K = 1)
theorem sp_39 {s : gx_S} {l M r c K w : Nat} {h : Nat → Nat → Int} {v : Int} (S : LSt s l M r c K w h) (I : LI M r c K w) (hc : c < w) : ∃ u : gx_S, gm_39 v s = some u ∧ CLy s u ∧ LSt u l M r (c + 1) K w (up2 h r c v) := by
  obtain ⟨s1, s2, s3, s4, s5, s6, s7⟩ := S
  obtain ⟨i1, i2, i3, i4, i5⟩ := I
  have m1 : r * w ≤ 7 * 12 := Nat.mul_le_mul (by omega) i4
  have e : (r : Int) * (w : Int) + (c : Int) = ((r * w + c : Nat) : Int) := by
    rw [Int.natCast_add, Int.natCast_mul]
  have cc : ((c : Int) + 1) = ((c + 1 : Nat) : Int) := rfl
  unfold gm_39 gm_39_28
  rw [s1, s2, s3, e, if_pos (by omega), if_neg (by omega), if_pos (by omega), show ((r * w + c : Nat) : Int).toNat = r * w + c by omega]
  have x3 : (gw1 s 59 (r * w + c) v).1 58 3 = c := by rw [gw1_1, if_neg (by omega)]; exact s3
  rw [x3, cc]
  refine ⟨_, rfl, ⟨rfl, fun k j q1 q2 => by rw [gw1_1, if_neg (by omega), gw1_1, if_neg (by omega)]⟩, ?_, ?_, by rw [gw1_1, if_pos ⟨rfl, rfl⟩], ?_, ?_, ?_, fun i j hij => ?_⟩
  · rw [gw1_1, if_neg (by omega), gw1_1, if_neg (by omega)]; exact s1
  · rw [gw1_1, if_neg (by omega), gw1_1, if_neg (by omega)]; exact s2
  · rw [gw1_1, if_neg (by omega), gw1_1, if_neg (by omega)]; exact s4
  · rw [gw1_1, if_neg (by omega), gw1_1, if_neg (by omega)]; exact s5
  · rw [gw1_1, if_neg (by omega), gw1_1, if_neg (by omega)]; exact s6
  · rw [gw1_1, if_neg (by omega), gw1_1]
    unfold up2
    by_cases z : i = r ∧ j = c
    · rw [if_pos ⟨rfl, by rw [z.1, z.2]⟩, if_pos z]
    · have ne : ¬ (i * w + j = r * w + c) := fun q => by
        rcases hij with t | t
        · have := Nat.mul_le_mul_right w (show i + 1 ≤ r by omega)
          rw [Nat.add_mul] at this
          omega
        · rw [t.1] at q
          omega
      rw [if_neg (fun t => ne t.2), if_neg z]
      exact s7 i j (by omega)
theorem sp_38 {s : gx_S} {l M r c K w : Nat} {h : Nat → Nat → Int} (S : LSt s l M r c K w h) (I : LI M r c K w) (hk : ¬ (K = 1 ∧ c < w)) : ∃ u : gx_S, gm_38 s = some u ∧ CLy s u ∧ LSt u l M (r + 1) 0 1 c h := by
  obtain ⟨s1, s2, s3, s4, s5, s6, s7⟩ := S
  obtain ⟨i1, i2, i3, i4, i5⟩ := I
  unfold gm_38
  have x1 : (gw1 (gw1 s 58 2 (s.1 58 3)) 58 5 1).1 58 1 = r := by rw [gw1_1, if_neg (by omega), gw1_1, if_neg (by omega)]; exact s1
  rw [x1, s3]
  refine ⟨_, rfl, ⟨rfl, fun k j q1 q2 => by rw [gw1_1, if_neg (by omega), gw1_1, if_neg (by omega), gw1_1, if_neg (by omega), gw1_1, if_neg (by omega)]⟩, ?_, ?_, ?_, ?_, ?_, ?_, fun i j hij => ?_⟩
  · rw [gw1_1, if_neg (by omega), gw1_1, if_pos ⟨rfl, rfl⟩]; rfl
  · rw [gw1_1, if_neg (by omega), gw1_1, if_neg (by omega), gw1_1, if_neg (by omega), gw1_1, if_pos ⟨rfl, rfl⟩]
  · rw [gw1_1, if_pos ⟨rfl, rfl⟩]; rfl
  · rw [gw1_1, if_neg (by omega), gw1_1, if_neg (by omega), gw1_1, if_neg (by omega), gw1_1, if_neg (by omega)]; exact s4
  · rw [gw1_1, if_neg (by omega), gw1_1, if_neg (by omega), gw1_1, if_pos ⟨rfl, rfl⟩]; rfl
  · rw [gw1_1, if_neg (by omega), gw1_1, if_neg (by omega), gw1_1, if_neg (by omega), gw1_1, if_neg (by omega)]; exact s6
  · rw [gw1_1, if_neg (by omega), gw1_1, if_neg (by omega), gw1_1, if_neg (by omega), gw1_1, if_neg (by omega)]
    by_cases z : K = 1
    · have e : c = w := by omega
      rw [e]
      exact s7 i j (by omega)
    · have e : i = r := by omega
      have e0 : r = 0 := by omega
      have := s7 i j (by omega)
      rw [e, e0, Nat.zero_mul] at this ⊢
      exact this
