/-! QUERIES: byWay -/
def wrow (f : Nat → Int) (R C g d : Nat) (b : Bool) (y : Nat) : Int := if dsc f y = (d : Int) then SO f R C g (-1) ((y : Nat) : Int) b else 0
theorem sl_190 {f : Nat → Int} {R C g d : Nat} (M : MP f R C) (h7 : f 2 = 7) (hg : g < 3) (hd : d < 4) (b : Bool) : ∀ (n y : Nat) (s : gx_S), 8 < n + y → y ≤ 8 → s.1 216 = f → ∃ u : gx_S, gm_190_3 n g d (gb b) y s = some u ∧ u.2 = s.2 ∧ (∀ k i, k ≠ 222 → u.1 k i = s.1 k i) ∧ (∀ y', y ≤ y' → y' < 8 → u.1 222 (9 * d + y') = wrow f R C g d b y') ∧ ∀ i, ¬ (9 * d + y ≤ i ∧ i < 9 * d + 8) → u.1 222 i = s.1 222 i := by
  intro n
  induction n with
  | zero => intro y s h; omega
  | succ n ih =>
    intro y s h hy ef
    rw [gm_190_3, if_pos (by omega)]
    by_cases q : y = 8
    · rw [if_pos (by omega)]
      exact ⟨s, rfl, rfl, fun _ _ _ => rfl, fun y' h1 h2 => by omega, fun _ _ => rfl⟩
    · have ce : ((y : Int) + 1) = ((y + 1 : Nat) : Int) := rfl
      have i1 : ((9 * (d : Int) + (y : Int))).toNat = 9 * d + y := by omega
      have dr := dsc_r M (show y < 9 by omega)
      rw [if_neg (by omega), sp_160, Option.bind_some]
      show ∃ u : gx_S, ((gm_186 y s).bind fun q6 => if (-2147483648 ≤ q6.1 ∧ q6.1 ≤ 2147483647) then (if (-2147483648 ≤ (d : Int) ∧ (d : Int) ≤ 2147483647) then (if ¬ q6.1 = (d : Int) then gm_190_43 (gm_190_3 n) g d (gb b) y (9 * (d : Int) + (y : Int)) 0 q6.2 else ((gm_157 g (-1) y (gb b) q6.2).bind fun q11 => gm_190_43 (gm_190_3 n) g d (gb b) y (9 * (d : Int) + (y : Int)) q11.1 q11.2)) else none) else none) = _ ∧ _
      rw [sp_186 ef (show y < 9 by omega), Option.bind_some, if_pos (by omega), if_pos (by omega)]
      have st : (if ¬ dsc f y = (d : Int) then gm_190_43 (gm_190_3 n) g d (gb b) y (9 * (d : Int) + (y : Int)) 0 s else ((gm_157 g (-1) y (gb b) s).bind fun q11 => gm_190_43 (gm_190_3 n) g d (gb b) y (9 * (d : Int) + (y : Int)) q11.1 q11.2)) = gm_190_3 n g d (gb b) ((y + 1 : Nat) : Int) (gw1 s 222 (9 * d + y) (wrow f R C g d b y)) := by
        have tail : ∀ v : Int, gm_190_43 (gm_190_3 n) g d (gb b) y (9 * (d : Int) + (y : Int)) v s = gm_190_3 n g d (gb b) ((y + 1 : Nat) : Int) (gw1 s 222 (9 * d + y) v) := fun v => by
          unfold gm_190_43
          rw [if_pos (by omega), i1, ce]
        unfold wrow
        by_cases z : dsc f y = (d : Int)
        · have c57 := sp_157g (s := s) (R := R) (C := C) (by rw [ef]; exact M) (by rw [ef]; exact h7) (-1) (y : Int) b hg (by omega) (by omega)
          rw [ef] at c57
          rw [if_neg (fun t => t z), if_pos z, c57, Option.bind_some]
          exact tail _
        · rw [if_pos z, if_neg z]
          exact tail 0
      show ∃ u : gx_S, (if ¬ dsc f y = (d : Int) then gm_190_43 (gm_190_3 n) g d (gb b) y (9 * (d : Int) + (y : Int)) 0 s else ((gm_157 g (-1) y (gb b) s).bind fun q11 => gm_190_43 (gm_190_3 n) g d (gb b) y (9 * (d : Int) + (y : Int)) q11.1 q11.2)) = _ ∧ _
      rw [st]
      obtain ⟨u, u1, u2, u3, u4, u5⟩ := ih (y + 1) (gw1 s 222 (9 * d + y) (wrow f R C g d b y)) (by omega) (by omega) (by
        funext i
        rw [gw1_1, if_neg (by omega), ef])
      refine ⟨u, u1, u2, fun k i h1 => by rw [u3 k i h1, gw1_1, if_neg (fun x => h1 x.1)], fun y' h1 h2 => ?_, fun i h1 => ?_⟩
      · by_cases e : y' = y
        · rw [e, u5 _ (by omega), gw1_1, if_pos ⟨rfl, rfl⟩]
        · exact u4 y' (by omega) h2
      · rw [u5 i (by omega), gw1_1, if_neg (by omega)]
theorem wrow_r {f : Nat → Int} {R C g d : Nat} (M : MP f R C) (h7 : f 2 = 7) (hg : g < 3) (b : Bool) (y : Nat) : 0 ≤ wrow f R C g d b y ∧ wrow f R C g d b y ≤ 864 := by
  unfold wrow
  split
  · exact SO_r M h7 hg (-1) y b
  · omega
theorem sl_189_70 {f P : Nat → Int} {R C g : Nat} {z : Int} (M : MP f R C) (h7 : f 2 = 7) (hg : g < 3) (hP : ∀ x, x < 4 → 0 ≤ P x ∧ P x ≤ 100000000) : ∀ (n d : Nat) (s : gx_S), 4 < n + d → d ≤ 4 → s.1 216 = f → s.1 215 18 = 8 → (∀ x, x < 4 → s.1 238 x = P x) → ∃ u : gx_S, gm_189_70 n g z d s = ((gm_173 u).bind fun q4 => (gm_183 z q4).bind fun q6 => some (q6.1, q6.2)) ∧ (∀ k i, k ≠ 222 → k ≠ 223 → u.1 k i = s.1 k i) ∧ (∀ k i, k ≠ 221 → u.2 k i = s.2 k i) ∧ (∀ x', d ≤ x' → x' < 4 → u.2 221 x' = P x' ∧ ∀ y, y < 8 → u.1 222 (9 * x' + y) = Awy f R C g x' y) ∧ (∀ i, i < d → u.2 221 i = s.2 221 i) ∧ ∀ i, i < 9 * d → u.1 222 i = s.1 222 i := by
  intro n
  induction n with
  | zero => intro d s h; omega
  | succ n ih =>
    intro d s h hd ef e18 hl
    rw [gm_189_70, if_pos (by omega)]
    by_cases q : d = 4
    · rw [if_pos (by omega)]
      exact ⟨s, rfl, fun _ _ _ _ => rfl, fun _ _ _ => rfl, fun x' h1 h2 => by omega, fun _ _ => rfl, fun _ _ => rfl⟩
    · have i5 : ((d : Int)).toNat = d := by omega
      have ce : ((d : Int) + 1) = ((d + 1 : Nat) : Int) := rfl
      have lr := hP d (by omega)
      rw [if_neg (by omega), if_pos (by omega), i5, hl d (by omega), if_pos (by omega), if_pos (by omega)]
      obtain ⟨a, ha⟩ : ∃ a, a = gw2 s 221 d (P d) := ⟨_, rfl⟩
      have a1 : ∀ k i, a.1 k i = s.1 k i := fun k i => by rw [ha]; rfl
      have ea : a.1 216 = f := by
        funext i
        rw [a1, ef]
      obtain ⟨b, b1, b2, b3, b4, b5⟩ := sl_190 M h7 hg (show d < 4 by omega) false 100000 0 a (by omega) (by omega) ea
      have b1 : gm_190 g d 0 a = some b := b1
      have b18 : b.1 215 18 = ((8 : Nat) : Int) := by rw [b3 215 18 (by decide), a1]; exact e18
      have sm : sg (fun c => b.1 222 (9 * d + c)) 8 = sg (fun y => wrow f R C g d false y) 8 := sg_eq fun y hy => b4 y (by omega) hy
      have smr : 0 ≤ sg (fun y => wrow f R C g d false y) 8 ∧ sg (fun y => wrow f R C g d false y) 8 ≤ 6912 := by
        refine ⟨sg_nn fun y _ => (wrow_r M h7 hg false y).1, ?_⟩
        exact Int.le_trans (sg_le (g := fun _ => 864) fun y _ => (wrow_r M h7 hg false y).2) (by decide)
      have c61 := sp_161 (s := b) (r := d) (m := 8) (by omega) (by omega) b18
      rw [sm] at c61
      obtain ⟨e, he⟩ : ∃ e, e = gw1 b 223 d (sg (fun y => wrow f R C g d false y) 8) := ⟨_, rfl⟩
      rw [← he] at c61
      have e1 : ∀ k i, k ≠ 223 → e.1 k i = b.1 k i := fun k i q => by rw [he, gw1_1, if_neg (by omega)]
      rw [← ha, b1, Option.bind_some, c61, Option.bind_some]
      show ∃ u : gx_S, (if (-2147483648 ≤ sg (fun y => wrow f R C g d false y) 8 ∧ sg (fun y => wrow f R C g d false y) 8 ≤ 2147483647) then (if ¬ sg (fun y => wrow f R C g d false y) 8 = 0 then gm_189_110 (gm_189_70 n) g z d e else ((gm_190 g d 1 e).bind fun q21 => gm_189_110 (gm_189_70 n) g z d q21)) else none) = _ ∧ _
      rw [if_pos (by omega)]
      -- the row as it is laid in the end
      have row : ∃ t : gx_S, (if ¬ sg (fun y => wrow f R C g d false y) 8 = 0 then gm_189_110 (gm_189_70 n) g z d e else ((gm_190 g d 1 e).bind fun q21 => gm_189_110 (gm_189_70 n) g z d q21)) = gm_189_70 n g z ((d + 1 : Nat) : Int) t ∧ t.2 = e.2 ∧ (∀ k i, k ≠ 222 → t.1 k i = e.1 k i) ∧ (∀ y, y < 8 → t.1 222 (9 * d + y) = Awy f R C g d y) ∧ ∀ i, ¬ (9 * d ≤ i ∧ i < 9 * d + 8) → t.1 222 i = e.1 222 i := by
        have aw : ∀ y, y < 8 → Awy f R C g d y = wrow f R C g d (decide (sg (fun y => wrow f R C g d false y) 8 = 0)) y := fun y hy => by
          unfold Awy
          by_cases z : dsc f y = (d : Int)
          · rw [if_pos ⟨hy, z⟩]
            show SO f R C g (-1) y (decide (sg (fun y => wrow f R C g d false y) 8 = 0)) = _
            show _ = (if dsc f y = (d : Int) then SO f R C g (-1) ((y : Nat) : Int) (decide (sg (fun y => wrow f R C g d false y) 8 = 0)) else 0)
            rw [if_pos z]
          · rw [if_neg (fun t => z t.2)]
            show _ = (if dsc f y = (d : Int) then SO f R C g (-1) ((y : Nat) : Int) (decide (sg (fun y => wrow f R C g d false y) 8 = 0)) else 0)
            rw [if_neg z]
        by_cases z0 : sg (fun y => wrow f R C g d false y) 8 = 0
        · have ee : e.1 216 = f := by
            funext i
            rw [e1 216 i (by decide), b3 216 i (by decide), ea]
          obtain ⟨t, t1, t2, t3, t4, t5⟩ := sl_190 M h7 hg (show d < 4 by omega) true 100000 0 e (by omega) (by omega) ee
          have t1 : gm_190 g d 1 e = some t := t1
          rw [if_neg (fun t => t z0), t1, Option.bind_some]
          refine ⟨t, rfl, t2, t3, fun y hy => ?_, fun i hi => t5 i (by omega)⟩
          rw [t4 y (by omega) hy, aw y hy, decide_eq_true z0]
        · rw [if_pos z0]
          refine ⟨e, rfl, rfl, fun _ _ _ => rfl, fun y hy => ?_, fun _ _ => rfl⟩
          rw [e1 222 _ (by decide), b4 y (by omega) hy, aw y hy, decide_eq_false z0]
      obtain ⟨t, t1, t2, t3, t4, t5⟩ := row
      have tk : ∀ k i, k ≠ 222 → k ≠ 223 → t.1 k i = s.1 k i := fun k i h1 h2 => by rw [t3 k i h1, e1 k i h2, b3 k i h1, a1]
      have tl : ∀ k i, t.2 k i = a.2 k i := fun k i => by rw [t2, he, gw1_2, b2]
      rw [t1]
      obtain ⟨u, u1, u2, u3, u4, u5, u6⟩ := ih (d + 1) t (by omega) (by omega) (by
        funext i
        rw [tk 216 i (by decide) (by decide), ef]) (by rw [tk 215 18 (by decide) (by decide)]; exact e18) (fun x hx => by rw [tk 238 x (by decide) (by decide)]; exact hl x hx)
      refine ⟨u, u1, fun k i h1 h2 => (u2 k i h1 h2).trans (tk k i h1 h2), fun k i h1 => ?_, fun x' h1 h2 => ?_, fun i h1 => ?_, fun i h1 => ?_⟩
      · rw [u3 k i h1, tl, ha, gw2_2, if_neg (fun x => h1 x.1)]
      · by_cases e' : x' = d
        · rw [e']
          refine ⟨?_, fun y hy => ?_⟩
          · rw [u5 d (by omega), tl, ha, gw2_2, if_pos ⟨rfl, rfl⟩]
          · rw [u6 _ (by omega), t4 y hy]
        · exact u4 x' (by omega) h2
      · rw [u5 i (by omega), tl, ha, gw2_2, if_neg (by omega)]
      · rw [u6 i (by omega), t5 i (by omega), e1 222 i (by decide), b5 i (by omega), a1]
theorem sl_189_39 {g : Nat} {z : Int} : ∀ (n x : Nat) (s : gx_S), 4 < n + x → x ≤ 4 → s.1 215 17 = 8 → ∃ u : gx_S, gm_189_39 n g z x s = ((gm_159 4 8 u).bind fun q4 => gm_189_70 100000 g z 0 q4) ∧ u.2 = s.2 ∧ (∀ k i, k ≠ 238 → u.1 k i = s.1 k i) ∧ ∀ j, u.1 238 j = if x ≤ j ∧ j < 4 then sg (fun r => s.2 224 (9 * r + j)) 8 else s.1 238 j := by
  intro n
  induction n with
  | zero => intro x s h; omega
  | succ n ih =>
    intro x s h hx e17
    rw [gm_189_39, if_pos (by omega)]
    by_cases q : x = 4
    · rw [if_pos (by omega)]
      exact ⟨s, rfl, rfl, fun _ _ _ => rfl, fun j => by rw [if_neg (by omega)]⟩
    · have ce : ((x : Int) + 1) = ((x + 1 : Nat) : Int) := rfl
      have i5 : ((x : Int)).toNat = x := by omega
      rw [if_neg (by omega), sp_183 (R := 8) e17 (by omega) (show x < 9 by omega), Option.bind_some, if_pos (by omega), i5, ce]
      obtain ⟨u, u1, u2, u3, u4⟩ := ih (x + 1) (gw1 s 238 x (sg (fun r => s.2 224 (9 * r + x)) 8)) (by omega) (by omega) (by rw [gw1_1, if_neg (by omega)]; exact e17)
      refine ⟨u, u1, u2, fun k i h1 => by rw [u3 k i h1, gw1_1, if_neg (fun x => h1 x.1)], fun j => ?_⟩
      rw [u4, gw1_1]
      by_cases y : j = x
      · rw [if_neg (by omega), if_pos ⟨rfl, y⟩, if_pos (by omega), y]
      · by_cases y2 : x + 1 ≤ j ∧ j < 4
        · rw [if_pos y2, if_pos (show x ≤ j ∧ j < 4 by omega)]
          rfl
        · rw [if_neg y2, if_neg (fun t => y t.2), if_neg (show ¬ (x ≤ j ∧ j < 4) by omega)]
