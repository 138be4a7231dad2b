/-! THE CLASS: what is made already -/
def bt (D w : Nat) : Prop := D / w % 2 = 1
theorem bits_c : ∀ D : Nat, D < 64 → ∀ w : Nat, w ∈ ([1, 2, 4, 8, 16, 32] : List Nat) → ((Int32.ofInt (D : Int) &&& Int32.ofInt (w : Int)).toInt = (if D / w % 2 = 1 then (w : Int) else 0)) ∧ ((Int32.ofInt (D : Int) ||| Int32.ofInt (w : Int)).toInt = (if D / w % 2 = 1 then (D : Int) else ((D + w : Nat) : Int))) := by decide +kernel
theorem bits_n : ∀ D : Nat, D < 64 → ∀ w : Nat, w ∈ ([1, 2, 4, 8, 16, 32] : List Nat) → ¬ D / w % 2 = 1 → D + w < 64 ∧ (D + w) / w % 2 = 1 ∧ ∀ v : Nat, v ∈ ([1, 2, 4, 8, 16, 32] : List Nat) → v ≠ w → ((D + w) / v % 2 = D / v % 2) := by decide +kernel
/-- lacks: told, and set -/
theorem sp_21 {s : gx_S} {a D w : Nat} (ho : fx_oc a 2 = true) (hD : D < 64) (hw : w ∈ [1, 2, 4, 8, 16, 32]) (e : s.1 a 8 = D) : ∃ (D' : Nat) (u : gx_S), gm_21 a w s = some (decide (¬ D / w % 2 = 1), u) ∧ u.2 = s.2 ∧ (∀ k j, ¬ (k = a ∧ j = 8) → u.1 k j = s.1 k j) ∧ u.1 a 8 = D' ∧ D' < 64 ∧ D' / w % 2 = 1 ∧ ∀ v : Nat, v ∈ ([1, 2, 4, 8, 16, 32] : List Nat) → v ≠ w → D' / v % 2 = D / v % 2 := by
  obtain ⟨b1, b2⟩ := bits_c D hD w hw
  have wq : w = 1 ∨ w = 2 ∨ w = 4 ∨ w = 8 ∨ w = 16 ∨ w = 32 := by simpa using hw
  have w32 : w ≤ 32 := by omega
  by_cases q : D / w % 2 = 1
  · rw [if_pos q] at b1 b2
    have w0 : w ≠ 0 := by omega
    refine ⟨D, gw1 s a 8 (D : Int), ?_, rfl, fun k j h => by rw [gw1_1, if_neg h], by rw [gw1_1, if_pos ⟨rfl, rfl⟩], hD, q, fun _ _ _ => rfl⟩
    unfold gm_21
    rw [if_pos ho, e, b1, if_pos (by omega), if_neg (by omega)]
    unfold gm_21_14
    rw [if_pos (by decide), if_pos (by decide), e, b2, decide_eq_false (fun h => h q)]
  · rw [if_neg q] at b1 b2
    obtain ⟨n1, n2, n3⟩ := bits_n D hD w hw q
    refine ⟨D + w, gw1 s a 8 ((D + w : Nat) : Int), ?_, rfl, fun k j h => by rw [gw1_1, if_neg h], by rw [gw1_1, if_pos ⟨rfl, rfl⟩], n1, n2, n3⟩
    unfold gm_21
    rw [if_pos ho, e, b1, if_pos (by omega), if_pos rfl]
    unfold gm_21_14
    rw [if_pos (by decide), if_neg (by decide), e, b2, decide_eq_true q]
/-- what flows back: people and amounts -/
def Pbk (f : Nat → Int) (R C g x : Nat) : Int := sg (fun z => GV f R C g z x) 8
def Abk (f : Nat → Int) (R C g x y : Nat) : Int := SO f R C g y x (decide (SO f R C g (-1) x false = 0))
def dsc (f : Nat → Int) (y : Nat) : Int := if y = 8 then 4 else f (44 + y)
def Aco (f : Nat → Int) (R C g x d : Nat) : Int := sg (fun y => if dsc f y = (d : Int) then PMV f R C g x y else 0) 9
def GC_ (f : Nat → Int) (R C g : Nat) : Nat → Nat → Int := TB (f 3) (LV f R C g) (Aco f R C g)
def Pwy (f : Nat → Int) (R C g d : Nat) : Int := if d < 4 then sg (fun x => GC_ f R C g x d) 8 else 0
def Awy (f : Nat → Int) (R C g d y : Nat) : Int := if y < 8 ∧ dsc f y = (d : Int) then SO f R C g (-1) y (decide (sg (fun y => if dsc f y = (d : Int) then SO f R C g (-1) ((y : Nat) : Int) false else 0) 8 = 0)) else 0
/-- the group's tables are right, as far as they are made -/
def GGD (s : gx_S) (f : Nat → Int) (R C g a D : Nat) : Prop := D < 64 ∧ s.1 a 8 = D ∧ s.1 a 9 = g ∧ (D / 1 % 2 = 1 → (∀ z, z < 8 → s.1 (a + 1) z = LV f R C g z) ∧ s.1 a 6 = UN f R C g ∧ s.1 a 7 = ASf f R C g) ∧ (D / 2 % 2 = 1 → D / 1 % 2 = 1 ∧ TM s (a + 3) f R C g) ∧ (D / 4 % 2 = 1 → TR s (a + 12) (f 3) (Pbk f R C g) (Abk f R C g)) ∧ (D / 8 % 2 = 1 → D / 1 % 2 = 1 ∧ TR s (a + 21) (f 3) (LV f R C g) (Aco f R C g)) ∧ (D / 16 % 2 = 1 → TR s (a + 30) (f 3) (Pwy f R C g) (Awy f R C g)) ∧ (D / 32 % 2 = 1 → D / 2 % 2 = 1 ∧ ∀ k, k < R * C → QK f R C g k (s.1 (a + 2) k))
/-- a group of the class -/
def ga (a : Nat) : Prop := 71 ≤ a ∧ a + 48 ≤ 215 ∧ fx_oc a 2 = true ∧ fx_oc (a + 3) 7 = true ∧ fx_oc (a + 12) 7 = true ∧ fx_oc (a + 21) 7 = true ∧ fx_oc (a + 30) 7 = true ∧ fx_oc (a + 39) 7 = true
theorem ga_g : ∀ g, g < 3 → fx_oc (71 + 48 * g) 2 = true ∧ fx_oc (71 + 48 * g + 3) 7 = true ∧ fx_oc (71 + 48 * g + 12) 7 = true ∧ fx_oc (71 + 48 * g + 21) 7 = true ∧ fx_oc (71 + 48 * g + 30) 7 = true ∧ fx_oc (71 + 48 * g + 39) 7 = true := by decide +kernel
theorem ga_of {g : Nat} (hg : g < 3) : ga (71 + 48 * g) := ⟨by omega, by omega, ga_g g hg⟩
/-- the group's own cells and the rounder's alone change -/
def KG (a : Nat) (s u : gx_S) : Prop := u.2 = s.2 ∧ ∀ k j, ¬ (6 ≤ k ∧ k ≤ 13) → ¬ (a ≤ k ∧ k < a + 48) → u.1 k j = s.1 k j
theorem KG_tr {a : Nat} {s t u : gx_S} (x : KG a s t) (y : KG a t u) : KG a s u := ⟨y.1.trans x.1, fun k j h1 h2 => (y.2 k j h1 h2).trans (x.2 k j h1 h2)⟩
theorem KG_rf (a : Nat) (s : gx_S) : KG a s s := ⟨rfl, fun _ _ _ _ => rfl⟩
theorem KG_MR {a : Nat} {s u : gx_S} {f : Nat → Int} {R C : Nat} (ha : ga a) (x : KG a s u) (m : MR s 1 f R C) : MR u 1 f R C := MR_o (fun k j h1 h2 => x.2 k j (by omega) (by have := ha.1; omega)) m
/-- makeLives -/
theorem sp_20 {s : gx_S} {f : Nat → Int} {R C g a D : Nat} (m : MR s 1 f R C) (M : MP f R C) (hg : g < 3) (ha : ga a) (G : GGD s f R C g a D) : ∃ (D' : Nat) (u : gx_S), gm_20 a s = some u ∧ KG a s u ∧ GGD u f R C g a D' ∧ D' / 1 % 2 = 1 := by
  obtain ⟨a71, a215, ho, t3, t12, t21, t30, t39⟩ := ha
  obtain ⟨hD, e8, e9, g1, g2, g4, g8, g16, g32⟩ := G
  obtain ⟨D', t, q1, q2, q3, q4, q5, q6, q7⟩ := sp_21 (w := 1) ho hD (by decide) e8
  have q1 : gm_21 a 1 s = some (decide (¬ D / 1 % 2 = 1), t) := q1
  have n2 := q7 2 (by decide) (by decide)
  have n4 := q7 4 (by decide) (by decide)
  have n8 := q7 8 (by decide) (by decide)
  have n16 := q7 16 (by decide) (by decide)
  have n32 := q7 32 (by decide) (by decide)
  have to : ∀ k j, ¬ (k = a ∧ j = 8) → t.1 k j = s.1 k j := q3
  unfold gm_20
  rw [if_pos ho, q1, Option.bind_some]
  by_cases z : D / 1 % 2 = 1
  · rw [decide_eq_false (fun h => h z), if_pos (show gb (false, t).1 = 0 from (by decide : gb false = 0))]
    obtain ⟨l1, l2, l3⟩ := g1 z
    refine ⟨D', t, rfl, ⟨q2, fun k j h1 h2 => to k j (by omega)⟩, ⟨q5, q4, (to a 9 (by omega)).trans e9, fun _ => ⟨fun z hz => (to _ _ (by omega)).trans (l1 z hz), (to _ _ (by omega)).trans l2, (to _ _ (by omega)).trans l3⟩, fun h => ?_, fun h => ?_, fun h => ?_, fun h => ?_, fun h => ?_⟩, q6⟩
    · exact ⟨q6, TM_o (fun k j h1 h2 => to k j (by omega)) (g2 (n2 ▸ h)).2⟩
    · exact TR_o (fun k j h1 h2 => to k j (by omega)) (g4 (n4 ▸ h))
    · exact ⟨q6, TR_o (fun k j h1 h2 => to k j (by omega)) (g8 (n8 ▸ h)).2⟩
    · exact TR_o (fun k j h1 h2 => to k j (by omega)) (g16 (n16 ▸ h))
    · obtain ⟨x1, x2⟩ := g32 (n32 ▸ h)
      exact ⟨n2.trans x1, fun k hk => by rw [to _ _ (by omega)]; exact x2 k hk⟩
  · rw [decide_eq_true z, if_neg (show ¬ gb (true, t).1 = 0 from (by decide : ¬ gb true = 0))]
    have mt : MR t 1 f R C := MR_o (fun k j h1 h2 => to k j (by omega)) m
    obtain ⟨u, u1, u2, u3, u4, u5, u6⟩ := sp_22 mt M hg a71 ho t39 ((to a 9 (by omega)).trans e9)
    have u8 : u.1 a 8 = D' := (u6 a 8 (by omega) (by omega) (by omega) (by omega) (by omega)).trans q4
    have u9 : u.1 a 9 = g := (u6 a 9 (by omega) (by omega) (by omega) (by omega) (by omega)).trans ((to a 9 (by omega)).trans e9)
    have uo : ∀ k j, a + 2 ≤ k → k ≤ a + 39 → u.1 k j = s.1 k j := fun k j h1 h2 => (u6 k j (by omega) (by omega) (by omega) (by omega) (by omega)).trans (to k j (by omega))
    show ∃ (D' : Nat) (w : gx_S), ((gm_22 a t).bind fun q10 => some q10) = some w ∧ _
    rw [u1, Option.bind_some]
    refine ⟨D', u, rfl, ⟨u2.trans q2, fun k j h1 h2 => (u6 k j (by omega) (by omega) (by omega) (by omega) (by omega)).trans (to k j (by omega))⟩, ⟨q5, u8, u9, fun _ => ⟨u3, u4, u5⟩, fun h => ?_, fun h => ?_, fun h => ?_, fun h => ?_, fun h => ?_⟩, q6⟩
    · exact absurd (g2 (n2 ▸ h)).1 z
    · exact TR_o (fun k j h1 h2 => uo k j (by omega) (by omega)) (g4 (n4 ▸ h))
    · exact absurd (g8 (n8 ▸ h)).1 z
    · exact TR_o (fun k j h1 h2 => uo k j (by omega) (by omega)) (g16 (n16 ▸ h))
    · exact absurd (g2 (g32 (n32 ▸ h)).1).1 z
