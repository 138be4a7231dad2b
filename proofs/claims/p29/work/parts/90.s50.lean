/-! THE REFERENCE: who lives where -/
def ASf (f : Nat → Int) (R C g : Nat) : Int := if SHr f R C then 0 else UN f R C g
def L0 (f : Nat → Int) (R C g : Nat) (z : Nat) : Int := if 0 < NC f R C 0 z then f (5 + 9 * g + z) else 0
def Psh (f : Nat → Int) (R C g : Nat) (x : Nat) : Int := if x = 0 then UN f R C g - ASf f R C g else 0
def Ash (f : Nat → Int) (R C g : Nat) (x y : Nat) : Int := if x = 0 ∧ y < 8 then (if sg (L0 f R C g) 8 = 0 then NC f R C 0 y else L0 f R C g y) else 0
def LV (f : Nat → Int) (R C g : Nat) (z : Nat) : Int := L0 f R C g z + TB 0 (Psh f R C g) (Ash f R C g) 0 z
theorem L0_r {f : Nat → Int} {R C g : Nat} (M : MP f R C) (hg : g < 3) : (∀ z, z < 8 → 0 ≤ L0 f R C g z) ∧ sg (L0 f R C g) 8 + UN f R C g = sg (fun z => f (5 + 9 * g + z)) 9 := by
  obtain ⟨a, b⟩ := M.2.2.2.2.1 g hg
  refine ⟨fun z hz => ?_, ?_⟩
  · unfold L0
    split
    · exact a z (by omega)
    · omega
  · have e := sg_add (L0 f R C g) (fun z => if 0 < NC f R C 0 (z : Nat) then 0 else f (5 + 9 * g + z)) 8
    rw [sg_eq (f := fun z => L0 f R C g z + (if 0 < NC f R C 0 (z : Nat) then 0 else f (5 + 9 * g + z))) (g := fun z => f (5 + 9 * g + z)) fun z hz => by
      show L0 f R C g z + (if 0 < NC f R C 0 z then 0 else f (5 + 9 * g + z)) = _
      unfold L0
      by_cases q : 0 < NC f R C 0 z
      · rw [if_pos q, if_pos q]; omega
      · rw [if_neg q, if_neg q]; omega] at e
    have d : sg (fun z => f (5 + 9 * g + z)) 9 = sg (fun z => f (5 + 9 * g + z)) 8 + f (5 + 9 * g + 8) := rfl
    unfold UN
    omega
theorem PA_sh {f : Nat → Int} {R C g : Nat} (M : MP f R C) (hg : g < 3) : PA (Psh f R C g) (Ash f R C g) ∧ ∀ x y, x < 8 → y < 9 → ¬ (x < 1 ∧ y < 8) → Ash f R C g x y = 0 := by
  obtain ⟨a, b⟩ := L0_r M hg
  have u := UN_r M hg
  have m := (M.2.2.2.2.1 g hg).2
  have hRC := RC_96 M.1.2.2.1 M.1.2.2.2
  have n : ∀ z, 0 ≤ NC f R C 0 z ∧ NC f R C 0 z ≤ 96 := fun z => by
    have := NC_nn f R C 0 z
    rw [← Int.natCast_mul] at this
    omega
  have l : ∀ z, z < 8 → L0 f R C g z ≤ 89991 := fun z hz => by
    have := sg_at a z hz
    omega
  have A1 : ∀ x y, 0 ≤ Ash f R C g x y ∧ Ash f R C g x y ≤ 89991 := fun x y => by
    unfold Ash
    by_cases q : x = 0 ∧ y < 8
    · rw [if_pos q]
      have := n y
      have := a y q.2
      have := l y q.2
      split <;> omega
    · rw [if_neg q]
      omega
  have A0 : ∀ x y, x < 8 → y < 9 → ¬ (x < 1 ∧ y < 8) → Ash f R C g x y = 0 := fun x y _ _ h => if_neg (by omega)
  refine ⟨⟨fun x hx => ?_, fun x y _ _ => ?_, ?_⟩, A0⟩
  · unfold Psh ASf
    split
    · split <;> omega
    · omega
  · have := A1 x y
    omega
  · rw [sg_cut0 (f := fun x => sg (fun y => Ash f R C g x y) 9) (m := 1) (n := 8) (by omega) fun k h1 h2 => sg_0 fun y hy => A0 k y h2 hy (by omega)]
    have e := sg_le (f := fun y => Ash f R C g 0 y) (g := fun _ => 89991 * 1) (n := 9) fun y _ => by
      show Ash f R C g 0 y ≤ 89991 * 1
      have := (A1 0 y).2
      omega
    rw [sg_mul, sg_one] at e
    show 0 + sg (fun y => Ash f R C g 0 y) 9 ≤ 1000000
    omega
theorem TB_0 {md : Int} {P : Nat → Int} {A : Nat → Nat → Int} (hmd : md = 0 ∨ md = 1) (h : PA P A) (h8 : md = 1 → sg (fun x => sg (fun y => A x y) 9) 8 ≤ 864) : (∀ x y, x < 8 → y < 9 → 0 ≤ TB md P A x y ∧ TB md P A x y ≤ P x) ∧ ∀ x, x < 8 → sg (fun y => TB md P A x y) 9 = if sg (fun y => A x y) 9 ≤ 0 then 0 else P x := by
  obtain ⟨u, u1, u2, u3, u4, u5, u6, _⟩ := TB_class (t := 74) (c := cc P A) (by decide +kernel) hmd h h8 (fun _ _ => rfl) (fun i hi => ⟨h.2.1 (i / 9) (i % 9) (by omega) (by omega), h.2.1 (i / 9) (i % 9) (by omega) (by omega)⟩) fun x y _ hy => cc_am P A hy
  refine ⟨fun x y hx hy => ⟨(u5 x y hx hy).1, ?_⟩, u6⟩
  have a := sg_at (f := fun y => TB md P A x y) (n := 9) (fun k hk => (u5 x k hx hk).1) y hy
  have b := u6 x hx
  have c := (h.1 x hx).1
  split at b <;> omega
/-- the reference's scratch alone changes -/
def KR (s u : gx_S) : Prop := (∀ k j, (k < 215 ∨ k = 216 ∨ k = 217 ∨ k = 218 ∨ (k = 215 ∧ (j = 2 ∨ j = 4)) ∨ 237 ≤ k) → u.1 k j = s.1 k j) ∧ (∀ k j, k < 215 ∨ 237 ≤ k → u.2 k j = s.2 k j) ∧ (SC s → SC u)
/-- the same, with its other scratch -/
def KRw (s u : gx_S) : Prop := (∀ k j, (k < 215 ∨ k = 216 ∨ k = 217 ∨ k = 218 ∨ (k = 215 ∧ (j = 2 ∨ j = 4))) → u.1 k j = s.1 k j) ∧ (∀ k j, k < 215 → u.2 k j = s.2 k j) ∧ (SC s → SC u)
theorem KR_w {s u : gx_S} (a : KR s u) : KRw s u := ⟨fun k j h => a.1 k j (by omega), fun k j h => a.2.1 k j (.inl h), a.2.2⟩
theorem KRw_rf (s : gx_S) : KRw s s := ⟨fun _ _ _ => rfl, fun _ _ _ => rfl, fun h => h⟩
theorem KRw_tr {s t u : gx_S} (a : KRw s t) (b : KRw t u) : KRw s u := ⟨fun k j h => (b.1 k j h).trans (a.1 k j h), fun k j h => (b.2.1 k j h).trans (a.2.1 k j h), fun h => b.2.2 (a.2.2 h)⟩
theorem KRw_216 {s u : gx_S} (a : KRw s u) : u.1 216 = s.1 216 := funext fun j => a.1 216 j (by omega)
theorem KR_rf (s : gx_S) : KR s s := ⟨fun _ _ _ => rfl, fun _ _ _ => rfl, fun h => h⟩
theorem KR_tr {s t u : gx_S} (a : KR s t) (b : KR t u) : KR s u := ⟨fun k j h => (b.1 k j h).trans (a.1 k j h), fun k j h => (b.2.1 k j h).trans (a.2.1 k j h), fun h => b.2.2 (a.2.2 h)⟩
theorem KR_216 {s u : gx_S} (a : KR s u) : u.1 216 = s.1 216 := funext fun j => a.1 216 j (by omega)
theorem KR_rc {s u : gx_S} (a : rc s u) (h : SC u) : KR s u := ⟨fun k j q => a.1 k j (by omega) (by omega) (by omega) (by omega) (by omega), fun k j q => a.2 k j (by omega) (by omega), fun _ => h⟩
theorem KR_159 (s : gx_S) (a b : Int) : ∃ u : gx_S, gm_159 a b s = some u ∧ KR s u ∧ u.1 215 17 = a ∧ u.1 215 18 = b ∧ (∀ j, j < 72 → u.1 222 j = 0 ∧ u.2 224 j = 0 ∧ u.2 225 j = 0) ∧ (∀ k j, k ≠ 222 → k ≠ 215 → u.1 k j = s.1 k j) ∧ ∀ k j, k ≠ 224 → k ≠ 225 → u.2 k j = s.2 k j := by
  have o1 : ∀ k j, k ≠ 222 → (bg (gw1 (gw1 s 215 17 a) 215 18 b) 72).1 k j = (gw1 (gw1 s 215 17 a) 215 18 b).1 k j := fun k j h => if_neg fun x => h x.1
  have o2 : ∀ k j, k ≠ 224 → k ≠ 225 → (bg (gw1 (gw1 s 215 17 a) 215 18 b) 72).2 k j = s.2 k j := fun k j h1 h2 => if_neg (by omega)
  have o3 : ∀ k j, k ≠ 222 → ¬ (k = 215 ∧ (j = 17 ∨ j = 18)) → (bg (gw1 (gw1 s 215 17 a) 215 18 b) 72).1 k j = s.1 k j := fun k j h h' => by
    rw [o1 k j h, gw1_1, if_neg (by omega), gw1_1, if_neg (by omega)]
  have z5 : ∀ j, j < 72 → (bg (gw1 (gw1 s 215 17 a) 215 18 b) 72).2 225 j = 0 := fun j hj => if_pos ⟨.inr rfl, hj⟩
  refine ⟨_, sp_159 a b s, ⟨fun k j q => o3 k j (by omega) (by omega), fun k j q => o2 k j (by omega) (by omega), fun S => ⟨fun j hj => ?_, fun c hc => ?_, fun k hk => ?_⟩⟩, ?_, ?_, fun j hj => ⟨if_pos ⟨rfl, hj⟩, if_pos ⟨.inl rfl, hj⟩, z5 j hj⟩, fun k j h h' => o3 k j h (by omega), o2⟩
  · rw [z5 j hj, o3 232 j (by decide) (by omega), o3 233 j (by decide) (by omega), o3 234 j (by decide) (by omega)]
    have := S.1 j hj
    exact ⟨this.1, this.2.1, this.2.2.1, by omega, by omega⟩
  · rw [o3 235 c (by decide) (by omega), o2 229 c (by decide) (by decide), o2 230 c (by decide) (by decide), o2 227 c (by decide) (by decide), o2 228 c (by decide) (by decide)]
    exact S.2.1 c hc
  · rw [o2 231 k (by decide) (by decide)]
    exact S.2.2 k hk
  · rw [o1 215 17 (by decide), gw1_1, if_neg (by omega), gw1_1, if_pos ⟨rfl, rfl⟩]
  · rw [o1 215 18 (by decide), gw1_1, if_pos ⟨rfl, rfl⟩]
