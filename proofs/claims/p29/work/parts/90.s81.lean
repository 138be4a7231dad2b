/-! CALLS: layer -/
def orn (T l : Nat) : Nat := if T / 2 ^ l % 2 = 1 then T else T + 2 ^ l
theorem bset_n : ∀ T, T < 8 → ∀ l, l < 3 → bset (T : Nat) (l : Nat) = (orn T l : Nat) := by decide +kernel
theorem orn_r : ∀ T, T < 8 → ∀ l, l < 3 → orn T l < 8 ∧ ¬ orn T l = 0 ∧ ∀ l', l' < 3 → (orn T l / 2 ^ l' % 2 = 1 ↔ l' = l ∨ T / 2 ^ l' % 2 = 1) := by decide +kernel
/-- the map with another layer -/
def fy (f : Nat → Int) (l : Nat) (T : Int) (r c : Nat) (h : Nat → Int) (i : Nat) : Int := if i = 0 then r else if i = 1 then c else if i = 2 then T else if 52 + 96 * l ≤ i ∧ i < 148 + 96 * l then h (i - 52 - 96 * l) else f i
theorem fy_o {f : Nat → Int} {l : Nat} {T : Int} {r c : Nat} {h : Nat → Int} {i : Nat} (h1 : 3 ≤ i) (h2 : ¬ (52 + 96 * l ≤ i ∧ i < 148 + 96 * l)) : fy f l T r c h i = f i := by
  unfold fy
  rw [if_neg (by omega), if_neg (by omega), if_neg (by omega), if_neg h2]
theorem fy_l {f : Nat → Int} {l : Nat} {T : Int} {r c : Nat} {h : Nat → Int} {i : Nat} (h2 : i < 96) : fy f l T r c h (52 + 96 * l + i) = h i := by
  unfold fy
  rw [if_neg (by omega), if_neg (by omega), if_neg (by omega), if_pos (by omega), show 52 + 96 * l + i - 52 - 96 * l = i by omega]
/-- what the layers told become -/
def tl_ (f : Nat → Int) (r c : Nat) : Int := if f 0 = r ∧ f 1 = c then f 2 else 0
theorem kD {R C k : Nat} (hC : C ≤ 12) (hR : R ≤ 8) (hk : k < R * C) : k / C < R ∧ k % C < C ∧ k / C * C + k % C = k ∧ 12 * (k / C) + k % C < 96 ∧ k < 96 := by
  have h0 : 0 < C := Nat.pos_of_ne_zero fun h => by rw [h, Nat.mul_zero] at hk; omega
  have a : k / C < R := (Nat.div_lt_iff_lt_mul h0).mpr hk
  have b := Nat.mod_lt k h0
  have d : k / C * C + k % C = k := by rw [Nat.mul_comm]; exact Nat.div_add_mod k C
  have e := RC_96 hR hC
  exact ⟨a, b, d, by omega, by omega⟩
theorem fy_M {f : Nat → Int} {R C l r c : Nat} {h : Nat → Int} (M : MP f R C) (hl : l < 3) (hr : 1 ≤ r ∧ r ≤ 8) (hc : 1 ≤ c ∧ c ≤ 12) (h0 : ¬ l = 0 → f 2 % 2 = 1 ∧ r = R ∧ c = C) (hh : ∀ i j, i < r → j < c → 0 ≤ h (12 * i + j) ∧ h (12 * i + j) ≤ if l = 2 then 3 else 8) : MP (fy f l (bset (tl_ f r c) l) r c h) r c ∧ ∀ l', l' < 3 → bset (tl_ f r c) l / 2 ^ l' % 2 = 1 → l' = l ∨ (r = R ∧ c = C ∧ f 2 / 2 ^ l' % 2 = 1) := by
  obtain ⟨m1, m2, m3, m4, m5, m6, m7, m8, m10⟩ := M
  have tr : ∃ T : Nat, tl_ f r c = T ∧ T < 8 := by
    unfold tl_
    by_cases q : f 0 = r ∧ f 1 = c
    · rw [if_pos q]
      exact ⟨(f 2).toNat, by omega, by omega⟩
    · rw [if_neg q]
      exact ⟨0, rfl, by omega⟩
  obtain ⟨T, eT, hT⟩ := tr
  obtain ⟨o1, o2, o3⟩ := orn_r T hT l hl
  have eb : bset (tl_ f r c) l = (orn T l : Nat) := by rw [eT]; exact bset_n T hT l hl
  have pw : ∀ (x l' : Nat), l' < 3 → ((x : Int) / 2 ^ l' % 2 = 1 ↔ x / 2 ^ l' % 2 = 1) := fun x l' q => by
    rcases (show l' = 0 ∨ l' = 1 ∨ l' = 2 by omega) with e | e | e
    · rw [e]
      show (x : Int) / 1 % 2 = 1 ↔ x / 1 % 2 = 1
      omega
    · rw [e]
      show (x : Int) / 2 % 2 = 1 ↔ x / 2 % 2 = 1
      omega
    · rw [e]
      show (x : Int) / 4 % 2 = 1 ↔ x / 4 % 2 = 1
      omega
  have key : ∀ l', l' < 3 → bset (tl_ f r c) l / 2 ^ l' % 2 = 1 → l' = l ∨ (r = R ∧ c = C ∧ f 2 / 2 ^ l' % 2 = 1) := fun l' hl' q => by
    rw [eb] at q
    rcases (o3 l' hl').mp ((pw _ _ hl').mp q) with z | z
    · exact .inl z
    · refine .inr ?_
      unfold tl_ at eT
      by_cases y : f 0 = r ∧ f 1 = c
      · rw [if_pos y] at eT
        rw [eT]
        exact ⟨by omega, by omega, (pw _ _ hl').mpr z⟩
      · rw [if_neg y] at eT
        have : T = 0 := by omega
        rw [this, Nat.zero_div] at z
        omega
  have e2 : fy f l (bset (tl_ f r c) l) r c h 2 = (orn T l : Nat) := by
    unfold fy
    rw [if_neg (by omega), if_neg (by omega), if_pos rfl, eb]
  refine ⟨⟨⟨rfl, rfl, hr.2, hc.2⟩, by rw [e2]; omega, by rw [fy_o (by omega) (by omega)]; exact m3, by rw [fy_o (by omega) (by omega)]; exact m4, fun g hg => ⟨fun z hz => by rw [fy_o (by omega) (by omega)]; exact (m5 g hg).1 z hz, ?_⟩, fun i hi => by rw [fy_o (by omega) (by omega)]; exact m6 i hi, fun i hi => by rw [fy_o (by omega) (by omega)]; exact m7 i hi, fun l' hl' b k hk => ?_, fun _ => ⟨?_, hr.1, hc.1⟩⟩, key⟩
  · rw [sg_eq (g := fun z => f (5 + 9 * g + z)) fun z hz => fy_o (by omega) (by omega)]
    exact (m5 g hg).2
  · obtain ⟨k1, k2, k3, k4, k5⟩ := kD hc.2 hr.2 hk
    have b' : bset (tl_ f r c) l / 2 ^ l' % 2 = 1 := by
      rw [e2] at b
      rw [eb]
      exact b
    by_cases z : l' = l
    · rw [z, show 52 + 96 * l + 12 * (k / c) + k % c = 52 + 96 * l + (12 * (k / c) + k % c) by omega, fy_l k4]
      exact hh _ _ k1 k2
    · rcases key l' hl' b' with y | ⟨y1, y2, y3⟩
      · exact absurd y z
      · rw [fy_o (by omega) (by omega)]
        have := m8 l' hl' y3 k (by rw [← y1, ← y2]; exact hk)
        rw [← y2] at this
        exact this
  · have y : bset (tl_ f r c) l / 2 ^ 0 % 2 = 1 := by
      rw [eb]
      refine (pw _ _ (by omega)).mpr ((o3 0 (by omega)).mpr ?_)
      by_cases z : l = 0
      · exact .inl z.symm
      · obtain ⟨z1, z2, z3⟩ := h0 z
        refine .inr ?_
        have : tl_ f r c = f 2 := if_pos ⟨by omega, by omega⟩
        rw [this] at eT
        have q : (T : Int) / 2 ^ 0 % 2 = 1 := by
          rw [← eT]
          show f 2 / 1 % 2 = 1
          rw [Int.ediv_one]
          exact z1
        exact (pw _ _ (by omega)).mp q
    rw [e2]
    rw [eb] at y
    have y : ((orn T l : Nat) : Int) / 1 % 2 = 1 := y
    rw [Int.ediv_one] at y
    exact y
theorem sl_145_126 {l : Nat} (hl : l < 3) : ∀ (m j : Nat) (s : gx_S), 96 < m + j → j ≤ 96 → ∃ u : gx_S, gm_145_126 m l j s = some (s.1 216 0 * s.1 216 1, u) ∧ u.2 = s.2 ∧ (∀ k i, k ≠ 216 → u.1 k i = s.1 k i) ∧ ∀ i, u.1 216 i = if 52 + 96 * l + j ≤ i ∧ i < 148 + 96 * l then s.1 219 (i - 52 - 96 * l) else s.1 216 i := by
  intro m
  induction m with
  | zero => intro j s h; omega
  | succ m ih =>
    intro j s h hj
    rw [gm_145_126, if_pos (by omega)]
    by_cases q : j = 96
    · rw [if_pos (by omega)]
      exact ⟨s, rfl, rfl, fun _ _ _ => rfl, fun i => by rw [if_neg (by omega)]⟩
    · have ce : ((j : Int) + 1) = ((j + 1 : Nat) : Int) := rfl
      have i5 : ((j : Int)).toNat = j := by omega
      have i6 : ((52 + (96 * (l : Int))) + (j : Int)).toNat = 52 + 96 * l + j := by omega
      rw [if_neg (by omega), if_pos (by omega), if_pos (by omega), i5, i6, ce]
      obtain ⟨u, u1, u2, u3, u4⟩ := ih (j + 1) (gw1 s 216 (52 + 96 * l + j) (s.1 219 j)) (by omega) (by omega)
      rw [gw1_1, if_neg (by omega), gw1_1, if_neg (by omega)] at u1
      refine ⟨u, u1, u2, fun k i h1 => by rw [u3 k i h1, gw1_1, if_neg (fun x => h1 x.1)], fun i => ?_⟩
      rw [u4, gw1_1, gw1_1]
      by_cases y : i = 52 + 96 * l + j
      · rw [if_neg (show ¬ (52 + 96 * l + (j + 1) ≤ i ∧ i < 148 + 96 * l) by omega), if_pos (show (216 : Nat) = 216 ∧ i = 52 + 96 * l + j from ⟨rfl, y⟩), if_pos (show 52 + 96 * l + j ≤ i ∧ i < 148 + 96 * l by omega), y, show 52 + 96 * l + j - 52 - 96 * l = j by omega]
      · by_cases y2 : 52 + 96 * l + (j + 1) ≤ i ∧ i < 148 + 96 * l
        · rw [if_pos y2, if_neg (show ¬ ((219 : Nat) = 216 ∧ i - 52 - 96 * l = 52 + 96 * l + j) by omega), if_pos (show 52 + 96 * l + j ≤ i ∧ i < 148 + 96 * l by omega)]
        · rw [if_neg y2, if_neg (show ¬ ((216 : Nat) = 216 ∧ i = 52 + 96 * l + j) from fun x => y x.2), if_neg (show ¬ (52 + 96 * l + j ≤ i ∧ i < 148 + 96 * l) by omega)]
