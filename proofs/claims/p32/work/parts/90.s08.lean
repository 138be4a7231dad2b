section
/-! FIT: the reference lays cells by zone and land, weighs, finds the misfit -/
theorem sl_205_121 {g : Nat} (hg : g < 3) : ∀ (n j : Nat) (t : gx_S), 4 < n + j → j ≤ 4 → ∃ u : gx_S, gm_205_121 n g j t = some u ∧ u.2 = t.2 ∧ (∀ a i, a ≠ 243 → u.1 a i = t.1 a i) ∧ ∀ i, u.1 243 i = if j ≤ i ∧ i < 4 then t.1 216 (32 + 4 * g + i) else t.1 243 i := by
  intro n
  induction n with
  | zero => intro j t h; omega
  | succ n ih =>
    intro j t h hj
    rw [gm_205_121, if_pos (by omega)]
    by_cases q : j = 4
    · rw [if_pos (by omega)]
      exact ⟨t, rfl, rfl, fun _ _ _ => rfl, fun i => by rw [if_neg (by omega)]⟩
    · have ce : ((j : Int) + 1) = ((j + 1 : Nat) : Int) := rfl
      have i1 : ((j : Int)).toNat = j := by omega
      have i2 : ((32 + (4 * (g : Int))) + (j : Int)).toNat = 32 + 4 * g + j := by omega
      rw [if_neg (by omega), if_pos (by omega), if_pos (by omega), i1, i2, ce]
      obtain ⟨u, u1, u2, u3, u4⟩ := ih (j + 1) (gw1 t 243 j (t.1 216 (32 + 4 * g + j))) (by omega) (by omega)
      refine ⟨u, u1, u2, fun a i h => by rw [u3 a i h, gw1_1, if_neg (fun x => h x.1)], fun i => ?_⟩
      rw [u4, gw1_1 t 243 j _ 216, if_neg (show ¬ ((216 : Nat) = 243 ∧ 32 + 4 * g + i = j) by omega), gw1_1]
      by_cases z : i = j
      · rw [if_neg (show ¬ (j + 1 ≤ i ∧ i < 4) by omega), if_pos (show (243 : Nat) = 243 ∧ i = j from ⟨rfl, z⟩), if_pos (show j ≤ i ∧ i < 4 by omega), z]
      · rw [if_neg (show ¬ ((243 : Nat) = 243 ∧ i = j) from fun x => z x.2)]
        by_cases y : j + 1 ≤ i ∧ i < 4
        · rw [if_pos y, if_pos (show j ≤ i ∧ i < 4 by omega)]
        · rw [if_neg y, if_neg (show ¬ (j ≤ i ∧ i < 4) by omega)]
theorem sl_205_79 {f : Nat → Int} {R C g : Nat} (M : MP f R C) (hg : g < 3) : ∀ (n j : Nat) (t : gx_S), 8 < n + j → j ≤ 8 → t.1 216 = f → t.1 215 42 = sg (L0 f R C g) j → ∃ u : gx_S, gm_205_79 n g j t = gm_205_121 100000 g 0 u ∧ u.2 = t.2 ∧ (∀ a i, ¬ (a = 215 ∧ i = 42) → u.1 a i = t.1 a i) ∧ u.1 215 42 = CP f R C g := by
  intro n
  induction n with
  | zero => intro j t h; omega
  | succ n ih =>
    intro j t h hj ef e42
    rw [gm_205_79, if_pos (by omega)]
    by_cases q : j = 8
    · rw [if_pos (by omega)]
      rw [q] at e42
      exact ⟨t, rfl, rfl, fun _ _ _ => rfl, e42⟩
    · have ce : ((j : Int) + 1) = ((j + 1 : Nat) : Int) := rfl
      have M' : MP (t.1 216) R C := by rw [ef]; exact M
      have c53 := sp_153g M' 0 j (by omega) (by omega)
      have c53 : gm_153 0 j t = _ := c53
      rw [ef] at c53
      have nx : ∀ x : Int, x = L0 f R C g j → ∃ u : gx_S, gm_205_79 n g ((j + 1 : Nat) : Int) (gw1 t 215 42 (t.1 215 42 + x)) = gm_205_121 100000 g 0 u ∧ u.2 = t.2 ∧ (∀ a i, ¬ (a = 215 ∧ i = 42) → u.1 a i = t.1 a i) ∧ u.1 215 42 = CP f R C g := fun x hx => by
        obtain ⟨u, u1, u2, u3, u4⟩ := ih (j + 1) (gw1 t 215 42 (t.1 215 42 + x)) (by omega) (by omega) (by funext i; rw [gw1_1, if_neg (by omega), ef]) (by rw [gw1_1, if_pos ⟨rfl, rfl⟩, e42, hx]; rfl)
        exact ⟨u, u1, u2, fun a i h => by rw [u3 a i h, gw1_1, if_neg h], u4⟩
      rw [if_neg (by omega), c53, Option.bind_some]
      by_cases y : 0 < NC f R C 0 j
      · rw [if_neg (fun q => (gbD t).mp q y)]
        show ∃ u : gx_S, ((gm_155 g j t).bind _) = _ ∧ _
        rw [sp_155 g j hg (by omega), Option.bind_some]
        unfold gm_205_109
        rw [ce, ef]
        exact nx _ (by unfold L0; rw [if_pos y])
      · rw [if_pos ((gbD t).mpr y)]
        unfold gm_205_109
        rw [ce]
        exact nx 0 (by unfold L0; rw [if_neg y])
theorem sl_205_23 {f : Nat → Int} {R C g : Nat} (M : MP f R C) (h7 : f 2 = 7) : ∀ (n k : Nat) (t : gx_S), R * C < n + k → k ≤ R * C → t.1 216 = f → (∀ z l, z < 8 → l < 4 → t.1 242 (4 * z + l) = CLn f C z l k) → ∃ u : gx_S, gm_205_23 n g k t = gm_205_79 100000 g 0 (gw1 u 215 42 0) ∧ u.2 = t.2 ∧ (∀ a i, a ≠ 242 → u.1 a i = t.1 a i) ∧ ∀ z l, z < 8 → l < 4 → u.1 242 (4 * z + l) = CL f R C z l := by
  intro n
  induction n with
  | zero => intro k t h; omega
  | succ n ih =>
    intro k t h hk ef e42
    have hRC := RC_96 M.1.2.2.1 M.1.2.2.2
    have M' : MP (t.1 216) R C := by rw [ef]; exact M
    have hm : t.1 216 0 * t.1 216 1 = ((R * C : Nat) : Int) := by rw [ef, M.1.1, M.1.2.1]; simp
    rw [gm_205_23, sp_151, hm, Option.bind_some]
    dsimp only
    rw [if_pos (by omega), if_pos (by omega)]
    by_cases q : k = R * C
    · rw [if_pos (by omega)]
      rw [q] at e42
      exact ⟨t, rfl, rfl, fun _ _ _ => rfl, e42⟩
    · have hkk : k < R * C := by omega
      have cs := co_s M h7 hkk
      have ce : ((k : Int) + 1) = ((k + 1 : Nat) : Int) := rfl
      have c0 := sp_152 (s := t) (R := R) (C := C) (MP_mz M') 0 k (by omega) hkk
      have c0 : gm_152 0 k t = some (t.1 216 (52 + 96 * 0 + 12 * (k / C) + k % C), t) := c0
      rw [ef, cs.1.1] at c0
      have c2 := sp_152 (s := t) (R := R) (C := C) (MP_mz M') 2 k (by omega) hkk
      have c2 : gm_152 2 k t = some (t.1 216 (52 + 96 * 2 + 12 * (k / C) + k % C), t) := c2
      rw [ef, cs.2.2.1] at c2
      have st : ∀ z l, CLn f C z l (k + 1) = CLn f C z l k + bi (co f C 0 k = z ∧ co f C 2 k = l) := fun z l => rfl
      rw [if_neg (by omega), c0, Option.bind_some]
      dsimp only
      rw [if_pos (by omega)]
      by_cases y : co f C 0 k = 8
      · rw [if_pos (by omega)]
        unfold gm_205_66
        rw [ce]
        refine ih (k + 1) t (by omega) (by omega) ef fun z l hz hl => ?_
        rw [st, e42 z l hz hl]
        unfold bi
        rw [if_neg (by omega), Int.add_zero]
      · have i1 : ((4 * (co f C 0 k : Int)) + (co f C 2 k : Int)).toNat = 4 * co f C 0 k + co f C 2 k := by omega
        rw [if_neg (by omega), c0, Option.bind_some]
        dsimp only
        rw [c2, Option.bind_some]
        dsimp only
        rw [if_pos (by omega), i1]
        unfold gm_205_66
        rw [ce]
        obtain ⟨v, hv⟩ : ∃ v, v = gw1 t 242 (4 * co f C 0 k + co f C 2 k) (t.1 242 (4 * co f C 0 k + co f C 2 k) + 1) := ⟨_, rfl⟩
        have vo : ∀ a i, a ≠ 242 → v.1 a i = t.1 a i := fun a i h => by rw [hv, gw1_1, if_neg (fun x => h x.1)]
        rw [← hv]
        obtain ⟨u, u1, u2, u3, u4⟩ := ih (k + 1) v (by omega) (by omega) (by funext i; rw [vo _ _ (by decide), ef]) fun z l hz hl => by
          rw [st, hv, gw1_1]
          unfold bi
          by_cases p : co f C 0 k = z ∧ co f C 2 k = l
          · rw [if_pos p, if_pos (by omega), ← e42 z l hz hl, p.1, p.2]
          · rw [if_neg p, if_neg (by omega), Int.add_zero]
            exact e42 z l hz hl
        exact ⟨u, u1, by rw [u2, hv]; rfl, fun a i h => (u3 a i h).trans (vo a i h), u4⟩
theorem sl_205_2 {g : Nat} : ∀ (n j : Nat) (t : gx_S), 32 < n + j → j ≤ 32 → ∃ u : gx_S, gm_205_2 n g j t = gm_205_23 100000 g 0 u ∧ u.2 = t.2 ∧ (∀ a i, a ≠ 242 → u.1 a i = t.1 a i) ∧ ∀ i, u.1 242 i = if j ≤ i ∧ i < 32 then 0 else t.1 242 i := by
  intro n
  induction n with
  | zero => intro j t h; omega
  | succ n ih =>
    intro j t h hj
    rw [gm_205_2, if_pos (by omega)]
    by_cases q : j = 32
    · rw [if_pos (by omega)]
      exact ⟨t, rfl, rfl, fun _ _ _ => rfl, fun i => by rw [if_neg (by omega)]⟩
    · have ce : ((j : Int) + 1) = ((j + 1 : Nat) : Int) := rfl
      have i1 : ((j : Int)).toNat = j := by omega
      rw [if_neg (by omega), if_pos (by omega), i1, ce]
      obtain ⟨u, u1, u2, u3, u4⟩ := ih (j + 1) (gw1 t 242 j 0) (by omega) (by omega)
      refine ⟨u, u1, u2, fun a i h => by rw [u3 a i h, gw1_1, if_neg (fun x => h x.1)], fun i => ?_⟩
      rw [u4, gw1_1]
      by_cases z : i = j
      · rw [if_neg (show ¬ (j + 1 ≤ i ∧ i < 32) by omega), if_pos (show (242 : Nat) = 242 ∧ i = j from ⟨rfl, z⟩), if_pos (show j ≤ i ∧ i < 32 by omega)]
      · rw [if_neg (show ¬ ((242 : Nat) = 242 ∧ i = j) from fun x => z x.2)]
        by_cases y : j + 1 ≤ i ∧ i < 32
        · rw [if_pos y, if_pos (show j ≤ i ∧ i < 32 by omega)]
        · rw [if_neg y, if_neg (show ¬ (j ≤ i ∧ i < 32) by omega)]
/-- cells by zone and land, the weights that are tried -/
def RSw (t : gx_S) (X : Nat → Nat → Int) (w : Nat → Int) : Prop := (∀ z l, z < 8 → l < 4 → t.1 242 (4 * z + l) = X z l) ∧ ∀ l, l < 4 → t.1 243 l = w l
theorem sp_205 {s : gx_S} {f : Nat → Int} {R C g : Nat} (ef : s.1 216 = f) (M : MP f R C) (h7 : f 2 = 7) (hg : g < 3) : ∃ u : gx_S, gm_205 g s = some u ∧ RSw u (CL f R C) (fun l => f (32 + 4 * g + l)) ∧ u.1 215 42 = CP f R C g ∧ u.2 = s.2 ∧ ∀ a i, a ≠ 242 → a ≠ 243 → ¬ (a = 215 ∧ i = 42) → u.1 a i = s.1 a i := by
  have hRC := RC_96 M.1.2.2.1 M.1.2.2.2
  obtain ⟨a, a1, a2, a3, a4⟩ := sl_205_2 (g := g) 100000 0 s (by omega) (by omega)
  have a1 : gm_205_2 100000 g 0 s = _ := a1
  have fa : a.1 216 = f := by funext i; rw [a3 _ _ (by decide), ef]
  obtain ⟨b, b1, b2, b3, b4⟩ := sl_205_23 (g := g) M h7 100000 0 a (by omega) (by omega) fa fun z l hz hl => by rw [a4, if_pos (by omega)]; rfl
  have b1 : gm_205_23 100000 g 0 a = _ := b1
  have fb : b.1 216 = f := by funext i; rw [b3 _ _ (by decide), fa]
  obtain ⟨d, d1, d2, d3, d4⟩ := sl_205_79 (g := g) M hg 100000 0 (gw1 b 215 42 0) (by omega) (by omega) (by funext i; rw [gw1_1, if_neg (by omega), fb]) (by rw [gw1_1, if_pos ⟨rfl, rfl⟩]; rfl)
  have d1 : gm_205_79 100000 g 0 (gw1 b 215 42 0) = _ := d1
  have fd : ∀ q i, ¬ (q = 215 ∧ i = 42) → d.1 q i = b.1 q i := fun q i h => by rw [d3 q i h, gw1_1, if_neg h]
  obtain ⟨u, u1, u2, u3, u4⟩ := sl_205_121 hg 100000 0 d (by omega) (by omega)
  have u1 : gm_205_121 100000 g 0 d = _ := u1
  refine ⟨u, ?_, ⟨fun z l hz hl => ?_, fun l hl => ?_⟩, by rw [u3 _ _ (by decide), d4], by rw [u2, d2, gw1_2, b2, a2], fun q i h1 h2 h3 => by rw [u3 q i h2, fd q i h3, b3 q i h1, a3 q i h1]⟩
  · unfold gm_205
    rw [a1, b1, d1, u1]
  · rw [u3 _ _ (by decide), fd _ _ (by omega), b4 z l hz hl]
  · rw [u4, if_pos (by omega), fd _ _ (by omega), fb]
theorem sp_206 {t : gx_S} {X : Nat → Nat → Int} {w : Nat → Int} (S : RSw t X w) {z : Nat} (hz : z < 8) : gm_206 z t = some (SZ X w z, t) := by
  have e : ∀ (n j : Nat), 4 < n + j → j ≤ 4 → gm_206_4 n z (sg (fun l => w l * X z l) j) j t = some (SZ X w z, t) := by
    intro n
    induction n with
    | zero => intro j h; omega
    | succ n ih =>
      intro j h hj
      rw [gm_206_4, if_pos (by omega)]
      by_cases q : j = 4
      · rw [if_pos (by omega), q]
        rfl
      · have ce : ((j : Int) + 1) = ((j + 1 : Nat) : Int) := rfl
        have i1 : ((j : Int)).toNat = j := by omega
        have i2 : ((4 * (z : Int)) + (j : Int)).toNat = 4 * z + j := by omega
        rw [if_neg (by omega), if_pos (by omega), if_pos (by omega), i1, i2, S.1 z j hz (by omega), S.2 j (by omega), ce]
        exact ih (j + 1) (by omega) (by omega)
  exact e 100000 0 (by omega) (by omega)
theorem sp_207 {t : gx_S} {X : Nat → Nat → Int} (S : ∀ z l, z < 8 → l < 4 → t.1 242 (4 * z + l) = X z l) {l : Nat} (hl : l < 4) : gm_207 l t = some (LC X l, t) := by
  have e : ∀ (n j : Nat), 8 < n + j → j ≤ 8 → gm_207_4 n l (sg (fun z => X z l) j) j t = some (LC X l, t) := by
    intro n
    induction n with
    | zero => intro j h; omega
    | succ n ih =>
      intro j h hj
      rw [gm_207_4, if_pos (by omega)]
      by_cases q : j = 8
      · rw [if_pos (by omega), q]
        rfl
      · have ce : ((j : Int) + 1) = ((j + 1 : Nat) : Int) := rfl
        have i2 : ((4 * (j : Int)) + (l : Int)).toNat = 4 * j + l := by omega
        rw [if_neg (by omega), if_pos (by omega), i2, S j l (by omega) hl, ce]
        exact ih (j + 1) (by omega) (by omega)
  exact e 100000 0 (by omega) (by omega)
theorem sp_208 {t : gx_S} {X : Nat → Nat → Int} {c : Nat → Int} {P : Int} (B : XB X c P) (S : ∀ z l, z < 8 → l < 4 → t.1 242 (4 * z + l) = X z l) {z : Nat} (hz : z < 8) : gm_208 z t = some (decide (KZ X z), t) := by
  have bd := sg_bd (f := fun l => X z l) (n := 4) fun l hl => B.1 z l hz hl
  have e : ∀ (n j : Nat), 4 < n + j → j ≤ 4 → gm_208_4 n z (sg (fun l => X z l) j) j t = some (decide (KZ X z), t) := by
    intro n
    induction n with
    | zero => intro j h; omega
    | succ n ih =>
      intro j h hj
      rw [gm_208_4, if_pos (by omega)]
      by_cases q : j = 4
      · rw [if_pos (by omega), q, if_pos (by omega)]
        by_cases y : sg (fun l => X z l) 4 ≤ 0
        · rw [if_pos y, decide_eq_false (show ¬ KZ X z from fun h : 0 < sg (fun l => X z l) 4 => by omega)]
        · rw [if_neg y, decide_eq_true (show KZ X z from (by omega : 0 < sg (fun l => X z l) 4))]
      · have ce : ((j : Int) + 1) = ((j + 1 : Nat) : Int) := rfl
        have i2 : ((4 * (z : Int)) + (j : Int)).toNat = 4 * z + j := by omega
        rw [if_neg (by omega), if_pos (by omega), i2, S z j hz (by omega), ce]
        exact ih (j + 1) (by omega) (by omega)
  exact e 100000 0 (by omega) (by omega)
theorem SA_sum (X : Nat → Nat → Int) (w : Nat → Int) : sg (fun z => SZ X w z) 8 = SA X w := by
  refine (sg_swap (fun z l => w l * X z l) 4 8).trans (sg_eq fun l hl => ?_)
  exact sg_mul (w l) (fun z => X z l) 8
theorem sl_209_41 {X : Nat → Nat → Int} {c : Nat → Int} {P : Int} {w : Nat → Int} {g : Nat} (hg : g < 3) (B : XB X c P) (W : wB9 w) : ∀ (n j : Nat) (t : gx_S), 8 < n + j → j ≤ 8 → RSw t X w → t.1 215 42 = P → (∀ z, z < 8 → t.1 216 (5 + 9 * g + z) = c z) → t.2 215 40 = sg (fun z => if KZ X z then ab (c z * SA X w - P * SZ X w z) else 0) j → ∃ u : gx_S, gm_209_41 n g (SA X w) j t = some (decide (0 < SA X w), u) ∧ u.1 = t.1 ∧ u.2 215 40 = MS X c P w ∧ ∀ a i, ¬ (a = 215 ∧ i = 40) → u.2 a i = t.2 a i := by
  have sr := SA_r B W
  intro n
  induction n with
  | zero => intro j t h; omega
  | succ n ih =>
    intro j t h hj S e42 ec e40
    rw [gm_209_41, if_pos (by omega)]
    by_cases q : j = 8
    · rw [if_pos (by omega), if_pos (by omega)]
      rw [q] at e40
      refine ⟨t, ?_, rfl, e40, fun _ _ _ => rfl⟩
      by_cases y : SA X w ≤ 0
      · rw [if_pos y, decide_eq_false (by omega)]
      · rw [if_neg y, decide_eq_true (by omega)]
    · have ce : ((j : Int) + 1) = ((j + 1 : Nat) : Int) := rfl
      rw [if_neg (by omega), sp_208 B S.1 (show j < 8 by omega), Option.bind_some]
      by_cases y : KZ X j
      · rw [if_neg (fun q => (gbD t).mp q y)]
        show ∃ u : gx_S, ((gm_155 g j t).bind _) = _ ∧ _
        have cr := B.2.1 j (by omega)
        have zr := SZ_r B W (show j < 8 by omega)
        have dr := df_r B W (show j < 8 by omega)
        have pr := B.2.2
        rw [sp_155 g j hg (by omega), ec j (by omega), Option.bind_some]
        dsimp only
        rw [if_pos (by omega), e42, if_pos (by omega), sp_206 S (by omega), Option.bind_some]
        dsimp only
        rw [if_pos (by omega), if_pos (by omega)]
        unfold gm_209_93
        rw [ce]
        obtain ⟨u, u1, u2, u3, u4⟩ := ih (j + 1) (gw2 t 215 40 (t.2 215 40 + ab (c j * SA X w - P * SZ X w j))) (by omega) (by omega) S e42 ec (by
          rw [gw2_2, if_pos ⟨rfl, rfl⟩, e40]
          show _ = _ + (if KZ X j then ab (c j * SA X w - P * SZ X w j) else 0)
          rw [if_pos y])
        exact ⟨u, u1, u2, u3, fun a i h => by rw [u4 a i h, gw2_2, if_neg h]⟩
      · rw [if_pos ((gbD t).mpr y)]
        unfold gm_209_93
        rw [ce]
        exact ih (j + 1) t (by omega) (by omega) S e42 ec (by
          rw [e40]
          show _ = _ + (if KZ X j then ab (c j * SA X w - P * SZ X w j) else 0)
          rw [if_neg y, Int.add_zero])
theorem sp_209 {t : gx_S} {X : Nat → Nat → Int} {c : Nat → Int} {P : Int} {w : Nat → Int} {g : Nat} (hg : g < 3) (B : XB X c P) (W : wB9 w) (S : RSw t X w) (e42 : t.1 215 42 = P) (ec : ∀ z, z < 8 → t.1 216 (5 + 9 * g + z) = c z) : ∃ u : gx_S, gm_209 g t = some (decide (0 < SA X w), u) ∧ u.1 = t.1 ∧ u.2 215 40 = MS X c P w ∧ u.2 215 41 = SA X w ∧ ∀ a i, ¬ (a = 215 ∧ (i = 40 ∨ i = 41)) → u.2 a i = t.2 a i := by
  have e : ∀ (n j : Nat), 8 < n + j → j ≤ 8 → gm_209_5 n g (sg (fun z => SZ X w z) j) j t = gm_209_41 100000 g (SA X w) 0 (gw2 (gw2 t 215 40 0) 215 41 (SA X w)) := by
    intro n
    induction n with
    | zero => intro j h; omega
    | succ n ih =>
      intro j h hj
      rw [gm_209_5, if_pos (by omega)]
      by_cases q : j = 8
      · rw [if_pos (by omega), q, SA_sum]
      · have ce : ((j : Int) + 1) = ((j + 1 : Nat) : Int) := rfl
        have zr := SZ_r B W (show j < 8 by omega)
        rw [if_neg (by omega), sp_206 S (by omega), Option.bind_some]
        dsimp only
        rw [if_pos (by omega), ce]
        exact ih (j + 1) (by omega) (by omega)
  have e0 := e 100000 0 (by omega) (by omega)
  have e0 : gm_209_5 100000 g 0 0 t = _ := e0
  obtain ⟨u, u1, u2, u3, u4⟩ := sl_209_41 hg B W 100000 0 (gw2 (gw2 t 215 40 0) 215 41 (SA X w)) (by omega) (by omega) S e42 ec (by rw [gw2_2, if_neg (by omega), gw2_2, if_pos ⟨rfl, rfl⟩]; rfl)
  have u1 : gm_209_41 100000 g (SA X w) 0 (gw2 (gw2 t 215 40 0) 215 41 (SA X w)) = _ := u1
  refine ⟨u, ?_, u2, u3, by rw [u4 _ _ (by omega), gw2_2, if_pos ⟨rfl, rfl⟩], fun a i h => by rw [u4 a i (by omega), gw2_2, if_neg (by omega), gw2_2, if_neg (by omega)]⟩
  unfold gm_209
  rw [e0, u1]
end
section
/-! QUERIES: misfit -/
theorem KRw_of4 {s u : gx_S} (h1 : ∀ k j, k ≠ 242 → k ≠ 243 → k ≠ 244 → ¬ (k = 215 ∧ 42 ≤ j) → u.1 k j = s.1 k j) (h2 : ∀ k j, k ≠ 215 → u.2 k j = s.2 k j) : KRw s u := ⟨fun k j q => h1 k j (by omega) (by omega) (by omega) (by omega), fun k j q => h2 k j (by omega), fun S => ⟨fun j hj => by rw [h1 232 j (by omega) (by omega) (by omega) (by omega), h1 233 j (by omega) (by omega) (by omega) (by omega), h1 234 j (by omega) (by omega) (by omega) (by omega), h2 225 j (by omega)]; exact S.1 j hj, fun c hc => by rw [h1 235 c (by omega) (by omega) (by omega) (by omega), h2 229 c (by omega), h2 230 c (by omega), h2 227 c (by omega), h2 228 c (by omega)]; exact S.2.1 c hc, fun k hk => by rw [h2 231 k (by omega)]; exact S.2.2 k hk⟩⟩
/-- the weights as they are -/
def W0 (f : Nat → Int) (g l : Nat) : Int := f (32 + 4 * g + l)
theorem W0_b {f : Nat → Int} {R C g : Nat} (M : MP f R C) (hg : g < 3) : wB9 (W0 f g) := fun l hl => by
  have := M.2.2.2.2.2.1 (4 * g + l) (by omega)
  unfold W0
  rw [Nat.add_assoc]
  exact this
theorem KC_fit {s u : gx_S} (h1 : ∀ a i, ¬ (62 ≤ a ∧ a ≤ 68) → u.1 a i = s.1 a i) (h2 : ∀ a i, a ≠ 62 → u.2 a i = s.2 a i) : KC s u := ⟨fun k j q => h1 k j (by omega), fun k j q => h2 k j (by omega)⟩
theorem CV_fit {s u : gx_S} {f : Nat → Int} {R C n L : Nat} {pf : Nat → Nat → Int} {tb : Nat → Int} (h1 : ∀ a i, ¬ (62 ≤ a ∧ a ≤ 68) → u.1 a i = s.1 a i) (c : CV s f R C n pf L tb) : CV u f R C n pf L tb := CV_o (fun k j q => h1 k j (by omega)) c
theorem inv_misfit {s : gx_S} (h : INV s) {x y : Int} (hx : i32 x) (hy : i32 y) : two s (gm_102 x y) (gm_210 x y) := by
  obtain ⟨f, R, C, n, pf, L, tb, c, r, v⟩ := id h
  have hx' := hx
  have hy' := hy
  unfold i32 at hx' hy'
  have c148 : ∀ t : gx_S, gm_148 x t = _ := fun t => sp_148 t hx
  have c150 : ∀ t : gx_S, t.1 216 = f → gm_150 t = some (decide (f 2 = 7), t) := fun t et => by
    have := sp_150 (s := t) (by rw [et]; exact v.1.2.1)
    rw [et] at this
    exact this
  obtain ⟨c21, c21'⟩ := sp_121 c.1 v.1 hx
  have s1 : gm_102 x y s = if 0 ≤ y ∧ y ≤ 1 then ((gm_121 x s).bind fun q19 => if ¬ (gb q19.1) = 0 then ((gm_12 4 (x * 4) q19.2).bind fun q22 => if (-9223372036854775808 ≤ q22.1 ∧ q22.1 ≤ 9223372036854775807) then (if ¬ q22.1 = 0 then ((gm_14 q22.2).bind fun q26 => (gm_127 q26.1 q22.1 y q26.2).bind fun q28 => some (q28.1, q28.2)) else some ((-1), q22.2)) else none) else gm_102_17 q19.2) else some (-1, s) := by
    unfold gm_102
    rw [if_pos hy']
    by_cases a : y < 0
    · rw [if_pos a, if_neg (show ¬ (0 ≤ y ∧ y ≤ 1) by omega)]
      rfl
    · rw [if_neg a]
      by_cases b : 1 < y
      · rw [if_pos b, if_neg (show ¬ (0 ≤ y ∧ y ≤ 1) by omega)]
        rfl
      · rw [if_neg b, if_pos (show 0 ≤ y ∧ y ≤ 1 by omega)]
  have s2 : ∀ t : gx_S, t.1 216 = f → gm_210 x y t = if ((0 ≤ x ∧ x < 3) ∧ f 2 = 7) ∧ 0 ≤ y ∧ y ≤ 1 then ((gm_205 x t).bind fun q31 => if (-2147483648 ≤ (q31.1 215 42) ∧ (q31.1 215 42) ≤ 2147483647) then (if (q31.1 215 42) = 0 then gm_210_48 q31 else ((gm_209 x q31).bind fun q35 => if ¬ (gb q35.1) = 0 then ((gm_194 (q35.2.2 215 40) (q35.2.2 215 41) y q35.2).bind fun q38 => some (q38.1, q38.2)) else gm_210_48 q35.2)) else none) else some (-1, t) := fun t et => by
    unfold gm_210
    rw [c150 t et, Option.bind_some]
    by_cases b : f 2 = 7
    · rw [if_neg (fun q => (gbD t).mp q b)]
      show ((gm_148 x t).bind _) = _
      rw [c148 t, Option.bind_some]
      by_cases a : 0 ≤ x ∧ x ≤ 2
      · rw [if_neg (fun q => (gbD t).mp q a), if_pos hy', in_ t hy (by omega) (by omega), Option.bind_some]
        by_cases d : 0 ≤ y ∧ y ≤ 1
        · rw [if_pos (fun q => (gbD t).mp q d), if_pos (show ((0 ≤ x ∧ x < 3) ∧ f 2 = 7) ∧ 0 ≤ y ∧ y ≤ 1 from ⟨⟨by omega, b⟩, d⟩)]
        · rw [if_neg (fun q => q ((gbD t).mpr d)), if_neg (fun q : ((0 ≤ x ∧ x < 3) ∧ f 2 = 7) ∧ 0 ≤ y ∧ y ≤ 1 => d q.2)]
          rfl
      · rw [if_pos ((gbD t).mpr a), if_neg (fun q : ((0 ≤ x ∧ x < 3) ∧ f 2 = 7) ∧ 0 ≤ y ∧ y ≤ 1 => a (by have := q.1.1; omega))]
        rfl
    · rw [if_pos ((gbD t).mpr b), if_neg (fun q : ((0 ≤ x ∧ x < 3) ∧ f 2 = 7) ∧ 0 ≤ y ∧ y ≤ 1 => b q.1.2)]
      rfl
  by_cases d : 0 ≤ y ∧ y ≤ 1
  · rw [if_pos d] at s1
    by_cases ok : (0 ≤ x ∧ x < 3) ∧ f 2 = 7
    · obtain ⟨a, h7⟩ := id ok
      obtain ⟨g, rfl⟩ : ∃ g : Nat, x = g := ⟨x.toNat, by omega⟩
      have hg : g < 3 := by omega
      have B := CL_XB v.1 hg
      have W := W0_b v.1 hg
      obtain ⟨u, u1, u2, u3, u4, u5⟩ := c21' g rfl hg h7
      rw [u1, Option.bind_some] at s1
      have ku : ∀ a i, ¬ (62 ≤ a ∧ a ≤ 68) → u.1 a i = s.1 a i := fun a i q => u4 a i (by omega)
      -- the reference on a state behind the class's
      have kr : ∀ w : gx_S, (∀ a i, ¬ (62 ≤ a ∧ a ≤ 68) → w.1 a i = s.1 a i) → (∀ a i, a ≠ 62 → w.2 a i = s.2 a i) → ∃ z : gx_S, KRw w z ∧ z.1 216 = f ∧ gm_210 g y w = (if CP f R C g = 0 then some (-1, z) else ((gm_209 g z).bind fun q35 => if ¬ (gb q35.1) = 0 then ((gm_194 (q35.2.2 215 40) (q35.2.2 215 41) y q35.2).bind fun q38 => some (q38.1, q38.2)) else gm_210_48 q35.2)) ∧ RSw z (CL f R C) (W0 f g) ∧ z.1 215 42 = CP f R C g := fun w w1 w2 => by
        have ew : w.1 216 = f := by funext i; rw [w1 _ _ (by omega), r.1]
        obtain ⟨z, z1, z2, z3, z4, z5⟩ := sp_205 ew v.1 h7 hg
        refine ⟨z, KRw_of4 (fun k j q1 q2 _ q3 => z5 k j q1 q2 (by omega)) (fun k j _ => by rw [z4]), by funext i; rw [z5 _ _ (by decide) (by decide) (by omega), ew], ?_, z2, z3⟩
        rw [s2 w ew, if_pos ⟨ok, d⟩, z1, Option.bind_some, z3, if_pos (by have := B.2.2; omega)]
        rfl
      by_cases p0 : 0 < CP f R C g
      · rw [if_pos (fun q => (gbD u).mp q p0)] at s1
        have i4 : (g : Int) * 4 = ((4 * g : Nat) : Int) := by omega
        obtain ⟨w, w1, w2, w3, w4⟩ := sp_12 (k := 4) (a := 4 * g) (m := 12) (w := W0 f g) u2 B (by decide +kernel) (by omega) (by decide) W fun l hl => by
          rw [u4 _ _ (by omega)]
          have := c.1.2.2.2.2.2.2.1 (4 * g + l) (by omega)
          rw [show (1 : Nat) + 3 = 4 from rfl] at this
          rw [this]
          unfold W0
          rw [Nat.add_assoc]
        have s1 : gm_102 g y s = ((gm_12 4 ((g : Int) * 4) u).bind fun q22 => if (-9223372036854775808 ≤ q22.1 ∧ q22.1 ≤ 9223372036854775807) then (if ¬ q22.1 = 0 then ((gm_14 q22.2).bind fun q26 => (gm_127 q26.1 q22.1 y q26.2).bind fun q28 => some (q28.1, q28.2)) else some ((-1), q22.2)) else none) := s1
        have sr := SA_r B W
        have mr := MS_r B W
        rw [i4, w1, Option.bind_some] at s1
        have kw1 : ∀ a i, ¬ (62 ≤ a ∧ a ≤ 68) → w.1 a i = s.1 a i := fun a i q => (w3 a i (by omega)).trans (ku a i q)
        have kw2 : ∀ a i, a ≠ 62 → w.2 a i = s.2 a i := fun a i q => (w4 a i (by omega)).trans (u5 a i q)
        obtain ⟨z, z1, z2, z3, z4, z5⟩ := kr w kw1 kw2
        obtain ⟨t, t1, t2, t3, t4, t5⟩ := sp_209 hg B W z4 z5 fun q hq => by rw [z2]; rfl
        rw [if_neg (by omega), t1, Option.bind_some] at z3
        dsimp only at s1
        rw [if_pos (by omega)] at s1
        have kt : KRw z t := KRw_of4 (fun k j _ _ _ _ => by rw [t2]) fun k j q => t5 k j (by omega)
        have fin : INV t := q_inv (KC_fit kw1 kw2) (CV_fit kw1 c) r v (KRw_tr z1 kt)
        by_cases s0 : SA (CL f R C) (W0 f g) = 0
        · rw [if_neg (fun q => q s0)] at s1
          rw [if_neg (fun q => q ((gbD t).mpr (by omega)))] at z3
          exact ⟨-1, w, t, s1, z3, fin⟩
        · have F' : FS w (CL f R C) (Cc f g) (CP f R C g) := FS_o (fun b i q => w3 b i (by omega)) (w4 _ _ (by omega)) u2
          rw [if_pos s0, sp_14 F' B W w2, Option.bind_some] at s1
          rw [if_pos (fun q => (gbD t).mp q (by omega))] at z3
          have z3 : gm_210 g y w = ((gm_194 (t.2 215 40) (t.2 215 41) y t).bind fun q38 => some (q38.1, q38.2)) := z3
          rw [t3, t4] at z3
          have s1 : gm_102 g y s = ((gm_127 (MS (CL f R C) (Cc f g) (CP f R C g) (W0 f g)) (SA (CL f R C) (W0 f g)) y w).bind fun q28 => some (q28.1, q28.2)) := s1
          obtain ⟨p, hp⟩ : ∃ p : Nat, MS (CL f R C) (Cc f g) (CP f R C g) (W0 f g) = p := ⟨_, (Int.toNat_of_nonneg mr.1).symm⟩
          obtain ⟨b, hb⟩ : ∃ b : Nat, SA (CL f R C) (W0 f g) = b := ⟨_, (Int.toNat_of_nonneg sr.1).symm⟩
          rw [hp, hb] at s1 z3
          rw [hp] at mr
          rw [hb] at sr s0
          rw [sp_127 w (by omega) (by omega) (by omega) hy, Option.bind_some] at s1
          rw [sp_194 t (by omega) (by omega) (by omega) hy, Option.bind_some] at z3
          exact ⟨_, w, t, s1, z3, fin⟩
      · have pn : CP f R C g = 0 := by have := B.2.2; omega
        rw [if_neg (fun q => q ((gbD u).mpr p0))] at s1
        obtain ⟨z, z1, z2, z3, z4, z5⟩ := kr u ku u5
        rw [if_pos pn] at z3
        exact ⟨-1, u, z, s1, z3, q_inv (KC_fit ku u5) (CV_fit ku c) r v z1⟩
    · rw [c21 ok, Option.bind_some, if_neg (fun q => q rfl)] at s1
      exact ⟨-1, s, s, s1, (s2 s r.1).trans (if_neg fun q => ok q.1), h⟩
  · rw [if_neg d] at s1
    exact ⟨-1, s, s, s1, (s2 s r.1).trans (if_neg fun q => d q.2), h⟩
end
section
/-! FIT: the rows of weights, one by one; the best of them -/
def bsz (X : Nat → Nat → Int) (l : Nat) : Nat := if 0 < LC X l then 10 else 1
def zq (X : Nat → Nat → Int) : Nat → Nat
  | 0 => 1
  | d + 1 => bsz X (3 - d) * zq X d
theorem bsz_r (X : Nat → Nat → Int) (l : Nat) : 1 ≤ bsz X l ∧ bsz X l ≤ 10 := by
  unfold bsz
  split <;> omega
theorem zq_r (X : Nat → Nat → Int) : ∀ d : Nat, 1 ≤ zq X d ∧ zq X d ≤ 10 ^ d := by
  intro d
  induction d with
  | zero => exact ⟨Nat.le_refl 1, Nat.le_refl 1⟩
  | succ d ih =>
    have b := bsz_r X (3 - d)
    refine ⟨Nat.mul_pos b.1 ih.1, ?_⟩
    show bsz X (3 - d) * zq X d ≤ 10 ^ (d + 1)
    rw [Nat.pow_succ, Nat.mul_comm (10 ^ d)]
    exact Nat.mul_le_mul b.2 ih.2
theorem zq_dvd (X : Nat → Nat → Int) {a : Nat} : ∀ {b : Nat}, a ≤ b → zq X a ∣ zq X b := by
  intro b
  induction b with
  | zero => intro h; rw [show a = 0 by omega]; exact Nat.dvd_refl _
  | succ b ih =>
    intro h
    by_cases e : a = b + 1
    · rw [e]; exact Nat.dvd_refl _
    · exact Nat.dvd_trans (ih (by omega)) ⟨bsz X (3 - b), Nat.mul_comm _ _⟩
/-- the row e: by what the lands' digits are -/
def RE (X : Nat → Nat → Int) (o : Nat → Int) (e l : Nat) : Int := if 0 < LC X l then ((e / zq X (3 - l) % 10 : Nat) : Int) else o l
theorem RE_B (X : Nat → Nat → Int) {o : Nat → Int} (ho : wB9 o) (e : Nat) : wB9 (RE X o e) := fun l hl => by
  unfold RE
  split
  · omega
  · exact ho l hl
theorem RE_z {X : Nat → Nat → Int} {o : Nat → Int} {l : Nat} (h : ¬ 0 < LC X l) (e : Nat) : RE X o e l = o l := if_neg h
theorem RE_0 {X : Nat → Nat → Int} {o : Nat → Int} {l : Nat} (h : 0 < LC X l) : RE X o 0 l = 0 := by
  unfold RE
  rw [if_pos h, Nat.zero_div]
  rfl
theorem sdv {e T : Nat} (hT : 0 < T) (h : ¬ T ∣ e + 1) : (e + 1) / T = e / T := by
  have a := Nat.div_add_mod e T
  have b := Nat.mod_lt e hT
  have c : e % T + 1 ≠ T := fun q => h ⟨e / T + 1, by rw [Nat.mul_add, Nat.mul_one]; omega⟩
  have d : e + 1 = T * (e / T) + (e % T + 1) := by omega
  have f : (T * (e / T) + (e % T + 1)) / T = e / T := by rw [Nat.mul_add_div hT, Nat.div_eq_of_lt (show e % T + 1 < T by omega), Nat.add_zero]
  rw [← d] at f
  exact f
theorem RE_up {X : Nat → Nat → Int} {o : Nat → Int} {e l : Nat} (hl : l < 4) (hL : 0 < LC X l) (hc : zq X (3 - l) ∣ e + 1) : (RE X o e l < 9 → RE X o (e + 1) l = RE X o e l + 1 ∧ ∀ j, j < l → RE X o (e + 1) j = RE X o e j) ∧ (¬ RE X o e l < 9 → RE X o (e + 1) l = 0 ∧ zq X (4 - l) ∣ e + 1) := by
  have hs := (zq_r X (3 - l)).1
  have e4 : zq X (4 - l) = 10 * zq X (3 - l) := by
    rw [show 4 - l = (3 - l) + 1 by omega]
    show bsz X (3 - (3 - l)) * _ = _
    rw [show 3 - (3 - l) = l by omega]
    unfold bsz
    rw [if_pos hL]
  obtain ⟨m, hm⟩ := hc
  have m0 : 0 < m := by
    rcases Nat.eq_zero_or_pos m with q | q
    · rw [q, Nat.mul_zero] at hm; omega
    · exact q
  obtain ⟨m, rfl⟩ : ∃ k, m = k + 1 := ⟨m - 1, by omega⟩
  have d1 : (e + 1) / zq X (3 - l) = m + 1 := by rw [hm, Nat.mul_div_cancel_left _ hs]
  have d0 : e / zq X (3 - l) = m := by
    have : e = zq X (3 - l) * m + (zq X (3 - l) - 1) := by
      rw [Nat.mul_add, Nat.mul_one] at hm
      omega
    rw [this, Nat.mul_add_div hs, Nat.div_eq_of_lt (by omega), Nat.add_zero]
  have r1 : RE X o (e + 1) l = (((m + 1) % 10 : Nat) : Int) := by
    unfold RE
    rw [if_pos hL, d1]
  have r0 : RE X o e l = ((m % 10 : Nat) : Int) := by
    unfold RE
    rw [if_pos hL, d0]
  rw [r1, r0]
  refine ⟨fun h => ⟨by omega, fun j hj => ?_⟩, fun h => ⟨by omega, ?_⟩⟩
  · unfold RE
    by_cases q : 0 < LC X j
    · rw [if_pos q, if_pos q]
      have t := zq_dvd X (show 4 - l ≤ 3 - j by omega)
      rw [sdv (zq_r X (3 - j)).1 fun y => ?_]
      obtain ⟨k, hk⟩ := Nat.dvd_trans t y
      rw [hm, e4, Nat.mul_comm 10, Nat.mul_assoc] at hk
      have := Nat.eq_of_mul_eq_mul_left hs hk
      omega
    · rw [if_neg q, if_neg q]
  · rw [e4, hm, Nat.mul_comm 10]
    exact Nat.mul_dvd_mul_left _ ⟨(m + 1) / 10, by omega⟩
theorem RE_pre {X : Nat → Nat → Int} {o : Nat → Int} {e r d j : Nat} (hd : zq X (d + 1) ∣ e) (hr : r < zq X (d + 1)) (hj : j < 3 - d) : RE X o (e + r) j = RE X o e j := by
  unfold RE
  by_cases q : 0 < LC X j
  · rw [if_pos q, if_pos q]
    obtain ⟨t, ht⟩ := zq_dvd X (show d + 1 ≤ 3 - j by omega)
    obtain ⟨k, hk⟩ := hd
    have hz := (zq_r X (d + 1)).1
    rw [ht, ← Nat.div_div_eq_div_mul, ← Nat.div_div_eq_div_mul, hk, Nat.mul_add_div hz, Nat.div_eq_of_lt hr, Nat.mul_div_cancel_left _ hz, Nat.add_zero]
  · rw [if_neg q, if_neg q]
theorem RE_dig {X : Nat → Nat → Int} {o : Nat → Int} {e w d : Nat} (hd : zq X (d + 1) ∣ e) (h3 : d ≤ 3) (hL : 0 < LC X (3 - d)) (hw : w < 10) : RE X o (e + w * zq X d) (3 - d) = (w : Int) := by
  have hz := (zq_r X d).1
  obtain ⟨k, hk⟩ := hd
  have e1 : zq X (d + 1) = 10 * zq X d := by
    show bsz X (3 - d) * _ = _
    unfold bsz
    rw [if_pos hL]
  unfold RE
  have e2 : e + w * zq X d = zq X d * (10 * k + w) := by
    rw [hk, e1, Nat.mul_add, Nat.mul_comm 10 (zq X d), Nat.mul_assoc, Nat.mul_comm w]
  rw [if_pos hL, show 3 - (3 - d) = d by omega, e2, Nat.mul_div_cancel_left _ hz]
  omega
/-- the best of the rows below e -/
def BI (X : Nat → Nat → Int) (c : Nat → Int) (P : Int) (o : Nat → Int) : Nat → Option Nat
  | 0 => none
  | e + 1 => match BI X c P o e with
    | none => if 0 < SA X (RE X o e) then some e else none
    | some i => if 0 < SA X (RE X o e) ∧ MS X c P (RE X o e) * SA X (RE X o i) < MS X c P (RE X o i) * SA X (RE X o e) then some e else some i
section
variable {X : Nat → Nat → Int} {c : Nat → Int} {P : Int} {o : Nat → Int}
theorem BI_n {e : Nat} (h : BI X c P o e = none) : BI X c P o (e + 1) = if 0 < SA X (RE X o e) then some e else none := by
  rw [BI, h]
theorem BI_s {e i : Nat} (h : BI X c P o e = some i) : BI X c P o (e + 1) = if 0 < SA X (RE X o e) ∧ MS X c P (RE X o e) * SA X (RE X o i) < MS X c P (RE X o i) * SA X (RE X o e) then some e else some i := by
  rw [BI, h]
theorem BI_p : ∀ e i : Nat, BI X c P o e = some i → i < e ∧ 0 < SA X (RE X o i) := by
  intro e
  induction e with
  | zero => intro i h; cases h
  | succ e ih =>
    intro i h
    cases q : BI X c P o e with
    | none =>
      rw [BI_n q] at h
      split at h
      · rename_i y
        cases h
        exact ⟨by omega, y⟩
      · cases h
    | some k =>
      obtain ⟨k1, k2⟩ := ih k q
      rw [BI_s q] at h
      split at h
      · rename_i y
        cases h
        exact ⟨by omega, y.1⟩
      · cases h
        exact ⟨by omega, k2⟩
theorem BI_0 {e : Nat} (h : ¬ 0 < SA X (RE X o e)) : BI X c P o (e + 1) = BI X c P o e := by
  cases q : BI X c P o e with
  | none => rw [BI_n q, if_neg h]
  | some i => rw [BI_s q, if_neg fun y => h y.1]
theorem BI_stop (B : XB X c P) (ho : wB9 o) {e i : Nat} (h : BI X c P o e = some i) (h0 : MS X c P (RE X o i) ≤ 0) : ∀ k : Nat, BI X c P o (e + k) = some i := by
  have z : MS X c P (RE X o i) = 0 := by have := (MS_r B (RE_B X ho i)).1; omega
  intro k
  induction k with
  | zero => exact h
  | succ k ih =>
    rw [show e + (k + 1) = (e + k) + 1 from rfl, BI_s ih, if_neg fun y => ?_]
    have y2 := y.2
    rw [z, Int.zero_mul] at y2
    have := (mul_r (MS_r B (RE_B X ho (e + k))) (SA_r B (RE_B X ho i))).1
    omega
theorem BI_up {e : Nat} (h : ¬ BI X c P o e = none) : ∀ k : Nat, ¬ BI X c P o (e + k) = none := by
  intro k
  induction k with
  | zero => exact h
  | succ k ih =>
    cases q : BI X c P o (e + k) with
    | none => exact absurd q ih
    | some i =>
      rw [show e + (k + 1) = (e + k) + 1 from rfl, BI_s q]
      split <;> exact fun y => by cases y
theorem BI_some (B : XB X c P) (ho : wB9 o) {l : Nat} (hl : l < 4) (hL : 0 < LC X l) : ∃ i, BI X c P o (zq X 4) = some i := by
  have hs := (zq_r X (3 - l)).1
  have e4 : zq X (4 - l) = 10 * zq X (3 - l) := by
    rw [show 4 - l = (3 - l) + 1 by omega]
    show bsz X (3 - (3 - l)) * _ = _
    rw [show 3 - (3 - l) = l by omega]
    unfold bsz
    rw [if_pos hL]
  have le := Nat.le_of_dvd (zq_r X 4).1 (zq_dvd X (show 4 - l ≤ 4 by omega))
  have r1 : RE X o (zq X (3 - l)) l = 1 := by
    unfold RE
    rw [if_pos hL, Nat.div_self hs]
    rfl
  have sp : 0 < SA X (RE X o (zq X (3 - l))) := sg_pos (i := l) (fun k hk => (mul_r (RE_B X ho (zq X (3 - l)) k hk) (LC_r B hk)).1) hl (by
    show 0 < RE X o (zq X (3 - l)) l * LC X l
    rw [r1, Int.one_mul]
    exact hL)
  have h1 : ¬ BI X c P o (zq X (3 - l) + 1) = none := by
    cases q : BI X c P o (zq X (3 - l)) with
    | none => rw [BI_n q, if_pos sp]; exact fun y => by cases y
    | some i => rw [BI_s q]; split <;> exact fun y => by cases y
  have h2 := BI_up h1 (zq X 4 - (zq X (3 - l) + 1))
  rw [show zq X (3 - l) + 1 + (zq X 4 - (zq X (3 - l) + 1)) = zq X 4 by omega] at h2
  cases q : BI X c P o (zq X 4) with
  | none => exact absurd q h2
  | some i => exact ⟨i, rfl⟩
end
end
section
/-! FIT: the class finds the best row -/
section
variable {X : Nat → Nat → Int} {c : Nat → Int} {P : Int} {o : Nat → Int}
theorem WS_c {s : gx_S} {w w' : Nat → Int} (h : ∀ l, l < 4 → w l = w' l) (W : WS s X w) : WS s X w' := by
  refine ⟨fun z hz k => (W.1 z hz k).trans ?_, W.2.trans ?_⟩
  · exact sg_eq fun l hl => by rw [h l hl]
  · exact sg_eq fun l hl => by rw [h l hl]
theorem WS_u {s u : gx_S} {w w' : Nat → Int} {m : Nat} {d : Int} (hm : m < 4) (W : WS s X w) (e1 : ∀ z, z < 8 → KZ X z → u.1 68 (rk X z) = s.1 68 (rk X z) + d * X z m) (e2 : u.2 62 8 = s.2 62 8 + d * LC X m) (h1 : w' m = w m + d) (h2 : ∀ j, j ≠ m → w' j = w j) : WS u X w' := by
  refine ⟨fun z hz k => ?_, ?_⟩
  · rw [e1 z hz k, W.1 z hz k]
    exact (sg_upd (f := fun l => w l * X z l) (g := fun l => w' l * X z l) (i := m) (x := d * X z m) (by show w' m * X z m = _; rw [h1, Int.add_mul]) (fun j hj => by show w' j * X z j = _; rw [h2 j hj]) hm).symm
  · rw [e2, W.2]
    exact (sg_upd (f := fun l => w l * LC X l) (g := fun l => w' l * LC X l) (i := m) (x := d * LC X m) (by show w' m * LC X m = _; rw [h1, Int.add_mul]) (fun j hj => by show w' j * LC X j = _; rw [h2 j hj]) hm).symm
/-- weighed by r, which is the row -/
def OD (s : gx_S) (X : Nat → Nat → Int) (c : Nat → Int) (P : Int) (r : Nat → Int) : Prop := FS s X c P ∧ WS s X r ∧ ∀ l, l < 4 → s.1 67 l = r l
theorem OD_c {s : gx_S} {w w' : Nat → Int} (h : ∀ l, l < 4 → w l = w' l) (D : OD s X c P w) : OD s X c P w' := ⟨D.1, WS_c h D.2.1, fun l hl => (D.2.2 l hl).trans (h l hl)⟩
def FQ (s u : gx_S) : Prop := (∀ a i, a ≠ 67 → a ≠ 68 → u.1 a i = s.1 a i) ∧ ∀ a i, ¬ (a = 62 ∧ i = 8) → u.2 a i = s.2 a i
theorem FQ_tr {s t u : gx_S} (x : FQ s t) (y : FQ t u) : FQ s u := ⟨fun a i h1 h2 => (y.1 a i h1 h2).trans (x.1 a i h1 h2), fun a i h => (y.2 a i h).trans (x.2 a i h)⟩
theorem FQ_rf (s : gx_S) : FQ s s := ⟨fun _ _ _ _ => rfl, fun _ _ _ => rfl⟩
/-- the next row -/
theorem sl_17 {e : Nat} (B : XB X c P) (ho : wB9 o) : ∀ (m n : Nat) (t : gx_S) (r : Nat → Int), m < n → m ≤ 4 → OD t X c P r → (∀ j, j < m → r j = RE X o e j) → (∀ j, m ≤ j → j < 4 → r j = RE X o (e + 1) j) → zq X (4 - m) ∣ e + 1 → ∃ u : gx_S, gm_17_2 n ((m : Int) - 1) t = some u ∧ OD u X c P (RE X o (e + 1)) ∧ FQ t u := by
  intro m
  induction m with
  | zero =>
    intro n t r hn _ D h1 h2 _
    obtain ⟨n, rfl⟩ : ∃ k, n = k + 1 := ⟨n - 1, by omega⟩
    rw [gm_17_2, if_pos (by omega), if_pos (by omega)]
    exact ⟨t, rfl, OD_c (fun l hl => h2 l (by omega) hl) D, FQ_rf t⟩
  | succ m ih =>
    intro n t r hn hm D h1 h2 hz
    obtain ⟨n, rfl⟩ : ∃ k, n = k + 1 := ⟨n - 1, by omega⟩
    have em : (((m + 1 : Nat) : Int) - 1) = (m : Int) := by omega
    have i1 : ((m : Int)).toNat = m := by omega
    have ce : ((m : Int) + (-1)) = (m : Int) - 1 := rfl
    have hz : zq X (3 - m) ∣ e + 1 := by rw [show 3 - m = 4 - (m + 1) by omega]; exact hz
    have lr := LC_r B (show m < 4 by omega)
    have rm := h1 m (by omega)
    have rb := RE_B X ho e m (by omega)
    have e66 := D.1.2.2.1 m (by omega)
    have e67 := D.2.2 m (by omega)
    rw [gm_17_2, em, if_pos (by omega), if_neg (by omega), if_pos (by omega), i1, e66, if_pos (by omega)]
    by_cases q : LC X m ≤ 0
    · rw [if_pos q]
      unfold gm_17_43 gm_17_71
      rw [if_pos (by omega), i1, e66, if_pos (by omega), if_pos q, ce]
      refine ih n t r (by omega) (by omega) D (fun j hj => h1 j (by omega)) (fun j h3 h4 => ?_) ?_
      · by_cases p : j = m
        · rw [p, rm, RE_z (by omega), RE_z (by omega)]
        · exact h2 j (by omega) h4
      · rw [show 4 - m = (3 - m) + 1 by omega]
        show bsz X (3 - (3 - m)) * zq X (3 - m) ∣ e + 1
        rw [show 3 - (3 - m) = m by omega]
        unfold bsz
        rw [if_neg (by omega), Nat.one_mul]
        exact hz
    · obtain ⟨up1, up2⟩ := RE_up (o := o) (show m < 4 by omega) (show 0 < LC X m by omega) hz
      rw [if_neg q, e67, rm, if_pos (by omega)]
      by_cases y : 9 ≤ RE X o e m
      · obtain ⟨z1, z2⟩ := up2 (by omega)
        rw [if_pos y]
        unfold gm_17_43 gm_17_71
        obtain ⟨v, v1, v2, v3, v4, v5⟩ := sp_13 (w := -RE X o e m) (l := m) D.1 B (by omega) (by omega)
        rw [if_pos (by omega), i1, e66, if_pos (by omega), if_neg q, e67, rm, v1, Option.bind_some, ce]
        obtain ⟨a, ha⟩ : ∃ a, a = gw1 v 67 m 0 := ⟨_, rfl⟩
        have a1 : ∀ b i, ¬ (b = 67 ∧ i = m) → a.1 b i = v.1 b i := fun b i h => by rw [ha, gw1_1, if_neg h]
        have a2 : a.1 67 m = 0 := by rw [ha, gw1_1, if_pos ⟨rfl, rfl⟩]
        have a3 : a.2 = v.2 := by rw [ha]; rfl
        have fa : FQ t a := ⟨fun b i h3 h4 => by rw [a1 b i (by omega), v2 b i h4], fun b i h3 => by rw [a3, v5 b i h3]⟩
        rw [← ha]
        have Da : OD a X c P (fun j => if j = m then 0 else r j) := by
          refine ⟨FS_o (fun b i h3 => fa.1 b i (by omega) (by omega)) (fa.2 _ _ (by omega)) D.1, WS_u (m := m) (d := -RE X o e m) (by omega) D.2.1 (fun z hz k => by rw [a1 _ _ (by omega)]; exact v3 z hz k) (by rw [a3]; exact v4) ?_ (fun j hj => if_neg hj), fun l hl => ?_⟩
          · show (if m = m then (0 : Int) else r m) = _
            rw [if_pos rfl, rm]
            omega
          · show _ = (if l = m then (0 : Int) else r l)
            by_cases p : l = m
            · rw [if_pos p, p]; exact a2
            · rw [if_neg p, a1 _ _ (fun x => p x.2), v2 _ _ (by decide)]
              exact D.2.2 l hl
        obtain ⟨u, u1, u2, u3⟩ := ih n a (fun j => if j = m then 0 else r j) (by omega) (by omega) Da (fun j hj => by
          show (if j = m then (0 : Int) else r j) = _
          rw [if_neg (by omega)]
          exact h1 j (by omega)) (fun j h3 h4 => by
          show (if j = m then (0 : Int) else r j) = _
          by_cases p : j = m
          · rw [if_pos p, p, z1]
          · rw [if_neg p]
            exact h2 j (by omega) h4) z2
        exact ⟨u, u1, u2, FQ_tr fa u3⟩
      · obtain ⟨z1, z2⟩ := up1 (by omega)
        rw [if_neg y]
        obtain ⟨a, ha⟩ : ∃ a, a = gw1 t 67 m (RE X o e m + 1) := ⟨_, rfl⟩
        have a1 : ∀ b i, ¬ (b = 67 ∧ i = m) → a.1 b i = t.1 b i := fun b i h => by rw [ha, gw1_1, if_neg h]
        have a2 : a.1 67 m = RE X o e m + 1 := by rw [ha, gw1_1, if_pos ⟨rfl, rfl⟩]
        have a3 : a.2 = t.2 := by rw [ha]; rfl
        have Fa : FS a X c P := FS_o (fun b i h3 => a1 b i (by omega)) (by rw [a3]) D.1
        obtain ⟨v, v1, v2, v3, v4, v5⟩ := sp_13 (w := 1) (l := m) Fa B (by omega) (by omega)
        rw [← ha, v1, Option.bind_some]
        refine ⟨v, rfl, OD_c (w := fun j => if j = m then RE X o e m + 1 else r j) (fun l hl => ?_) ⟨FS_o (fun b i h3 => v2 b i (by omega)) (v5 _ _ (by omega)) Fa, WS_u (m := m) (d := 1) (by omega) D.2.1 (fun z hz k => by rw [v3 z hz k, a1 _ _ (by omega)]) (by rw [v4, a3]) ?_ (fun j hj => if_neg hj), fun l hl => ?_⟩, ⟨fun b i h3 h4 => by rw [v2 b i h4, a1 b i (by omega)], fun b i h3 => by rw [v5 b i h3, a3]⟩⟩
        · show (if l = m then RE X o e m + 1 else r l) = _
          by_cases p : l = m
          · rw [if_pos p, p, z1]
          · rw [if_neg p]
            by_cases p2 : l < m
            · rw [h1 l (by omega), z2 l p2]
            · exact h2 l (by omega) hl
        · show (if m = m then RE X o e m + 1 else r m) = _
          rw [if_pos rfl, rm]
        · show _ = (if l = m then RE X o e m + 1 else r l)
          rw [v2 _ _ (by decide)]
          by_cases p : l = m
          · rw [if_pos p, p]; exact a2
          · rw [if_neg p, a1 _ _ (fun x => p x.2)]
            exact D.2.2 l hl
theorem sp_17 {e : Nat} {s : gx_S} (B : XB X c P) (ho : wB9 o) (D : OD s X c P (RE X o e)) : ∃ u : gx_S, gm_17 s = some u ∧ OD u X c P (RE X o (e + 1)) ∧ FQ s u := by
  obtain ⟨u, u1, u2, u3⟩ := sl_17 B ho 4 100000 s (RE X o e) (by omega) (by omega) D (fun _ _ => rfl) (fun j h1 h2 => absurd h2 (by omega)) ⟨e + 1, (Nat.one_mul _).symm⟩
  exact ⟨u, u1, u2, u3⟩
/-- the best so far -/
def CBf (s : gx_S) (X : Nat → Nat → Int) (c : Nat → Int) (P : Int) (o : Nat → Int) (e : Nat) : Prop := (BI X c P o e = none → s.2 62 10 = 0 ∧ s.2 62 9 = 1 ∧ ∀ l, l < 4 → s.1 63 l = o l) ∧ ∀ i, BI X c P o e = some i → s.2 62 10 = SA X (RE X o i) ∧ s.2 62 9 = MS X c P (RE X o i) ∧ ∀ l, l < 4 → s.1 63 l = RE X o i l
theorem CBf_FQ {s u : gx_S} {e : Nat} (h : FQ s u) (C : CBf s X c P o e) : CBf u X c P o e := by
  refine ⟨fun q => ?_, fun i q => ?_⟩
  · obtain ⟨a, b, d⟩ := C.1 q
    exact ⟨(h.2 _ _ (by omega)).trans a, (h.2 _ _ (by omega)).trans b, fun l hl => (h.1 _ _ (by omega) (by omega)).trans (d l hl)⟩
  · obtain ⟨a, b, d⟩ := C.2 i q
    exact ⟨(h.2 _ _ (by omega)).trans a, (h.2 _ _ (by omega)).trans b, fun l hl => (h.1 _ _ (by omega) (by omega)).trans (d l hl)⟩
def FRf (s u : gx_S) : Prop := (∀ a i, a ≠ 63 → a ≠ 67 → a ≠ 68 → u.1 a i = s.1 a i) ∧ ∀ a i, ¬ (a = 62 ∧ 8 ≤ i) → u.2 a i = s.2 a i
theorem FRf_tr {s t u : gx_S} (x : FRf s t) (y : FRf t u) : FRf s u := ⟨fun a i h1 h2 h3 => (y.1 a i h1 h2 h3).trans (x.1 a i h1 h2 h3), fun a i h => (y.2 a i h).trans (x.2 a i h)⟩
theorem FRf_rf (s : gx_S) : FRf s s := ⟨fun _ _ _ _ _ => rfl, fun _ _ _ => rfl⟩
theorem FQ_FRf {s u : gx_S} (h : FQ s u) : FRf s u := ⟨fun a i _ h2 h3 => h.1 a i h2 h3, fun a i q => h.2 a i (by omega)⟩
theorem sp_16 {e : Nat} {s : gx_S} (B : XB X c P) (ho : wB9 o) (D : OD s X c P (RE X o e)) (C : CBf s X c P o e) (sp : 0 < SA X (RE X o e)) : ∃ u : gx_S, gm_16 s = some u ∧ OD u X c P (RE X o e) ∧ CBf u X c P o (e + 1) ∧ FRf s u := by
  have We := RE_B X ho e
  have c14 := sp_14 D.1 B We D.2.1
  have mr := MS_r B We
  have sr := SA_r B We
  have e8 : s.2 62 8 = SA X (RE X o e) := D.2.1.2
  -- what is kept if it is better
  have st : BI X c P o (e + 1) = some e → ∃ u : gx_S, gm_16_33 (MS X c P (RE X o e)) s = some u ∧ OD u X c P (RE X o e) ∧ CBf u X c P o (e + 1) ∧ FRf s u := fun hb => by
    unfold gm_16_33
    obtain ⟨u, hu⟩ : ∃ u, u = gcp (gw2 (gw2 s 62 9 (MS X c P (RE X o e))) 62 10 ((gw2 s 62 9 (MS X c P (RE X o e))).2 62 8)) 67 0 63 0 4 := ⟨_, rfl⟩
    have u1 : ∀ a i, a ≠ 63 → u.1 a i = s.1 a i := fun a i h => by rw [hu, gcp_1, if_neg (fun x => h x.1)]; rfl
    have uu : u.2 = (gw2 (gw2 s 62 9 (MS X c P (RE X o e))) 62 10 ((gw2 s 62 9 (MS X c P (RE X o e))).2 62 8)).2 := by rw [hu]; rfl
    have u2 : ∀ a i, ¬ (a = 62 ∧ (i = 9 ∨ i = 10)) → u.2 a i = s.2 a i := fun a i h => by rw [uu, gw2_2, if_neg (by omega), gw2_2, if_neg (by omega)]
    have u3 : u.2 62 10 = SA X (RE X o e) := by rw [uu, gw2_2, if_pos ⟨rfl, rfl⟩, gw2_2, if_neg (by omega), e8]
    have u4 : u.2 62 9 = MS X c P (RE X o e) := by rw [uu, gw2_2, if_neg (by omega), gw2_2, if_pos ⟨rfl, rfl⟩]
    have u5 : ∀ l, l < 4 → u.1 63 l = RE X o e l := fun l hl => by
      rw [hu, gcp_1, if_pos ⟨rfl, by omega, by omega⟩]
      show s.1 67 (0 + (l - 0)) = _
      rw [show 0 + (l - 0) = l by omega]
      exact D.2.2 l hl
    refine ⟨u, by rw [hu], ⟨FS_o (fun b i h => u1 b i (by omega)) (u2 _ _ (by omega)) D.1, ⟨fun z hz k => (u1 _ _ (by decide)).trans (D.2.1.1 z hz k), (u2 _ _ (by omega)).trans e8⟩, fun l hl => (u1 _ _ (by decide)).trans (D.2.2 l hl)⟩, ⟨fun q => ?_, fun i q => ?_⟩, ⟨fun a i h1 _ _ => u1 a i h1, fun a i h => u2 a i (by omega)⟩⟩
    · rw [hb] at q; cases q
    · rw [hb] at q
      cases q
      exact ⟨u3, u4, u5⟩
  unfold gm_16
  rw [c14, Option.bind_some]
  dsimp only
  cases q : BI X c P o e with
  | none =>
    obtain ⟨a, b, d⟩ := C.1 q
    rw [a, if_pos (by omega), if_pos rfl]
    exact st (by rw [BI_n q, if_pos sp])
  | some i =>
    obtain ⟨a, b, d⟩ := C.2 i q
    have pi := (BI_p e i q).2
    have m1 := MS_r B (RE_B X ho i)
    have s1 := SA_r B (RE_B X ho i)
    have p1 := mul_r mr s1
    have p2 := mul_r m1 sr
    rw [a, if_pos (by omega), if_neg (by omega), if_pos (by omega), b, e8, if_pos (by omega)]
    by_cases y : MS X c P (RE X o i) * SA X (RE X o e) ≤ MS X c P (RE X o e) * SA X (RE X o i)
    · rw [if_pos y]
      have hb : BI X c P o (e + 1) = some i := by rw [BI_s q, if_neg (by omega)]
      refine ⟨s, rfl, D, ⟨fun p => ?_, fun k p => ?_⟩, FRf_rf s⟩
      · rw [hb] at p; cases p
      · rw [hb] at p
        cases p
        exact ⟨a, b, d⟩
    · rw [if_neg y]
      exact st (by rw [BI_s q, if_pos ⟨sp, by omega⟩])
theorem sl_15_80 (B : XB X c P) (ho : wB9 o) : ∀ (n e : Nat) (t : gx_S), zq X 4 < n + e → e ≤ zq X 4 → OD t X c P (RE X o e) → CBf t X c P o e → ∃ u : gx_S, gm_15_80 n (zq X 4 : Nat) e t = some u ∧ CBf u X c P o (zq X 4) ∧ FRf t u := by
  have z4 := zq_r X 4
  intro n
  induction n with
  | zero => intro e t h; omega
  | succ n ih =>
    intro e t h he D C
    rw [gm_15_80, if_pos (by omega), if_pos (by omega)]
    by_cases q : e = zq X 4
    · rw [if_pos (by omega)]
      rw [q] at C
      exact ⟨t, rfl, C, FRf_rf t⟩
    · have ce : ((e : Int) + 1) = ((e + 1 : Nat) : Int) := rfl
      have e8 : t.2 62 8 = SA X (RE X o e) := D.2.1.2
      have sr := SA_r B (RE_B X ho e)
      have r9 : 0 ≤ t.2 62 9 ∧ t.2 62 9 ≤ 19904569344 := by
        cases p : BI X c P o e with
        | none => rw [(C.1 p).2.1]; omega
        | some i => rw [(C.2 i p).2.1]; exact MS_r B (RE_B X ho i)
      rw [if_neg (by omega), if_pos (by omega)]
      by_cases y : t.2 62 9 ≤ 0
      · rw [if_pos y]
        refine ⟨t, rfl, ?_, FRf_rf t⟩
        cases p : BI X c P o e with
        | none => rw [(C.1 p).2.1] at y; omega
        | some i =>
          rw [(C.2 i p).2.1] at y
          have hs := BI_stop B ho p y (zq X 4 - e)
          rw [show e + (zq X 4 - e) = zq X 4 by omega] at hs
          refine ⟨fun k => ?_, fun k hk => ?_⟩
          · rw [hs] at k; cases k
          · rw [hs] at hk
            cases hk
            exact C.2 i p
      · have nx : ∀ v : gx_S, OD v X c P (RE X o e) → CBf v X c P o (e + 1) → FRf t v → ∃ u : gx_S, gm_15_107 (gm_15_80 n) (zq X 4 : Nat) e v = some u ∧ CBf u X c P o (zq X 4) ∧ FRf t u := fun v Dv Cv fv => by
          obtain ⟨a, a1, a2, a3⟩ := sp_17 B ho Dv
          obtain ⟨u, u1, u2, u3⟩ := ih (e + 1) a (by omega) (by omega) a2 (CBf_FQ a3 Cv)
          refine ⟨u, ?_, u2, FRf_tr fv (FRf_tr (FQ_FRf a3) u3)⟩
          unfold gm_15_107
          rw [a1, Option.bind_some, ce, u1]
        rw [if_neg y, e8, if_pos (by omega)]
        by_cases k : SA X (RE X o e) ≤ 0
        · rw [if_pos k]
          have hb := BI_0 (X := X) (c := c) (P := P) (o := o) (e := e) (by omega)
          refine nx t D ?_ (FRf_rf t)
          unfold CBf
          rw [hb]
          exact C
        · rw [if_neg k]
          obtain ⟨v, v1, v2, v3, v4⟩ := sp_16 B ho D C (by omega)
          rw [v1, Option.bind_some]
          exact nx v v2 v3 v4
theorem sl_15_4 (B : XB X c P) (ho : wB9 o) : ∀ (n j A : Nat) (t : gx_S), 4 < n + j → j ≤ 4 → A * zq X (4 - j) = zq X 4 → FS t X c P → (∀ l, l < 4 → t.1 63 l = o l) → (∀ l, l < j → t.1 67 l = RE X o 0 l) → ∃ u : gx_S, gm_15_4 n A j t = some u ∧ CBf u X c P o (zq X 4) ∧ FRf t u := by
  have z4 := zq_r X 4
  intro n
  induction n with
  | zero => intro j A t h; omega
  | succ n ih =>
    intro j A t h hj eA F e63 e67
    rw [gm_15_4, if_pos (by omega)]
    by_cases q : j = 4
    · have eA : A = zq X 4 := by
        rw [q] at eA
        have : A * 1 = zq X 4 := eA
        omega
      rw [if_pos (by omega), eA]
      obtain ⟨v, v1, v2, v3, v4⟩ := sp_12 (k := 67) (a := 0) (m := 4) (w := RE X o 0) F B (by decide +kernel) (by omega) (by decide) (RE_B X ho 0) fun l hl => by rw [Nat.zero_add]; exact e67 l (by omega)
      have v1 : gm_12 67 0 t = _ := v1
      rw [v1, Option.bind_some]
      obtain ⟨b, hb⟩ : ∃ b, b = gw2 (gw2 v 62 10 0) 62 9 1 := ⟨_, rfl⟩
      have b1 : b.1 = v.1 := by rw [hb]; rfl
      have b2 : ∀ a i, ¬ (a = 62 ∧ (i = 9 ∨ i = 10)) → b.2 a i = v.2 a i := fun a i h => by rw [hb, gw2_2, if_neg (by omega), gw2_2, if_neg (by omega)]
      show ∃ u : gx_S, gm_15_80 100000 (zq X 4 : Nat) 0 (gw2 (gw2 v 62 10 0) 62 9 1) = some u ∧ _
      rw [← hb]
      have fb : FRf t b := ⟨fun a i _ _ h3 => by rw [b1]; exact v3 a i h3, fun a i h => by rw [b2 a i (by omega)]; exact v4 a i (by omega)⟩
      obtain ⟨u, u1, u2, u3⟩ := sl_15_80 B ho 100000 0 b (by omega) (by omega) ⟨FS_o (fun a i h => fb.1 a i (by omega) (by omega) (by omega)) (fb.2 _ _ (by omega)) F, ⟨fun z hz k => by rw [b1]; exact v2.1 z hz k, (b2 _ _ (by omega)).trans v2.2⟩, fun l hl => by rw [b1, v3 _ _ (by decide)]; exact e67 l (by omega)⟩ ⟨fun _ => ⟨by rw [hb, gw2_2, if_neg (by omega), gw2_2, if_pos ⟨rfl, rfl⟩], by rw [hb, gw2_2, if_pos ⟨rfl, rfl⟩], fun l hl => by rw [b1, v3 _ _ (by decide)]; exact e63 l hl⟩, fun i p => by cases p⟩
      have u1 : gm_15_80 100000 (zq X 4 : Nat) 0 b = _ := u1
      exact ⟨u, u1, u2, FRf_tr fb u3⟩
    · have ce : ((j : Int) + 1) = ((j + 1 : Nat) : Int) := rfl
      have i1 : ((j : Int)).toNat = j := by omega
      have lr := LC_r B (show j < 4 by omega)
      have e66 := F.2.2.1 j (by omega)
      have z4 : zq X (4 - j) = bsz X j * zq X (4 - (j + 1)) := by
        rw [show 4 - j = (4 - (j + 1)) + 1 by omega]
        show bsz X (3 - (4 - (j + 1))) * _ = _
        rw [show 3 - (4 - (j + 1)) = j by omega]
      have nx : ∀ (b : Nat) (x : Int), b = bsz X j → x = RE X o 0 j → ∃ u : gx_S, gm_15_4 n ((A : Int) * (b : Int)) ((j + 1 : Nat) : Int) (gw1 t 67 j x) = some u ∧ CBf u X c P o (zq X 4) ∧ FRf t u := fun b x hb hx => by
        rw [← Int.natCast_mul]
        obtain ⟨u, u1, u2, u3⟩ := ih (j + 1) (A * b) (gw1 t 67 j x) (by omega) (by omega) (by rw [hb, Nat.mul_assoc, ← z4]; exact eA) (FS_o (fun a i h => by rw [gw1_1, if_neg (by omega)]) rfl F) (fun l hl => by rw [gw1_1, if_neg (by omega)]; exact e63 l hl) (fun l hl => by
          rw [gw1_1]
          by_cases p : l = j
          · rw [if_pos ⟨rfl, p⟩, hx, p]
          · rw [if_neg (fun y => p y.2)]
            exact e67 l (by omega))
        exact ⟨u, u1, u2, FRf_tr (t := gw1 t 67 j x) ⟨fun a i _ h2 _ => by rw [gw1_1, if_neg (fun y => h2 y.1)], fun _ _ _ => rfl⟩ u3⟩
      rw [if_neg (by omega), if_pos (by omega), i1, e66, if_pos (by omega)]
      by_cases y : LC X j ≤ 0
      · rw [if_pos y]
        unfold gm_15_25 gm_15_51
        rw [if_pos (by omega), i1, e66, if_pos (by omega), if_pos y, if_pos (by omega), ce, e63 j (by omega)]
        exact nx 1 (o j) (by unfold bsz; rw [if_neg (by omega)]) (RE_z (by omega) 0).symm
      · rw [if_neg y]
        unfold gm_15_25 gm_15_51
        rw [if_pos (by omega), i1, e66, if_pos (by omega), if_neg y, if_pos (by omega), ce]
        exact nx 10 0 (by unfold bsz; rw [if_pos (by omega)]) (RE_0 (by omega)).symm
theorem sp_15 {s : gx_S} (B : XB X c P) (ho : wB9 o) (F : FS s X c P) (e63 : ∀ l, l < 4 → s.1 63 l = o l) : ∃ u : gx_S, gm_15 s = some u ∧ CBf u X c P o (zq X 4) ∧ FRf s u := by
  obtain ⟨u, u1, u2, u3⟩ := sl_15_4 B ho 100000 0 1 s (by omega) (by omega) (Nat.one_mul _) F e63 (fun l hl => absurd hl (Nat.not_lt_zero l))
  exact ⟨u, u1, u2, u3⟩
end
end
section
/-! FIT: the reference finds the best row -/
section
variable {X : Nat → Nat → Int} {c : Nat → Int} {P : Int} {o : Nat → Int} {g : Nat}
def CRf (t : gx_S) (X : Nat → Nat → Int) (c : Nat → Int) (P : Int) (o : Nat → Int) (e : Nat) : Prop := (BI X c P o e = none → t.1 215 43 = 0) ∧ ∀ i, BI X c P o e = some i → t.1 215 43 = 1 ∧ t.2 215 44 = MS X c P (RE X o i) ∧ t.2 215 45 = SA X (RE X o i) ∧ ∀ l, l < 4 → t.1 244 l = RE X o i l
def RBf (t : gx_S) (X : Nat → Nat → Int) (c : Nat → Int) (P : Int) (o : Nat → Int) (g : Nat) : Prop := (∀ z l, z < 8 → l < 4 → t.1 242 (4 * z + l) = X z l) ∧ t.1 215 42 = P ∧ (∀ z, z < 8 → t.1 216 (5 + 9 * g + z) = c z) ∧ ∀ l, l < 4 → ¬ 0 < LC X l → t.1 243 l = o l
def KF1 (s u : gx_S) : Prop := (∀ a i, a ≠ 243 → a ≠ 244 → ¬ (a = 215 ∧ i = 43) → u.1 a i = s.1 a i) ∧ ∀ a i, ¬ (a = 215 ∧ 40 ≤ i) → u.2 a i = s.2 a i
theorem KF1_tr {s t u : gx_S} (x : KF1 s t) (y : KF1 t u) : KF1 s u := ⟨fun a i h1 h2 h3 => (y.1 a i h1 h2 h3).trans (x.1 a i h1 h2 h3), fun a i h => (y.2 a i h).trans (x.2 a i h)⟩
theorem KF1_rf (s : gx_S) : KF1 s s := ⟨fun _ _ _ _ _ => rfl, fun _ _ _ => rfl⟩
theorem RBf_o {s u : gx_S} (k : KF1 s u) (h : ∀ l, l < 4 → ¬ 0 < LC X l → u.1 243 l = s.1 243 l) (R : RBf s X c P o g) : RBf u X c P o g := ⟨fun z l hz hl => (k.1 _ _ (by decide) (by decide) (by omega)).trans (R.1 z l hz hl), (k.1 _ _ (by decide) (by decide) (by omega)).trans R.2.1, fun z hz => (k.1 _ _ (by decide) (by decide) (by omega)).trans (R.2.2.1 z hz), fun l hl q => (h l hl q).trans (R.2.2.2 l hl q)⟩
theorem sl_211_113 (k : Int → Int → gx_S → Option gx_S) : ∀ (n j : Nat) (t : gx_S), 4 < n + j → j ≤ 4 → ∃ u : gx_S, gm_211_113 k n j t = some u ∧ u.2 = t.2 ∧ (∀ a i, a ≠ 244 → u.1 a i = t.1 a i) ∧ ∀ i, u.1 244 i = if j ≤ i ∧ i < 4 then t.1 243 i else t.1 244 i := by
  intro n
  induction n with
  | zero => intro j t h; omega
  | succ n ih =>
    intro j t h hj
    rw [gm_211_113, if_pos (by omega)]
    by_cases q : j = 4
    · rw [if_pos (by omega)]
      exact ⟨t, rfl, rfl, fun _ _ _ => rfl, fun i => by rw [if_neg (by omega)]⟩
    · have ce : ((j : Int) + 1) = ((j + 1 : Nat) : Int) := rfl
      have i1 : ((j : Int)).toNat = j := by omega
      rw [if_neg (by omega), if_pos (by omega), i1, ce]
      obtain ⟨u, u1, u2, u3, u4⟩ := ih (j + 1) (gw1 t 244 j (t.1 243 j)) (by omega) (by omega)
      refine ⟨u, u1, u2, fun a i h => by rw [u3 a i h, gw1_1, if_neg (fun x => h x.1)], fun i => ?_⟩
      rw [u4, gw1_1 t 244 j _ 243, if_neg (show ¬ ((243 : Nat) = 244 ∧ i = j) by omega), gw1_1]
      by_cases z : i = j
      · rw [if_neg (show ¬ (j + 1 ≤ i ∧ i < 4) by omega), if_pos (show (244 : Nat) = 244 ∧ i = j from ⟨rfl, z⟩), if_pos (show j ≤ i ∧ i < 4 by omega), z]
      · rw [if_neg (show ¬ ((244 : Nat) = 244 ∧ i = j) from fun x => z x.2)]
        by_cases y : j + 1 ≤ i ∧ i < 4
        · rw [if_pos y, if_pos (show j ≤ i ∧ i < 4 by omega)]
        · rw [if_neg y, if_neg (show ¬ (j ≤ i ∧ i < 4) by omega)]
theorem sp_211L {e : Nat} {t : gx_S} (k : Int → Int → gx_S → Option gx_S) (B : XB X c P) (ho : wB9 o) (hg : g < 3) (R : RBf t X c P o g) (er : ∀ l, l < 4 → t.1 243 l = RE X o e l) (C : CRf t X c P o e) : ∃ u : gx_S, gm_211o k g 4 t = some u ∧ CRf u X c P o (e + 1) ∧ RBf u X c P o g ∧ (∀ l, l < 4 → u.1 243 l = t.1 243 l) ∧ KF1 t u := by
  have We := RE_B X ho e
  have sr := SA_r B We
  have mr := MS_r B We
  obtain ⟨v, v1, v2, v3, v4, v5⟩ := sp_209 hg B We ⟨R.1, er⟩ R.2.1 R.2.2.1
  have kv : KF1 t v := ⟨fun a i _ _ _ => by rw [v2], fun a i h => v5 a i (by omega)⟩
  have rv : RBf v X c P o g := RBf_o kv (fun l hl _ => by rw [v2]) R
  have st : BI X c P o (e + 1) = some e → ∃ u : gx_S, gm_211_90 k v = some u ∧ CRf u X c P o (e + 1) ∧ RBf u X c P o g ∧ (∀ l, l < 4 → u.1 243 l = t.1 243 l) ∧ KF1 t u := fun hb => by
    unfold gm_211_90
    obtain ⟨a, ha⟩ : ∃ a, a = gw2 (gw2 (gw1 v 215 43 1) 215 44 ((gw1 v 215 43 1).2 215 40)) 215 45 ((gw2 (gw1 v 215 43 1) 215 44 ((gw1 v 215 43 1).2 215 40)).2 215 41) := ⟨_, rfl⟩
    have a1 : a.1 = (gw1 v 215 43 1).1 := by rw [ha]; rfl
    have a2 : a.2 = (gw2 (gw2 v 215 44 (v.2 215 40)) 215 45 ((gw2 v 215 44 (v.2 215 40)).2 215 41)).2 := by rw [ha]; rfl
    have ao : ∀ b i, ¬ (b = 215 ∧ i = 43) → a.1 b i = t.1 b i := fun b i h => by rw [a1, gw1_1, if_neg h, v2]
    have a44 : a.2 215 44 = MS X c P (RE X o e) := by rw [a2, gw2_2, if_neg (by omega), gw2_2, if_pos ⟨rfl, rfl⟩, v3]
    have a45 : a.2 215 45 = SA X (RE X o e) := by rw [a2, gw2_2, if_pos ⟨rfl, rfl⟩, gw2_2, if_neg (by omega), v4]
    have a43 : a.1 215 43 = 1 := by rw [a1, gw1_1, if_pos ⟨rfl, rfl⟩]
    have ap : ∀ b i, ¬ (b = 215 ∧ 40 ≤ i) → a.2 b i = t.2 b i := fun b i h => by rw [a2, gw2_2, if_neg (by omega), gw2_2, if_neg (by omega), v5 b i (by omega)]
    rw [← ha]
    obtain ⟨u, u1, u2, u3, u4⟩ := sl_211_113 k 100000 0 a (by omega) (by omega)
    have u1 : gm_211_113 k 100000 0 a = some u := u1
    have ku : KF1 t u := ⟨fun b i _ h2 h3 => by rw [u3 b i h2, ao b i h3], fun b i h => by rw [u2, ap b i h]⟩
    have e243 : ∀ l, u.1 243 l = t.1 243 l := fun l => by rw [u3 _ _ (by decide), ao _ _ (by omega)]
    refine ⟨u, u1, ⟨fun q => ?_, fun i q => ?_⟩, RBf_o ku (fun l _ _ => e243 l) R, fun l _ => e243 l, ku⟩
    · rw [hb] at q; cases q
    · rw [hb] at q
      cases q
      exact ⟨by rw [u3 _ _ (by decide)]; exact a43, by rw [u2]; exact a44, by rw [u2]; exact a45, fun l hl => by rw [u4, if_pos (by omega), ao _ _ (by omega)]; exact er l hl⟩
  unfold gm_211o
  rw [if_pos (by decide), if_pos (by decide), v1, Option.bind_some]
  by_cases q : 0 < SA X (RE X o e)
  · rw [if_neg (fun y => (gbD v).mp y q)]
    show ∃ u : gx_S, (if (-2147483648 ≤ (v.1 215 43) ∧ (v.1 215 43) ≤ 2147483647) then (if (v.1 215 43) = 0 then gm_211_90 k v else (if (-9223372036854775808 ≤ ((v.2 215 40) * (v.2 215 45)) ∧ ((v.2 215 40) * (v.2 215 45)) ≤ 9223372036854775807) then (if (-9223372036854775808 ≤ ((v.2 215 44) * (v.2 215 41)) ∧ ((v.2 215 44) * (v.2 215 41)) ≤ 9223372036854775807) then (if ((v.2 215 40) * (v.2 215 45)) < ((v.2 215 44) * (v.2 215 41)) then gm_211_90 k v else some v) else none) else none)) else none) = some u ∧ _
    rw [v2]
    cases p : BI X c P o e with
    | none =>
      rw [C.1 p, if_pos (by decide), if_pos rfl]
      exact st (by rw [BI_n p, if_pos q])
    | some i =>
      obtain ⟨b1, b2, b3, b4⟩ := C.2 i p
      have m1 := MS_r B (RE_B X ho i)
      have s1 := SA_r B (RE_B X ho i)
      have p1 := mul_r mr s1
      have p2 := mul_r m1 sr
      rw [b1, if_pos (by decide), if_neg (by decide), v3, v4, v5 215 45 (by omega), v5 215 44 (by omega), b2, b3, if_pos (by omega), if_pos (by omega)]
      by_cases y : MS X c P (RE X o e) * SA X (RE X o i) < MS X c P (RE X o i) * SA X (RE X o e)
      · rw [if_pos y]
        exact st (by rw [BI_s p, if_pos ⟨q, y⟩])
      · rw [if_neg y]
        have hb : BI X c P o (e + 1) = some i := by rw [BI_s p, if_neg fun x => y x.2]
        refine ⟨v, rfl, ⟨fun x => ?_, fun j x => ?_⟩, rv, fun l _ => by rw [v2], kv⟩
        · rw [hb] at x; cases x
        · rw [hb] at x
          cases x
          exact ⟨by rw [v2]; exact b1, by rw [v5 _ _ (by omega)]; exact b2, by rw [v5 _ _ (by omega)]; exact b3, fun l hl => by rw [v2]; exact b4 l hl⟩
  · rw [if_pos ((gbD v).mpr q)]
    refine ⟨v, rfl, ?_, rv, fun l _ => by rw [v2], kv⟩
    unfold CRf
    rw [BI_0 q, v2]
    refine ⟨C.1, fun i p => ?_⟩
    obtain ⟨b1, b2, b3, b4⟩ := C.2 i p
    exact ⟨b1, by rw [v5 _ _ (by omega)]; exact b2, by rw [v5 _ _ (by omega)]; exact b3, b4⟩
theorem sl_211 (B : XB X c P) (ho : wB9 o) (hg : g < 3) : ∀ (d n : Nat) (t : gx_S) (e : Nat), d < n → d ≤ 4 → RBf t X c P o g → (∀ j, j < 4 - d → t.1 243 j = RE X o e j) → zq X d ∣ e → CRf t X c P o e → ∃ u : gx_S, gm_211f n g ((4 - d : Nat) : Int) t = some u ∧ CRf u X c P o (e + zq X d) ∧ RBf u X c P o g ∧ (∀ j, j < 4 - d → u.1 243 j = t.1 243 j) ∧ KF1 t u := by
  intro d
  induction d with
  | zero =>
    intro n t e hn _ R er hz C
    obtain ⟨n, rfl⟩ : ∃ k, n = k + 1 := ⟨n - 1, by omega⟩
    rw [gm_211f]
    exact sp_211L (gm_211f n) B ho hg R er C
  | succ d ih =>
    intro n t e hn hd R er hz C
    obtain ⟨n, rfl⟩ : ∃ k, n = k + 1 := ⟨n - 1, by omega⟩
    have el : 4 - (d + 1) = 3 - d := by omega
    rw [el] at er ⊢
    have l4 : 3 - d < 4 := by omega
    have lr := LC_r B l4
    have ce : (((3 - d : Nat) : Int) + 1) = ((4 - d : Nat) : Int) := by omega
    have hz0 := (zq_r X d).1
    have zs : zq X (d + 1) = bsz X (3 - d) * zq X d := rfl
    rw [gm_211f]
    unfold gm_211o
    rw [if_pos (by omega), if_neg (by omega), sp_207 R.1 l4, Option.bind_some]
    dsimp only
    rw [if_pos (by omega)]
    by_cases q : LC X (3 - d) = 0
    · have z1 : zq X (d + 1) = zq X d := by
        rw [zs]
        unfold bsz
        rw [if_neg (by omega), Nat.one_mul]
      rw [z1] at hz ⊢
      rw [if_neg (fun y => y q), ce]
      obtain ⟨u, u1, u2, u3, u4, u5⟩ := ih n t e (by omega) (by omega) R (fun j hj => by
        by_cases p : j = 3 - d
        · rw [p, RE_z (by omega)]
          exact R.2.2.2 (3 - d) l4 (by omega)
        · exact er j (by omega)) hz C
      rw [u1, Option.bind_some]
      exact ⟨u, rfl, u2, u3, fun j hj => u4 j (by omega), u5⟩
    · have z10 : zq X (d + 1) = 10 * zq X d := by
        rw [zs]
        unfold bsz
        rw [if_pos (by omega)]
      rw [if_pos q]
      have lp : ∀ (m w : Nat) (t' : gx_S), 10 < m + w → w ≤ 10 → RBf t' X c P o g → (∀ j, j < 3 - d → t'.1 243 j = RE X o e j) → CRf t' X c P o (e + w * zq X d) → ∃ u : gx_S, gm_211_24 (gm_211f n) m g ((3 - d : Nat) : Int) w t' = some u ∧ CRf u X c P o (e + 10 * zq X d) ∧ RBf u X c P o g ∧ (∀ j, j < 3 - d → u.1 243 j = t'.1 243 j) ∧ KF1 t' u := by
        intro m
        induction m with
        | zero => intro w t' h; omega
        | succ m ihm =>
          intro w t' h hw R' er' C'
          rw [gm_211_24, if_pos (by omega)]
          by_cases y : w = 10
          · rw [if_pos (by omega)]
            rw [y] at C'
            exact ⟨t', rfl, C', R', fun _ _ => rfl, KF1_rf t'⟩
          · have cw : ((w : Int) + 1) = ((w + 1 : Nat) : Int) := rfl
            have i1 : (((3 - d : Nat) : Int)).toNat = 3 - d := by omega
            rw [if_neg (by omega), if_pos (by omega), i1, ce, cw]
            obtain ⟨a, ha⟩ : ∃ a, a = gw1 t' 243 (3 - d) w := ⟨_, rfl⟩
            have a1 : ∀ b i, ¬ (b = 243 ∧ i = 3 - d) → a.1 b i = t'.1 b i := fun b i h => by rw [ha, gw1_1, if_neg h]
            have a2 : a.1 243 (3 - d) = w := by rw [ha, gw1_1, if_pos ⟨rfl, rfl⟩]
            have a3 : a.2 = t'.2 := by rw [ha]; rfl
            have ka : KF1 t' a := ⟨fun b i h1 _ _ => a1 b i (fun x => h1 x.1), fun b i _ => by rw [a3]⟩
            have Ra : RBf a X c P o g := RBf_o ka (fun l hl p => a1 _ _ (fun x => p (by rw [x.2]; omega))) R'
            have wz : w * zq X d < zq X (d + 1) := by
              rw [z10]
              exact Nat.mul_lt_mul_of_pos_right (by omega) hz0
            have Ca : CRf a X c P o (e + w * zq X d) := ⟨fun p => by rw [a1 _ _ (by omega)]; exact C'.1 p, fun i p => by
              obtain ⟨b1, b2, b3, b4⟩ := C'.2 i p
              exact ⟨by rw [a1 _ _ (by omega)]; exact b1, by rw [a3]; exact b2, by rw [a3]; exact b3, fun l hl => by rw [a1 _ _ (by omega)]; exact b4 l hl⟩⟩
            rw [← ha]
            obtain ⟨v, v1, v2, v3, v4, v5⟩ := ih n a (e + w * zq X d) (by omega) (by omega) Ra (fun j hj => by
              by_cases p : j = 3 - d
              · rw [p, a2, RE_dig hz (by omega) (by omega) (by omega)]
              · rw [a1 _ _ (fun x => p x.2), RE_pre hz wz (by omega)]
                exact er' j (by omega)) (Nat.dvd_add (Nat.dvd_trans (zq_dvd X (Nat.le_succ d)) hz) ⟨w, Nat.mul_comm _ _⟩) Ca
            rw [v1, Option.bind_some]
            obtain ⟨u, u1, u2, u3, u4, u5⟩ := ihm (w + 1) v (by omega) (by omega) v3 (fun j hj => by rw [v4 j (by omega), a1 _ _ (by omega)]; exact er' j hj) (by rw [Nat.add_mul, Nat.one_mul, ← Nat.add_assoc]; exact v2)
            exact ⟨u, u1, u2, u3, fun j hj => by rw [u4 j hj, v4 j (by omega), a1 _ _ (by omega)], KF1_tr ka (KF1_tr v5 u5)⟩
      obtain ⟨u, u1, u2, u3, u4, u5⟩ := lp 100000 0 t (by omega) (by omega) R er (by rw [Nat.zero_mul]; exact C)
      have u1 : gm_211_24 (gm_211f n) 100000 g ((3 - d : Nat) : Int) 0 t = some u := u1
      rw [z10]
      exact ⟨u, u1, u2, u3, u4, u5⟩
theorem sp_211 {t : gx_S} (B : XB X c P) (ho : wB9 o) (hg : g < 3) (R : RBf t X c P o g) (h : t.1 215 43 = 0) : ∃ u : gx_S, gm_211 g 0 t = some u ∧ CRf u X c P o (zq X 4) ∧ KF1 t u := by
  obtain ⟨u, u1, u2, u3, u4, u5⟩ := sl_211 B ho hg 4 6 t 0 (by omega) (by omega) R (fun j hj => absurd hj (by omega)) ⟨0, rfl⟩ ⟨fun _ => h, fun i p => by cases p⟩
  rw [Nat.zero_add] at u2
  exact ⟨u, u1, u2, u5⟩
end
end
section
/-! CALLS: fit -/
def ff (f : Nat → Int) (g : Nat) (w : Nat → Int) (q : Nat) : Int := if 32 + 4 * g ≤ q ∧ q < 36 + 4 * g then w (q - 32 - 4 * g) else f q
theorem MP_ff {f : Nat → Int} {R C g : Nat} {w : Nat → Int} (M : MP f R C) (hg : g < 3) (W : wB9 w) : MP (ff f g w) R C := by
  obtain ⟨m1, m2, m3, m4, m5, m6, m7, m8, m10⟩ := M
  have o : ∀ q, ¬ (32 + 4 * g ≤ q ∧ q < 36 + 4 * g) → ff f g w q = f q := fun q hq => if_neg hq
  refine ⟨?_, ?_, ?_, ?_, fun h hh => ⟨fun z hz => ?_, ?_⟩, fun q hq => ?_, fun q hq => ?_, fun l hl b k hk => ?_, ?_⟩
  · rw [o 0 (by omega), o 1 (by omega)]; exact m1
  · rw [o 2 (by omega)]; exact m2
  · rw [o 3 (by omega)]; exact m3
  · rw [o 4 (by omega)]; exact m4
  · rw [o _ (by omega)]; exact (m5 h hh).1 z hz
  · rw [sg_eq (g := fun z => f (5 + 9 * h + z)) fun z hz => o _ (by omega)]; exact (m5 h hh).2
  · by_cases p : 4 * g ≤ q ∧ q < 4 * g + 4
    · unfold ff
      rw [if_pos (by omega)]
      exact W _ (by omega)
    · rw [o _ (by omega)]; exact m6 q hq
  · rw [o _ (by omega)]; exact m7 q hq
  · rw [o 2 (by omega)] at b
    rw [o _ (by omega)]
    exact m8 l hl b k hk
  · rw [o 2 (by omega)]; exact m10
theorem MR_ff {u : gx_S} {f : Nat → Int} {R C g : Nat} {w : Nat → Int} (m : MR u 1 f R C) (hg : g < 3) (hw : ∀ l, l < 4 → u.1 63 l = w l) : MR (gcp u 63 0 4 (4 * g) 4) 1 (ff f g w) R C := by
  obtain ⟨m1, m2, m3, m4, m5, m6, m7, m8, m9⟩ := m
  have o : ∀ q, ¬ (32 + 4 * g ≤ q ∧ q < 36 + 4 * g) → ff f g w q = f q := fun q hq => if_neg hq
  have uo : ∀ a i, a ≠ 4 → (gcp u 63 0 4 (4 * g) 4).1 a i = u.1 a i := fun a i h => by rw [gcp_1, if_neg (fun x => h x.1)]
  refine ⟨by rw [uo _ _ (by decide), o 0 (by omega)]; exact m1, by rw [uo _ _ (by decide), o 1 (by omega)]; exact m2, by rw [uo _ _ (by decide), o 2 (by omega)]; exact m3, by rw [uo _ _ (by decide), o 3 (by omega)]; exact m4, by rw [uo _ _ (by decide), o 4 (by omega)]; exact m5, fun i hi => by rw [uo _ _ (by decide), o _ (by omega)]; exact m6 i hi, fun i hi => ?_, fun i hi => by rw [uo _ _ (by decide), o _ (by omega)]; exact m8 i hi, fun l hl b k hk => ?_⟩
  · rw [show (1 : Nat) + 3 = 4 from rfl] at m7 ⊢
    rw [gcp_1]
    unfold ff
    by_cases p : 4 * g ≤ i ∧ i < 4 * g + 4
    · rw [if_pos ⟨rfl, p⟩, if_pos (by omega), show 0 + (i - 4 * g) = i - 4 * g by omega, show 32 + i - 32 - 4 * g = i - 4 * g by omega]
      exact hw _ (by omega)
    · rw [if_neg (fun x => p x.2), if_neg (by omega)]
      exact m7 i hi
  · rw [o 2 (by omega)] at b
    rw [uo _ _ (by decide), o _ (by omega)]
    exact m9 l hl b k hk
def cntf (b o : Nat → Int) (j : Nat) : Int := sg (fun l => if b l = o l then 0 else 1) j
theorem cntf_r (b o : Nat → Int) : ∀ j : Nat, 0 ≤ cntf b o j ∧ cntf b o j ≤ j := by
  intro j
  have := sg_bd (f := fun l => if b l = o l then 0 else 1) (B := 1) (n := j) fun k _ => by
    show 0 ≤ (if b k = o k then (0 : Int) else 1) ∧ (if b k = o k then (0 : Int) else 1) ≤ 1
    split <;> omega
  unfold cntf
  omega
theorem sl_92 {s : gx_S} {g : Nat} {b o : Nat → Int} (hg : g < 3) (hb : ∀ l, l < 4 → s.1 63 l = b l) (ho : ∀ l, l < 4 → s.1 4 (4 * g + l) = o l) (rb : wB9 b) (ro : wB9 o) : ∀ (n j : Nat), 4 < n + j → j ≤ 4 → gm_92_21 n g (cntf b o j) j s = if cntf b o 4 = 0 then some (-2, s) else (gm_119 s).bind fun q6 => some (cntf b o 4, gcp q6 63 0 4 (4 * g) 4) := by
  intro n
  induction n with
  | zero => intro j h; omega
  | succ n ih =>
    intro j h hj
    have cr := cntf_r b o j
    rw [gm_92_21, if_pos (by omega)]
    by_cases q : j = 4
    · have i1 : ((g : Int) * 4).toNat = 4 * g := by omega
      rw [if_pos (by omega), if_pos (by omega), q, i1]
      by_cases y : cntf b o 4 = 0
      · rw [if_neg (fun x => x y), if_pos y]
      · rw [if_pos y, if_neg y]
        congr 1
        funext q6
        rw [if_pos (by omega)]
    · have ce : ((j : Int) + 1) = ((j + 1 : Nat) : Int) := rfl
      have i1 : ((j : Int)).toNat = j := by omega
      have i2 : (((g : Int) * 4) + (j : Int)).toNat = 4 * g + j := by omega
      have r1 := rb j (by omega)
      have r2 := ro j (by omega)
      rw [if_neg (by omega), if_pos (by omega), if_pos (by omega), i1, i2, hb j (by omega), ho j (by omega), if_pos (by omega), if_pos (by omega)]
      unfold gm_92_54
      rw [ce]
      have i := ih (j + 1) (by omega) (by omega)
      have e : cntf b o (j + 1) = cntf b o j + (if b j = o j then 0 else 1) := rfl
      rw [e] at i
      by_cases y : b j = o j
      · rw [if_pos y, Int.add_zero] at i
        rw [if_pos y]
        exact i
      · rw [if_neg y] at i
        rw [if_neg y]
        exact i
theorem sl_212_45 {s : gx_S} {g : Nat} {b o : Nat → Int} (hg : g < 3) (hb : ∀ l, l < 4 → s.1 244 l = b l) (ho : ∀ l, l < 4 → s.1 216 (32 + 4 * g + l) = o l) (rb : wB9 b) (ro : wB9 o) : ∀ (n j : Nat), 4 < n + j → j ≤ 4 → gm_212_45 n g (cntf b o j) j s = if cntf b o 4 = 0 then some (-2, s) else (gm_132 s).bind fun q6 => gm_212_102 100000 g (cntf b o 4) 0 q6 := by
  intro n
  induction n with
  | zero => intro j h; omega
  | succ n ih =>
    intro j h hj
    have cr := cntf_r b o j
    rw [gm_212_45, if_pos (by omega)]
    by_cases q : j = 4
    · rw [if_pos (by omega), if_pos (by omega), q]
      by_cases y : cntf b o 4 = 0
      · rw [if_neg (fun x => x y), if_pos y]
      · rw [if_pos y, if_neg y]
    · have ce : ((j : Int) + 1) = ((j + 1 : Nat) : Int) := rfl
      have i1 : ((j : Int)).toNat = j := by omega
      have i2 : ((32 + (4 * (g : Int))) + (j : Int)).toNat = 32 + 4 * g + j := by omega
      have r1 := rb j (by omega)
      have r2 := ro j (by omega)
      rw [if_neg (by omega), if_pos (by omega), if_pos (by omega), i1, i2, hb j (by omega), ho j (by omega), if_pos (by omega), if_pos (by omega)]
      unfold gm_212_78
      rw [ce]
      have i := ih (j + 1) (by omega) (by omega)
      have e : cntf b o (j + 1) = cntf b o j + (if b j = o j then 0 else 1) := rfl
      rw [e] at i
      by_cases y : b j = o j
      · rw [if_pos y] at i
        rw [if_pos y, sp_131 (.inl rfl), Option.bind_some]
        exact i
      · rw [if_neg y] at i
        rw [if_neg y, sp_131 (.inr rfl), Option.bind_some]
        exact i
theorem sl_212_102 {g : Nat} {x : Int} (hg : g < 3) : ∀ (n j : Nat) (t : gx_S), 4 < n + j → j ≤ 4 → ∃ u : gx_S, gm_212_102 n g x j t = some (x, u) ∧ u.2 = t.2 ∧ (∀ a i, a ≠ 216 → u.1 a i = t.1 a i) ∧ ∀ i, u.1 216 i = if 32 + 4 * g + j ≤ i ∧ i < 36 + 4 * g then t.1 244 (i - 32 - 4 * g) else t.1 216 i := by
  intro n
  induction n with
  | zero => intro j t h; omega
  | succ n ih =>
    intro j t h hj
    rw [gm_212_102, if_pos (by omega)]
    by_cases q : j = 4
    · rw [if_pos (by omega)]
      exact ⟨t, rfl, rfl, fun _ _ _ => rfl, fun i => by rw [if_neg (by omega)]⟩
    · have ce : ((j : Int) + 1) = ((j + 1 : Nat) : Int) := rfl
      have i1 : ((j : Int)).toNat = j := by omega
      have i2 : ((32 + (4 * (g : Int))) + (j : Int)).toNat = 32 + 4 * g + j := by omega
      rw [if_neg (by omega), if_pos (by omega), if_pos (by omega), i1, i2, ce]
      obtain ⟨u, u1, u2, u3, u4⟩ := ih (j + 1) (gw1 t 216 (32 + 4 * g + j) (t.1 244 j)) (by omega) (by omega)
      refine ⟨u, u1, u2, fun a i h => by rw [u3 a i h, gw1_1, if_neg (fun x => h x.1)], fun i => ?_⟩
      rw [u4, gw1_1 t 216 (32 + 4 * g + j) _ 244, if_neg (show ¬ ((244 : Nat) = 216 ∧ i - 32 - 4 * g = 32 + 4 * g + j) by omega), gw1_1]
      by_cases z : i = 32 + 4 * g + j
      · rw [if_neg (show ¬ (32 + 4 * g + (j + 1) ≤ i ∧ i < 36 + 4 * g) by omega), if_pos (show (216 : Nat) = 216 ∧ i = 32 + 4 * g + j from ⟨rfl, z⟩), if_pos (show 32 + 4 * g + j ≤ i ∧ i < 36 + 4 * g by omega), show i - 32 - 4 * g = j by omega]
      · rw [if_neg (show ¬ ((216 : Nat) = 216 ∧ i = 32 + 4 * g + j) from fun x => z x.2)]
        by_cases y : 32 + 4 * g + (j + 1) ≤ i ∧ i < 36 + 4 * g
        · rw [if_pos y, if_pos (show 32 + 4 * g + j ≤ i ∧ i < 36 + 4 * g by omega)]
        · rw [if_neg y, if_neg (show ¬ (32 + 4 * g + j ≤ i ∧ i < 36 + 4 * g) by omega)]
theorem LC_some {f : Nat → Int} {R C g : Nat} (M : MP f R C) (h7 : f 2 = 7) (hg : g < 3) (p : 0 < CP f R C g) : ∃ l, l < 4 ∧ 0 < LC (CL f R C) l := by
  refine Classical.byContradiction fun h => ?_
  have B := CL_XB M hg
  have x0 : ∀ z, z < 8 → ∀ l, l < 4 → CL f R C z l = 0 := fun z hz l hl => by
    have a := sg_at (f := fun z => CL f R C z l) (n := 8) (fun k hk => (B.1 k l hk hl).1) z hz
    have b := (B.1 z l hz hl).1
    have d : ¬ 0 < LC (CL f R C) l := fun q => h ⟨l, hl, q⟩
    unfold LC at d
    omega
  have l0 : ∀ z, z < 8 → L0 f R C g z = 0 := fun z hz => by
    have e := CL_NC (z := z) M h7
    rw [sg_0 (f := fun l => CL f R C z l) fun l hl => x0 z hz l hl] at e
    unfold L0
    rw [if_neg (by omega)]
  have e : CP f R C g = 0 := sg_0 l0
  omega
theorem inv_fit {s : gx_S} (h : INV s) {x : Int} (hx : i32 x) : two s (gm_92 x) (gm_212 x) := by
  obtain ⟨f, R, C, n, pf, L, tb, c, r, v⟩ := id h
  have hx' := hx
  unfold i32 at hx'
  have c148 : ∀ t : gx_S, gm_148 x t = _ := fun t => sp_148 t hx
  have c150 : ∀ t : gx_S, t.1 216 = f → gm_150 t = some (decide (f 2 = 7), t) := fun t et => by
    have := sp_150 (s := t) (by rw [et]; exact v.1.2.1)
    rw [et] at this
    exact this
  obtain ⟨c21, c21'⟩ := sp_121 c.1 v.1 hx
  have s2 : ∀ t : gx_S, t.1 216 = f → gm_212 x t = if (0 ≤ x ∧ x < 3) ∧ f 2 = 7 then ((gm_205 x t).bind fun q45 => if (-2147483648 ≤ (q45.1 215 42) ∧ (q45.1 215 42) ≤ 2147483647) then (if ¬ (q45.1 215 42) = 0 then ((gm_211 x 0 (gw1 q45 215 43 0)).bind fun q49 => gm_212_45 100000 x 0 0 q49) else some ((-1), q45)) else none) else some (-1, t) := fun t et => by
    unfold gm_212
    rw [c150 t et, Option.bind_some]
    by_cases b : f 2 = 7
    · rw [if_neg (fun q => (gbD t).mp q b)]
      show ((gm_148 x t).bind _) = _
      rw [c148 t, Option.bind_some]
      by_cases a : 0 ≤ x ∧ x ≤ 2
      · rw [if_pos (fun q => (gbD t).mp q a), if_pos (show (0 ≤ x ∧ x < 3) ∧ f 2 = 7 from ⟨by omega, b⟩)]
      · rw [if_neg (fun q => q ((gbD t).mpr a)), if_neg (fun q : (0 ≤ x ∧ x < 3) ∧ f 2 = 7 => a (by have := q.1; omega))]
    · rw [if_pos ((gbD t).mpr b), if_neg (fun q : (0 ≤ x ∧ x < 3) ∧ f 2 = 7 => b q.2)]
  unfold two
  by_cases ok : (0 ≤ x ∧ x < 3) ∧ f 2 = 7
  · obtain ⟨a, h7⟩ := id ok
    obtain ⟨g, rfl⟩ : ∃ g : Nat, x = g := ⟨x.toNat, by omega⟩
    have hg : g < 3 := by omega
    have B := CL_XB v.1 hg
    have W := W0_b v.1 hg
    obtain ⟨u, u1, u2, u3, u4, u5⟩ := c21' g rfl hg h7
    -- the reference ahead of its search
    have kr : ∀ w : gx_S, w.1 216 = f → ∃ z : gx_S, KRw w z ∧ z.1 216 = f ∧ gm_212 g w = (if ¬ CP f R C g = 0 then ((gm_211 g 0 (gw1 z 215 43 0)).bind fun q49 => gm_212_45 100000 g 0 0 q49) else some (-1, z)) ∧ RSw z (CL f R C) (W0 f g) ∧ z.1 215 42 = CP f R C g := fun w ew => by
      obtain ⟨z, z1, z2, z3, z4, z5⟩ := sp_205 ew v.1 h7 hg
      refine ⟨z, KRw_of4 (fun k j q1 q2 _ q3 => z5 k j q1 q2 (by omega)) (fun k j _ => by rw [z4]), by funext i; rw [z5 _ _ (by decide) (by decide) (by omega), ew], ?_, z2, z3⟩
      rw [s2 w ew, if_pos ok, z1, Option.bind_some, z3, if_pos (by have := B.2.2; omega)]
    have e92 : gm_92 g s = if ¬ gb (decide (0 < CP f R C g)) = 0 then ((gm_15 u).bind fun q28 => gm_92_21 100000 g 0 0 q28) else some (-1, u) := by
      unfold gm_92
      rw [u1, Option.bind_some]
    have ku : ∀ a i, ¬ (62 ≤ a ∧ a ≤ 68) → u.1 a i = s.1 a i := fun a i q => u4 a i (by omega)
    by_cases p0 : 0 < CP f R C g
    · obtain ⟨w, w1, w2, w3⟩ := sp_15 B W u2 u3
      obtain ⟨l, hl, hL⟩ := LC_some v.1 h7 hg p0
      obtain ⟨i, hi⟩ := BI_some (c := Cc f g) (P := CP f R C g) B W hl hL
      obtain ⟨_, _, best⟩ := w2.2 i hi
      have rb := RE_B (CL f R C) W i
      obtain ⟨b, hb⟩ : ∃ b, b = RE (CL f R C) (W0 f g) i := ⟨_, rfl⟩
      rw [← hb] at best rb
      have kw1 : ∀ a i, ¬ (62 ≤ a ∧ a ≤ 68) → w.1 a i = s.1 a i := fun a i q => (w3.1 a i (by omega) (by omega) (by omega)).trans (ku a i q)
      have kw2 : ∀ a i, a ≠ 62 → w.2 a i = s.2 a i := fun a i q => (w3.2 a i (by omega)).trans (u5 a i q)
      have cw := CV_fit kw1 c
      have kc := KC_fit kw1 kw2
      have rw' := RV_KC kc r
      have e4 : ∀ l, l < 4 → w.1 4 (4 * g + l) = W0 f g l := fun l hl => by
        rw [kw1 _ _ (by omega)]
        have := c.1.2.2.2.2.2.2.1 (4 * g + l) (by omega)
        rw [show (1 : Nat) + 3 = 4 from rfl] at this
        rw [this]
        unfold W0
        rw [Nat.add_assoc]
      have s1 := sl_92 (s := w) hg best e4 rb W 100000 0 (by omega) (by omega)
      have s1 : gm_92_21 100000 g 0 0 w = _ := s1
      rw [if_pos (fun q => (gbD s).mp q p0), w1, Option.bind_some, s1] at e92
      -- the reference's search
      have kr2 : ∀ y : gx_S, y.1 216 = f → ∃ t : gx_S, KRw y t ∧ t.1 216 = f ∧ (∀ l, l < 4 → t.1 244 l = b l) ∧ gm_212 g y = if cntf b (W0 f g) 4 = 0 then some (-2, t) else (gm_132 t).bind fun q6 => gm_212_102 100000 g (cntf b (W0 f g) 4) 0 q6 := fun y ey => by
        obtain ⟨z, z1, z2, z3, z4, z5⟩ := kr y ey
        obtain ⟨a, ha⟩ : ∃ a, a = gw1 z 215 43 0 := ⟨_, rfl⟩
        have a1 : ∀ d j, ¬ (d = 215 ∧ j = 43) → a.1 d j = z.1 d j := fun d j q => by rw [ha, gw1_1, if_neg q]
        have a2 : a.2 = z.2 := by rw [ha]; rfl
        have a216 : a.1 216 = f := by funext j; rw [a1 _ _ (by omega), z2]
        obtain ⟨t, t1, t2, t3⟩ := sp_211 (t := a) (o := W0 f g) (c := Cc f g) B W hg ⟨fun q l hq hl => by rw [a1 _ _ (by omega)]; exact z4.1 q l hq hl, by rw [a1 _ _ (by omega)]; exact z5, fun q hq => by rw [a216]; rfl, fun l hl _ => by rw [a1 _ _ (by omega)]; exact z4.2 l hl⟩ (by rw [ha, gw1_1, if_pos ⟨rfl, rfl⟩])
        have ka : KRw z a := KRw_of4 (fun k j _ _ _ q => a1 k j (by omega)) fun k j _ => by rw [a2]
        have kt : KRw a t := KRw_of4 (fun k j _ q1 q2 q3 => t3.1 k j q1 q2 (by omega)) fun k j q => t3.2 k j (fun x => q x.1)
        have et : t.1 216 = f := (KRw_216 kt).trans a216
        have e244 : ∀ l, l < 4 → t.1 244 l = b l := by rw [hb]; exact (t2.2 i hi).2.2.2
        refine ⟨t, KRw_tr z1 (KRw_tr ka kt), et, e244, ?_⟩
        have l45 := sl_212_45 (s := t) hg e244 (fun l hl => by rw [et]; rfl) rb W 100000 0 (by omega) (by omega)
        have l45 : gm_212_45 100000 g 0 0 t = _ := l45
        rw [z3, if_pos (by omega), ← ha, t1, Option.bind_some, l45]
      by_cases c0 : cntf b (W0 f g) 4 = 0
      · obtain ⟨t, t1, t2, t3, t4⟩ := kr2 w rw'.1
        rw [if_pos c0] at e92 t4
        exact ⟨-2, w, t, e92, t4, q_inv kc cw r v t1⟩
      · obtain ⟨d, d1, d2, d3, d4, d5⟩ := act_pre2 cw rw' v
        obtain ⟨y, hy⟩ : ∃ y, y = gcp d 63 0 4 (4 * g) 4 := ⟨_, rfl⟩
        have y1 : ∀ k j, 6 ≤ k → y.1 k j = d.1 k j := fun k j q => by rw [hy, gcp_1, if_neg (by omega)]
        have y2 : y.2 = d.2 := by rw [hy]; rfl
        have y3 : y.1 216 = f := by funext j; rw [y1 _ _ (by omega), d3]
        have d63 : ∀ l, l < 4 → d.1 63 l = b l := fun l hl => by rw [d4 _ _ (by omega) (by omega)]; exact best l hl
        have my : MR y 1 (ff f g b) R C := by rw [hy]; exact MR_ff d2 hg d63
        obtain ⟨t, t1, t2, t3, t4⟩ := kr2 y y3
        obtain ⟨sy, _, q, q1, q2, q3, q4⟩ := d5 y t y1 y2 t1
        obtain ⟨p, p1, p2, p3, p4⟩ := sl_212_102 (g := g) (x := cntf b (W0 f g) 4) hg 100000 0 q (by omega) (by omega)
        have p1 : gm_212_102 100000 g (cntf b (W0 f g) 4) 0 q = _ := p1
        rw [if_neg c0, d1, Option.bind_some, ← hy] at e92
        rw [if_neg c0, q1, Option.bind_some, p1] at t4
        refine ⟨_, y, p, e92, t4, q4 p (ff f g b) R C p3 p2 (MP_ff v.1 hg rb) my fun j hj => ?_⟩
        rw [p4, q2]
        unfold ff
        by_cases z : 32 + 4 * g ≤ j ∧ j < 36 + 4 * g
        · rw [if_pos (by omega), if_pos z, q3 244 _ (by decide) (by omega)]
          exact t3 _ (by omega)
        · rw [if_neg (by omega), if_neg z]
    · have pn : CP f R C g = 0 := by have := B.2.2; omega
      rw [if_neg (fun q => q ((gbD s).mpr p0))] at e92
      obtain ⟨z, z1, z2, z3, z4, z5⟩ := kr u (by funext j; rw [ku _ _ (by omega), r.1])
      rw [if_neg (fun q => q pn)] at z3
      exact ⟨-1, u, z, e92, z3, q_inv (KC_fit ku u5) (CV_fit ku c) r v z1⟩
  · refine ⟨-1, s, s, ?_, (s2 s r.1).trans (if_neg ok), h⟩
    unfold gm_92
    rw [c21 ok, Option.bind_some, if_neg (fun q => q rfl)]
end
section
/-! DOUBLES THAT ARE NO NaN: what the queries compute with; Bits.of answers -/
theorem d6 {x : UInt64} (h : Jvm.Free.Fl.NoNaN64 x) : id_n6 x = true := decide_eq_true h
theorem d3 {x : UInt32} (h : Jvm.Free.Fl.NoNaN32 x) : id_n3 x = true := decide_eq_true h
theorem d_q {a b : Int32} (hb : ¬ b = 0) : Jvm.Free.Fl.Mag64 1095 (FP.ddiv (FP.i2d a) (FP.i2d b)) := by
  have hz : b.toInt ≠ 0 := fun h => hb (Int32.toInt_inj.mp (h.trans Int32.toInt_zero.symm))
  have h2 := Jvm.FP.Core.i2d_big hz
  have h1 := Jvm.FP.Core.ddiv_mag (K := 1056) (L := 1023) (Jvm.FP.Core.i2d_mag a) h2.1 h2.2 (by decide) (by decide)
  exact Nat.lt_of_lt_of_le h1 (by decide)
theorem d_l {a : Int64} {b : Int32} (hb : ¬ b = 0) : Jvm.Free.Fl.Mag64 1095 (FP.ddiv (FP.l2d a) (FP.i2d b)) := by
  have hz : b.toInt ≠ 0 := fun h => hb (Int32.toInt_inj.mp (h.trans Int32.toInt_zero.symm))
  have h2 := Jvm.FP.Core.i2d_big hz
  have h1 := Jvm.FP.Core.ddiv_mag (K := 1088) (L := 1023) (Jvm.FP.Core.l2d_mag a) h2.1 h2.2 (by decide) (by decide)
  exact Nat.lt_of_lt_of_le h1 (by decide)
theorem d_two : Jvm.Free.Fl.Fin64 4611686018427387904 ∧ Jvm.Free.Fl.Nz64 4611686018427387904 := by unfold Jvm.Free.Fl.Fin64 Jvm.Free.Fl.Nz64; decide
theorem d_half : Jvm.Free.Fl.Fin64 4602678819172646912 ∧ Jvm.Free.Fl.Nz64 4602678819172646912 := by unfold Jvm.Free.Fl.Fin64 Jvm.Free.Fl.Nz64; decide
theorem d_one : Jvm.Free.Fl.Fin64 FP.dconst1 ∧ Jvm.Free.Fl.Nz64 FP.dconst1 := by unfold Jvm.Free.Fl.Fin64 Jvm.Free.Fl.Nz64 FP.dconst1; decide
theorem d_abs {K : Nat} {x : UInt64} (h : Jvm.Free.Fl.Mag64 K x) : Jvm.Free.Fl.Mag64 K (x &&& 0x7fffffffffffffff) := by
  unfold Jvm.Free.Fl.Mag64 at h ⊢
  rw [Jvm.Free.Fl.abs_toNat]
  omega
theorem d_0 : Jvm.Free.Fl.Mag64 1100 FP.dconst0 := by unfold Jvm.Free.Fl.Mag64 FP.dconst0; decide
theorem sp_2_64 {x2 x3 x6 : Int} {x4 : UInt64} (s : gx_S) (h4 : Jvm.Free.Fl.NoNaN64 x4) (hx : -2147483648 ≤ x6 + x2 ∧ x6 + x2 ≤ 2147483647) (hz : ¬ Int64.ofInt (((Int64.ofInt 1 <<< ((Int32.ofInt x3).toInt64 &&& 63))).toInt) = 0) : ∃ r : Int, gm_2_64 x2 x3 x4 x6 s = some (r, s) := by
  have hf := Jvm.Free.Fl.l2d_fin (Int64.ofInt (((Int64.ofInt 1 <<< ((Int32.ofInt x3).toInt64 &&& 63))).toInt))
  have hn := Jvm.Free.Fl.l2d_nz hz
  unfold gm_2_64
  by_cases q : 0 ≤ (Op.cmpValue (FP.dcmp x4 FP.dconst1) .g).toInt
  · rw [if_pos q, if_pos hx, if_pos (d6 (Jvm.Free.Fl.dsub_out h4 d_one.1)), if_pos (d6 (Jvm.Free.Fl.dmul_outNz (Jvm.Free.Fl.dsub_out h4 d_one.1) hf hn))]
    exact ⟨_, rfl⟩
  · rw [if_neg q, if_pos (d6 (Jvm.Free.Fl.dmul_outNz h4 hf hn))]
    exact ⟨_, rfl⟩
theorem sl_2_35 {x2 x3 : Int} (s : gx_S) (h2 : 1 ≤ x2 ∧ x2 ≤ 2000) (hz : ¬ Int64.ofInt (((Int64.ofInt 1 <<< ((Int32.ofInt x3).toInt64 &&& 63))).toInt) = 0) : ∀ (n : Nat) (x4 : UInt64) (x6 : Int), Jvm.Free.Fl.NoNaN64 x4 → 1 - x2 ≤ x6 → x6 ≤ x2 → x6 + x2 < n → ∃ r : Int, gm_2_35 n x2 x3 x4 x6 s = some (r, s) := by
  intro n
  induction n with
  | zero => intro x4 x6 _ _ _ h; omega
  | succ n ih =>
    intro x4 x6 h4 h5 h6 h
    rw [gm_2_35]
    by_cases q : 0 ≤ (Op.cmpValue (FP.dcmp x4 FP.dconst1) .g).toInt
    · rw [if_pos q]
      exact sp_2_64 s h4 (by omega) hz
    · rw [if_neg q, if_pos (by omega), if_pos (by omega)]
      by_cases y : x6 ≤ 1 - x2
      · rw [if_pos y]
        exact sp_2_64 s h4 (by omega) hz
      · rw [if_neg y, if_pos (d6 (Jvm.Free.Fl.dmul_outNz h4 d_two.1 d_two.2))]
        exact ih _ _ (Jvm.Free.Fl.dmul_outNz h4 d_two.1 d_two.2) (by omega) (by omega) (by omega)
theorem sl_2_6 {x2 x3 : Int} (s : gx_S) (h2 : 1 ≤ x2 ∧ x2 ≤ 2000) (hz : ¬ Int64.ofInt (((Int64.ofInt 1 <<< ((Int32.ofInt x3).toInt64 &&& 63))).toInt) = 0) : ∀ (n : Nat) (x4 : UInt64) (x6 : Int), Jvm.Free.Fl.NoNaN64 x4 → 0 ≤ x6 → x6 ≤ x2 → x2 - x6 < n → ∃ r : Int, gm_2_6 n x2 x3 x4 x6 s = some (r, s) := by
  intro n
  induction n with
  | zero => intro x4 x6 _ _ _ h; omega
  | succ n ih =>
    intro x4 x6 h4 h5 h6 h
    rw [gm_2_6]
    by_cases q : (Op.cmpValue (FP.dcmp x4 (4611686018427387904 : UInt64)) .l).toInt < 0
    · rw [if_pos q]
      exact sl_2_35 s h2 hz 100000 x4 x6 h4 (by omega) (by omega) (by omega)
    · rw [if_neg q, if_pos (by omega), if_pos (by omega)]
      by_cases y : x2 ≤ x6
      · rw [if_pos y]
        exact sl_2_35 s h2 hz 100000 x4 x6 h4 (by omega) (by omega) (by omega)
      · rw [if_neg y, if_pos (d6 (Jvm.Free.Fl.ddiv_out h4 d_two.1 d_two.2))]
        exact ih _ _ (Jvm.Free.Fl.ddiv_out h4 d_two.1 d_two.2) (by omega) (by omega) (by omega)
theorem sp_0 {x : UInt64} (s : gx_S) (h : Jvm.Free.Fl.NoNaN64 x) : ∃ r : Int, gm_0 x s = some (r, s) := by
  obtain ⟨r, e⟩ := sl_2_6 (x2 := 1023) (x3 := 52) s (by decide) (by decide +kernel) 100000 x 0 h (by decide) (by decide) (by decide)
  unfold gm_0 gm_2
  exact ⟨r, gb_bind e rfl⟩
theorem sp_1 {x : UInt32} (s : gx_S) (h : Jvm.Free.Fl.NoNaN32 x) : ∃ r : Int, gm_1 x s = some (r, s) := by
  have h2 := Jvm.Free.Fl.f2d_out h
  obtain ⟨r, e⟩ := sl_2_6 (x2 := 127) (x3 := 23) s (by decide) (by decide +kernel) 100000 (FP.f2d x) 0 h2 (by decide) (by decide) (by decide)
  unfold gm_1 gm_2
  rw [if_pos (d6 h2)]
  exact ⟨r, gb_bind e rfl⟩
end
section
/-! QUERIES: dense (both answer; that the answers are alike is for later) -/
theorem i_nz {x : Int} (h : 0 < x) (h2 : x ≤ 2147483647) : ¬ Int32.ofInt x = 0 := fun q => by
  have e := congrArg Int32.toInt q
  rw [ga_ti (by omega), Int32.toInt_zero] at e
  omega
theorem NC_96 {f : Nat → Int} {R C : Nat} (M : MP f R C) (l : Nat) (z : Int) : 0 ≤ NC f R C l z ∧ NC f R C l z ≤ 96 := by
  have h := NC_nn f R C l z
  have h2 := RC_96 M.1.2.2.1 M.1.2.2.2
  refine ⟨h.1, Int.le_trans h.2 ?_⟩
  have : ((R * C : Nat) : Int) ≤ 96 := by omega
  simpa using this
theorem ref_dense {s : gx_S} {R C : Nat} {x y z : Int} (M : MP (s.1 216) R C) (S : SC s) (hx : i32 x) (hy : i32 y) (hz : i32 z) : ∃ (r : Int) (w : gx_S), gm_203 x y z s = some (r, w) ∧ KRw s w := by
  have hy' := hy
  have hz' := hz
  unfold i32 at hy' hz'
  unfold gm_203
  rw [sp_150 M.2.1, Option.bind_some]
  by_cases h7 : s.1 216 2 = 7
  · rw [if_neg (fun q => (gbD s).mp q h7)]
    dsimp only
    rw [sp_148 s hx, Option.bind_some]
    by_cases a : 0 ≤ x ∧ x ≤ 2
    · rw [if_neg (fun q => (gbD s).mp q a), if_pos hy']
      dsimp only
      rw [in_ s hy (by omega) (by omega), Option.bind_some]
      by_cases b : 0 ≤ y ∧ y ≤ 7
      · rw [if_neg (fun q => (gbD s).mp q b)]
        dsimp only
        have c153 : gm_153 1 y s = _ := sp_153g M 1 y (by omega) hy'
        rw [c153, Option.bind_some]
        by_cases d : 0 < NC (s.1 216) R C 1 y
        · rw [if_neg (fun q => (gbD s).mp q d), if_pos hz']
          dsimp only
          rw [in_ s hz (by omega) (by omega), Option.bind_some]
          by_cases e : 0 ≤ z ∧ z ≤ 3
          · rw [if_pos (fun q => (gbD s).mp q e)]
            dsimp only
            obtain ⟨g, rfl⟩ : ∃ g : Nat, x = g := ⟨x.toNat, by omega⟩
            obtain ⟨y, rfl⟩ : ∃ y' : Nat, y = y' := ⟨y.toNat, by omega⟩
            obtain ⟨u, w, k1, k2, k3, k4, k5, k6, k7⟩ := sp_181f M h7 (show g < 3 by omega) S
            rw [k1, Option.bind_some, k2, Option.bind_some, sp_183 (R := 8) k5 (by omega) (show y < 9 by omega), Option.bind_some]
            dsimp only
            have ew := KR_216 k4
            have T : TT (s.1 216) := by
              unfold TT
              rw [h7]
              decide
            rw [sp_202 ew M T hy, Option.bind_some]
            dsimp only
            have nc := NC_96 M 1 (y : Int)
            have hm := d_q (a := Int32.ofInt (sg (fun x => w.2 224 (9 * x + y)) 8)) (i_nz d (by omega))
            generalize FP.ddiv (FP.i2d (Int32.ofInt (sg (fun x => w.2 224 (9 * x + y)) 8))) (FP.i2d (Int32.ofInt (NC (s.1 216) R C 1 (y : Int)))) = v at hm ⊢
            have hf := hm.fin (by decide)
            have hn := hf.noNaN
            rw [if_pos (d6 hn)]
            by_cases z0 : z = 0
            · rw [if_pos z0]
              exact ⟨_, _, rfl, KR_w k4⟩
            · rw [if_neg z0]
              by_cases z1 : z = 1
              · rw [if_pos z1, if_pos (d3 (Jvm.Free.Fl.d2f_out hn))]
                exact ⟨_, _, rfl, KR_w k4⟩
              · rw [if_neg z1]
                by_cases z2 : z = 2
                · rw [if_pos z2, if_pos (d6 (Jvm.Free.Fl.drem_out hf d_one.1.noNaN d_one.2))]
                  exact ⟨_, _, rfl, KR_w k4⟩
                · rw [if_neg z2, if_pos (d6 (Jvm.Free.Fl.ddiv_out hn d_half.1 d_half.2))]
                  exact ⟨_, _, rfl, KR_w k4⟩
          · rw [if_neg (fun q => q ((gbD s).mpr e))]
            exact ⟨_, s, rfl, KRw_rf s⟩
        · rw [if_pos ((gbD s).mpr d)]
          exact ⟨_, s, rfl, KRw_rf s⟩
      · rw [if_pos ((gbD s).mpr b)]
        exact ⟨_, s, rfl, KRw_rf s⟩
    · rw [if_pos ((gbD s).mpr a)]
      exact ⟨_, s, rfl, KRw_rf s⟩
  · rw [if_pos ((gbD s).mpr h7)]
    exact ⟨_, s, rfl, KRw_rf s⟩
theorem cls_dense {s : gx_S} {f : Nat → Int} {R C n L : Nat} {pf : Nat → Nat → Int} {tb : Nat → Int} {x y z : Int} (c : CV s f R C n pf L tb) (M : MP f R C) (hx : i32 x) (hy : i32 y) (hz : i32 z) : ∃ (r : Int) (u : gx_S), gm_108 x y z s = some (r, u) ∧ KC s u ∧ CV u f R C n pf L tb := by
  have hy' := hy
  have hz' := hz
  unfold i32 at hy' hz'
  have e6 : s.1 1 6 = f 2 := c.1.2.2.1
  have c57 := sp_57 (s := s) (a := 1) (by decide +kernel) (by rw [e6]; exact M.2.1)
  rw [e6] at c57
  unfold gm_108
  rw [sp_114 s hx, Option.bind_some]
  by_cases a : 0 ≤ x ∧ x < 3
  · rw [if_neg (fun q => (gbD s).mp q a)]
    dsimp only
    rw [sp_115 s hy, Option.bind_some]
    by_cases b : 0 ≤ y ∧ y < 8
    · rw [if_neg (fun q => (gbD s).mp q b)]
      dsimp only
      rw [c57, Option.bind_some]
      by_cases h7 : f 2 = 7
      · rw [if_neg (fun q => (gbD s).mp q h7), if_pos hz']
        dsimp only
        by_cases z0 : z < 0
        · rw [if_pos z0]
          exact ⟨_, s, rfl, KC_rf s, c⟩
        · rw [if_neg z0]
          by_cases z3 : z ≤ 3
          · have nc := NC_96 M 1 y
            have c62 : gm_62 1 1 y s = _ := sp_62g c.1 M 1 y (by omega) hy'
            rw [if_pos z3, c62, Option.bind_some]
            dsimp only
            rw [if_pos (by omega)]
            by_cases d : NC f R C 1 y = 0
            · rw [if_neg (fun q => q d)]
              exact ⟨_, s, rfl, KC_rf s, c⟩
            · rw [if_pos d, if_pos a, Option.bind_some]
              obtain ⟨g, rfl⟩ : ∃ g : Nat, x = g := ⟨x.toNat, by omega⟩
              obtain ⟨y, rfl⟩ : ∃ y' : Nat, y = y' := ⟨y.toNat, by omega⟩
              have hg : g < 3 := by omega
              obtain ⟨D, u, u1, u2, u3, u4, u5, u6⟩ := CV_ready (w := 2) (by omega) M h7 hg c
              have u1 : gm_19 (71 + 48 * g) 2 s = some u := u1
              have kc : KC s u := KG_KC (ga_of hg) u3
              rw [vg_ g hg, u1, Option.bind_some, sp_76 (ga_of hg).2.2.2.1 (show y < 9 by omega), Option.bind_some]
              dsimp only
              have hm := d_q (a := Int32.ofInt (sg (fun x => u.1 (71 + 48 * g + 3 + 8) (9 * x + y)) 8)) (i_nz (show 0 < NC f R C 1 (y : Int) by omega) (by omega))
              generalize FP.ddiv (FP.i2d (Int32.ofInt (sg (fun x => u.1 (71 + 48 * g + 3 + 8) (9 * x + y)) 8))) (FP.i2d (Int32.ofInt (NC f R C 1 (y : Int)))) = v at hm ⊢
              have hf := hm.fin (by decide)
              have hn := hf.noNaN
              rw [if_pos (d6 hn)]
              by_cases z0 : z = 0
              · obtain ⟨q, e⟩ := sp_0 u hn
                rw [if_pos z0, e, Option.bind_some]
                exact ⟨_, u, rfl, kc, u2⟩
              · rw [if_neg z0]
                by_cases z1 : z = 1
                · obtain ⟨q, e⟩ := sp_1 u (Jvm.Free.Fl.d2f_out hn)
                  rw [if_pos z1, if_pos (d3 (Jvm.Free.Fl.d2f_out hn)), e, Option.bind_some]
                  exact ⟨_, u, rfl, kc, u2⟩
                · rw [if_neg z1]
                  by_cases z2 : z = 2
                  · have hs := Jvm.Free.Fl.dsub_out hn (Jvm.Free.Fl.l2d_fin (Int64.ofInt ((FP.d2l v).toInt)))
                    obtain ⟨q, e⟩ := sp_0 u hs
                    rw [if_pos z2, if_pos (d6 hs), e, Option.bind_some]
                    exact ⟨_, u, rfl, kc, u2⟩
                  · rw [if_neg z2, if_pos (d6 (Jvm.Free.Fl.ddiv_out hn d_half.1 d_half.2))]
                    exact ⟨_, u, rfl, kc, u2⟩
          · rw [if_neg z3]
            exact ⟨_, s, rfl, KC_rf s, c⟩
      · rw [if_pos ((gbD s).mpr h7)]
        exact ⟨_, s, rfl, KC_rf s, c⟩
    · rw [if_pos ((gbD s).mpr b)]
      exact ⟨_, s, rfl, KC_rf s, c⟩
  · rw [if_pos ((gbD s).mpr a)]
    exact ⟨_, s, rfl, KC_rf s, c⟩
theorem inv_denseW {s : gx_S} (h : INV s) {x y z : Int} (hx : i32 x) (hy : i32 y) (hz : i32 z) : twW s (gm_108 x y z) (gm_203 x y z) := by
  obtain ⟨f, R, C, n, pf, L, tb, c, r, v⟩ := id h
  obtain ⟨a, u, h1, kc, cu⟩ := cls_dense c v.1 hx hy hz
  have ru := RV_KC kc r
  have eu : u.1 216 = f := ru.1
  obtain ⟨b, w, h2, kw⟩ := ref_dense (s := u) (R := R) (C := C) (by rw [eu]; exact v.1) ru.2.2.2.2 hx hy hz
  exact ⟨a, b, u, w, h1, h2, q_inv kc cu r v kw⟩
end
section
/-! NORMAL DOUBLES by their bits (e: the exponent as it is stored, T: the tail): halved, doubled, compared -/
def NB (x : UInt64) (e T : Nat) : Prop := x.toNat = e * 4503599627370496 + T ∧ 1 ≤ e ∧ e ≤ 2046 ∧ T < 4503599627370496
theorem NB_ex {e T : Nat} (h1 : 1 ≤ e) (h2 : e ≤ 2046) (hT : T < 4503599627370496) : ∃ y : UInt64, NB y e T := ⟨UInt64.ofNat (e * 4503599627370496 + T), UInt64.toNat_ofNat_of_lt' (by show _ < 18446744073709551616; omega), h1, h2, hT⟩
theorem NB_v {x : UInt64} {e T : Nat} (h : NB x e T) : Jvm.FP.Core.val64 x = .fin false (4503599627370496 + T) ((e : Int) - 1075) := by
  obtain ⟨h0, h1, h2, hT⟩ := h
  have k := Jvm.FP.Core.decode_assemble Jvm.FP.Core.b64 false e T (show e < 2048 by omega) (show T < 4503599627370496 from hT)
  have ea : Jvm.FP.Core.assemble Jvm.FP.Core.b64 false e T = x.toNat := by
    rw [h0]
    show (0 * 2048 + e) * 4503599627370496 + T = _
    rw [Nat.zero_mul, Nat.zero_add]
  have n1 : ¬ e = Jvm.FP.Core.b64.exps - 1 := by
    show ¬ e = 2048 - 1
    omega
  rw [ea, if_neg n1, if_neg (show ¬ e = 0 by omega)] at k
  show Jvm.FP.Core.decode Jvm.FP.Core.b64 x.toNat = _
  rw [k]
  show Jvm.FP.Core.Datum.fin false (4503599627370496 + T) (-1074 + ((e : Int) - 1)) = _
  rw [show (-1074 + ((e : Int) - 1)) = (e : Int) - 1075 by omega]
theorem NB_nn {x : UInt64} {e T : Nat} (h : NB x e T) : Jvm.FP.Core.val64 x ≠ .nan := by
  rw [NB_v h]
  exact Jvm.FP.Core.Datum.noConfusion
theorem NB_no {x : UInt64} {e T : Nat} (h : NB x e T) : Jvm.Free.Fl.NoNaN64 x := by
  obtain ⟨h0, h1, h2, hT⟩ := h
  rw [Jvm.Free.Fl.noNaN64_iff]
  omega
theorem v_two : Jvm.FP.Core.val64 4611686018427387904 = .fin false 4503599627370496 (-51) := by decide +kernel
theorem v_one : Jvm.FP.Core.val64 FP.dconst1 = .fin false 4503599627370496 (-52) := by decide +kernel
theorem NB_half {x : UInt64} {e T : Nat} (h : NB x e T) (h2 : 2 ≤ e) : NB (FP.ddiv x 4611686018427387904) (e - 1) T := by
  obtain ⟨h0, h1, h3, hT⟩ := id h
  obtain ⟨y, hy⟩ := NB_ex (e := e - 1) (T := T) (by omega) (by omega) hT
  have e2 := NB_v hy
  have f := Jvm.FP.Core.val64_fits y
  rw [e2] at f
  have k : Jvm.FP.Core.val64 (Jvm.FP.Core.ddiv x 4611686018427387904) = Jvm.FP.Core.val64 y := by
    rw [Jvm.FP.Core.val64_ddiv, NB_v h, v_two, e2]
    show (if (4503599627370496 : Nat) = 0 then (if 4503599627370496 + T = 0 then Jvm.FP.Core.Datum.nan else .inf (false != false)) else Jvm.FP.Core.roundRatio Jvm.FP.Core.b64 (false != false) (4503599627370496 + T) 4503599627370496 ((e : Int) - 1075 - -51)) = _
    rw [if_neg (by decide)]
    refine Jvm.FP.Core.roundRatio_exact Jvm.FP.Core.good_b64 (by decide) f ?_
    rw [show ((e : Int) - 1075 - -51 - (((e - 1 : Nat) : Int) - 1075)).toNat = 52 by omega, show ((((e - 1 : Nat) : Int) - 1075) - ((e : Int) - 1075 - -51)).toNat = 0 by omega]
    omega
  have q : FP.ddiv x 4611686018427387904 = y := Jvm.FP.Core.val64_inj (by rw [k]; exact NB_nn hy) k
  rw [q]
  exact hy
theorem NB_dbl {x : UInt64} {e T : Nat} (h : NB x e T) (h2 : e ≤ 2045) : NB (FP.dmul x 4611686018427387904) (e + 1) T := by
  obtain ⟨h0, h1, h3, hT⟩ := id h
  obtain ⟨y, hy⟩ := NB_ex (e := e + 1) (T := T) (by omega) (by omega) hT
  have e2 := NB_v hy
  have f := Jvm.FP.Core.val64_fits y
  rw [e2] at f
  have k : Jvm.FP.Core.val64 (Jvm.FP.Core.dmul x 4611686018427387904) = Jvm.FP.Core.val64 y := by
    rw [Jvm.FP.Core.val64_dmul, NB_v h, v_two, e2]
    show Jvm.FP.Core.roundRatio Jvm.FP.Core.b64 (false != false) ((4503599627370496 + T) * 4503599627370496) 1 ((e : Int) - 1075 + -51) = _
    refine Jvm.FP.Core.roundRatio_exact Jvm.FP.Core.good_b64 (by decide) f ?_
    rw [show ((e : Int) - 1075 + -51 - (((e + 1 : Nat) : Int) - 1075)).toNat = 0 by omega, show ((((e + 1 : Nat) : Int) - 1075) - ((e : Int) - 1075 + -51)).toNat = 52 by omega]
    omega
  have q : FP.dmul x 4611686018427387904 = y := Jvm.FP.Core.val64_inj (by rw [k]; exact NB_nn hy) k
  rw [q]
  exact hy
theorem cv_ (a b : Int) (op : CmpOp) : (Op.cmpValue (some (compare a b)) op).toInt = if a < b then -1 else if a = b then 0 else 1 := by
  by_cases h1 : a < b
  · rw [if_pos h1, Int.compare_eq_lt.mpr h1]
    rfl
  · by_cases h2 : a = b
    · rw [if_neg h1, if_pos h2, Int.compare_eq_eq.mpr h2]
      rfl
    · rw [if_neg h1, if_neg h2, Int.compare_eq_gt.mpr (by omega)]
      rfl
theorem NB_key {x : UInt64} {e T : Nat} (h : NB x e T) : Jvm.FP.Core.dkey x = ((e * 4503599627370496 + T : Nat) : Int) := by
  obtain ⟨h0, h1, h2, hT⟩ := h
  unfold Jvm.FP.Core.dkey
  rw [if_neg (by show ¬ 9223372036854775808 ≤ x.toNat; omega), h0]
theorem NB_c2 {x : UInt64} {e T : Nat} (h : NB x e T) (op : CmpOp) : ((Op.cmpValue (FP.dcmp x 4611686018427387904) op).toInt < 0 ↔ e < 1024) := by
  obtain ⟨h0, h1, h2, hT⟩ := id h
  have k : FP.dcmp x 4611686018427387904 = _ := Jvm.FP.Core.dcmp_key (NB_nn h) (by rw [v_two]; exact Jvm.FP.Core.Datum.noConfusion)
  have k2 : Jvm.FP.Core.dkey 4611686018427387904 = 4611686018427387904 := by decide +kernel
  rw [k, NB_key h, k2, cv_]
  split
  · omega
  · split <;> omega
theorem NB_c1 {x : UInt64} {e T : Nat} (h : NB x e T) (op : CmpOp) : (0 ≤ (Op.cmpValue (FP.dcmp x FP.dconst1) op).toInt ↔ 1023 ≤ e) := by
  obtain ⟨h0, h1, h2, hT⟩ := id h
  have k : FP.dcmp x FP.dconst1 = _ := Jvm.FP.Core.dcmp_key (NB_nn h) (by rw [v_one]; exact Jvm.FP.Core.Datum.noConfusion)
  have k2 : Jvm.FP.Core.dkey FP.dconst1 = 4607182418800017408 := by decide +kernel
  rw [k, NB_key h, k2, cv_]
  split
  · omega
  · split <;> omega
end
section
/-! NORMAL DOUBLES: what Bits.of makes of one -/
theorem pw_ {A B a b : Nat} (h : A * 2 ^ a = B * 2 ^ b) : A * 2 ^ ((a : Int) - b).toNat = B * 2 ^ ((b : Int) - a).toNat := by
  by_cases q : a ≤ b
  · have e : b = a + (b - a) := by omega
    rw [e, Nat.pow_add, ← Nat.mul_assoc, Nat.mul_right_comm B] at h
    have h2 := Nat.eq_of_mul_eq_mul_right (Nat.two_pow_pos a) h
    rw [show ((a : Int) - b).toNat = 0 by omega, show ((b : Int) - a).toNat = b - a by omega, h2, Nat.pow_zero, Nat.mul_one]
  · have e : a = b + (a - b) := by omega
    rw [e, Nat.pow_add, ← Nat.mul_assoc, Nat.mul_right_comm A] at h
    have h2 := Nat.eq_of_mul_eq_mul_right (Nat.two_pow_pos b) h
    rw [show ((b : Int) - a).toNat = 0 by omega, show ((a : Int) - b).toNat = a - b by omega, h2, Nat.pow_zero, Nat.mul_one]
/-- the tail of a number from 1 up to 2, m digits of it -/
theorem fr_ {x P : UInt64} {T T' m : Nat} (h : NB x 1023 T) (hm : m ≤ 52) (hT : T = T' * 2 ^ (52 - m)) (hP : Jvm.FP.Core.val64 P = .fin false 4503599627370496 ((m : Int) - 52)) : FP.d2l (FP.dmul (FP.dsub x FP.dconst1) P) = Int64.ofInt T' := by
  obtain ⟨h0, h1, h2, h3⟩ := id h
  have t1 : T' ≤ T := by
    rw [hT]
    exact Nat.le_mul_of_pos_right _ (Nat.two_pow_pos _)
  have es : Jvm.FP.Core.val64 (Jvm.FP.Core.dsub x FP.dconst1) = Jvm.FP.Core.round Jvm.FP.Core.b64 (.fin false T (-52)) := by
    rw [Jvm.FP.Core.val64_dsub, NB_v h, v_one]
    show Jvm.FP.Core.round Jvm.FP.Core.b64 (.fin (Jvm.FP.Core.sumSign false true (Jvm.FP.Core.sumUnits false (4503599627370496 + T) (((1023 : Nat) : Int) - 1075) true 4503599627370496 (-52) (min (((1023 : Nat) : Int) - 1075) (-52)))) (Jvm.FP.Core.sumUnits false (4503599627370496 + T) (((1023 : Nat) : Int) - 1075) true 4503599627370496 (-52) (min (((1023 : Nat) : Int) - 1075) (-52))).natAbs (min (((1023 : Nat) : Int) - 1075) (-52))) = _
    have e1 : min (((1023 : Nat) : Int) - 1075) (-52) = -52 := by decide
    have e2 : Jvm.FP.Core.sumUnits false (4503599627370496 + T) (((1023 : Nat) : Int) - 1075) true 4503599627370496 (-52) (-52) = (T : Int) := by
      show ((((4503599627370496 + T) * 2 ^ 0 : Nat) : Int)) + -(((4503599627370496 * 2 ^ 0 : Nat) : Int)) = T
      omega
    rw [e1, e2]
    have e3 : Jvm.FP.Core.sumSign false true (T : Int) = false := by
      unfold Jvm.FP.Core.sumSign
      by_cases z : (T : Int) = 0
      · rw [if_pos z]
        rfl
      · rw [if_neg z]
        exact decide_eq_false (by omega)
    rw [e3]
    rfl
  obtain ⟨c', q', k1, k2⟩ := Jvm.FP.Core.round_exact Jvm.FP.Core.good_b64 false (c := T) (q := -52) (show T < 9007199254740992 by omega) (by decide) (by decide)
  have fx := Jvm.FP.Core.val64_fits (Jvm.FP.Core.dsub x FP.dconst1)
  rw [es, k1] at fx
  have q1 : -1074 ≤ q' := fx.2.1
  have k3 : c' * 2 ^ (q' + 1074).toNat = T * 2 ^ 1022 := by
    have k4 : c' * 2 ^ (q' - -1074).toNat = T * 2 ^ ((-52 : Int) - -1074).toNat := k2
    rw [show q' - -1074 = q' + 1074 by omega] at k4
    exact k4
  have w : Jvm.FP.Core.DInt T' (Jvm.FP.Core.dmul (Jvm.FP.Core.dsub x FP.dconst1) P) := by
    unfold Jvm.FP.Core.DInt
    rw [Jvm.FP.Core.val64_dmul, es, k1, hP]
    refine Jvm.FP.Core.whole_round Jvm.FP.Core.good_b64 Jvm.FP.Core.wide_b64 (show (T' : Int).natAbs ≤ 9007199254740992 by omega) ?_
    show Jvm.FP.Core.signed (false != false) (c' * 4503599627370496 * 2 ^ (q' + ((m : Int) - 52)).toNat) = (T' : Int) * ((2 ^ (-(q' + ((m : Int) - 52))).toNat : Nat) : Int)
    have k5 : (c' * 4503599627370496) * 2 ^ (q' + 1074).toNat = T' * 2 ^ (1126 - m) := by
      rw [Nat.mul_right_comm, k3, hT, show (4503599627370496 : Nat) = 2 ^ 52 from rfl, Nat.mul_assoc, Nat.mul_assoc, ← Nat.pow_add, ← Nat.pow_add, show 52 - m + (1022 + 52) = 1126 - m by omega]
    have k6 := pw_ k5
    rw [show (((q' + 1074).toNat : Int) - ((1126 - m : Nat) : Int)) = q' + ((m : Int) - 52) by omega, show (((1126 - m : Nat) : Int) - ((q' + 1074).toNat : Int)) = -(q' + ((m : Int) - 52)) by omega] at k6
    show ((c' * 4503599627370496 * 2 ^ (q' + ((m : Int) - 52)).toNat : Nat) : Int) = _
    rw [k6]
    exact Int.natCast_mul _ _
  have ti : (Int64.ofInt (T' : Int)).toInt = T' := gal_ti (by omega)
  refine Jvm.FP.Core.d2l_int (a := Int64.ofInt (T' : Int)) ?_
  rw [ti]
  exact w
end
section
/-! Bits.of: its loops over a normal double; over 0 -/
theorem sp_2_64n {x2 x3 x6 : Int} {x : UInt64} {T T' m : Nat} (s : gx_S) (h : NB x 1023 T) (hm : m ≤ 52) (hT : T = T' * 2 ^ (52 - m)) (hx : -2147483648 ≤ x6 + x2 ∧ x6 + x2 ≤ 2147483647) (hP : Jvm.FP.Core.val64 (FP.l2d (Int64.ofInt (((Int64.ofInt 1 <<< ((Int32.ofInt x3).toInt64 &&& 63))).toInt))) = .fin false 4503599627370496 ((m : Int) - 52)) (hz : ¬ Int64.ofInt (((Int64.ofInt 1 <<< ((Int32.ofInt x3).toInt64 &&& 63))).toInt) = 0) : gm_2_64 x2 x3 x x6 s = some (((Int64.ofInt (x6 + x2) <<< ((Int32.ofInt x3).toInt64 &&& 63))).toInt + T', s) := by
  obtain ⟨h0, h1, h2, h3⟩ := id h
  have t1 : T' ≤ T := by
    rw [hT]
    exact Nat.le_mul_of_pos_right _ (Nat.two_pow_pos _)
  have h4 := NB_no h
  have hf := Jvm.Free.Fl.l2d_fin (Int64.ofInt (((Int64.ofInt 1 <<< ((Int32.ofInt x3).toInt64 &&& 63))).toInt))
  have hn := Jvm.Free.Fl.l2d_nz hz
  unfold gm_2_64
  rw [if_pos ((NB_c1 h .g).mpr (by omega)), if_pos hx, if_pos (d6 (Jvm.Free.Fl.dsub_out h4 d_one.1)), if_pos (d6 (Jvm.Free.Fl.dmul_outNz (Jvm.Free.Fl.dsub_out h4 d_one.1) hf hn)), fr_ h hm hT hP, gal_ti (by omega)]
theorem sl_2_35n {x2 x3 : Int} {T T' m e0 : Nat} (s : gx_S) (h2 : 1 ≤ x2 ∧ x2 ≤ 2000) (hm : m ≤ 52) (hT : T = T' * 2 ^ (52 - m)) (hP : Jvm.FP.Core.val64 (FP.l2d (Int64.ofInt (((Int64.ofInt 1 <<< ((Int32.ofInt x3).toInt64 &&& 63))).toInt))) = .fin false 4503599627370496 ((m : Int) - 52)) (hz : ¬ Int64.ofInt (((Int64.ofInt 1 <<< ((Int32.ofInt x3).toInt64 &&& 63))).toInt) = 0) (b1 : 1023 - x2 < e0) (b2 : (e0 : Int) < x2 + 1024) : ∀ (n : Nat) (x : UInt64) (e : Nat), NB x e T → e ≤ 1023 → 1023 < n + e → gm_2_35 n x2 x3 x ((e0 : Int) - e) s = some (((Int64.ofInt ((e0 : Int) - 1023 + x2) <<< ((Int32.ofInt x3).toInt64 &&& 63))).toInt + T', s) := by
  intro n
  induction n with
  | zero => intro x e h h1 h3; omega
  | succ n ih =>
    intro x e h h1 h3
    rw [gm_2_35]
    by_cases q : e = 1023
    · subst q
      rw [if_pos ((NB_c1 h .g).mpr (by omega)), sp_2_64n s h hm hT (by omega) hP hz]
      rfl
    · have d := NB_dbl h (by omega)
      rw [if_neg (fun z => q (by have := (NB_c1 h .g).mp z; omega)), if_pos (by omega), if_pos (by omega), if_neg (by omega), if_pos (d6 (NB_no d)), show ((e0 : Int) - e + (-1)) = (e0 : Int) - ((e + 1 : Nat) : Int) by omega]
      exact ih _ (e + 1) d (by omega) (by omega)
theorem sl_2_6n {x2 x3 : Int} {T T' m e0 : Nat} (s : gx_S) (h2 : 1 ≤ x2 ∧ x2 ≤ 2000) (hm : m ≤ 52) (hT : T = T' * 2 ^ (52 - m)) (hP : Jvm.FP.Core.val64 (FP.l2d (Int64.ofInt (((Int64.ofInt 1 <<< ((Int32.ofInt x3).toInt64 &&& 63))).toInt))) = .fin false 4503599627370496 ((m : Int) - 52)) (hz : ¬ Int64.ofInt (((Int64.ofInt 1 <<< ((Int32.ofInt x3).toInt64 &&& 63))).toInt) = 0) (b1 : 1023 - x2 < e0) (b2 : (e0 : Int) < x2 + 1024) : ∀ (n : Nat) (x : UInt64) (e : Nat), NB x e T → e ≤ e0 → (e = e0 ∨ 1023 ≤ e) → e < n + 1023 → 0 < n → gm_2_6 n x2 x3 x ((e0 : Int) - e) s = some (((Int64.ofInt ((e0 : Int) - 1023 + x2) <<< ((Int32.ofInt x3).toInt64 &&& 63))).toInt + T', s) := by
  intro n
  induction n with
  | zero =>
    intro x e h h1 h3 h4 h5
    exact absurd h5 (Nat.lt_irrefl 0)
  | succ n ih =>
    intro x e h h1 h3 h4 h5
    rw [gm_2_6]
    by_cases q : e < 1024
    · rw [if_pos ((NB_c2 h .l).mpr q)]
      exact sl_2_35n s h2 hm hT hP hz b1 b2 100000 x e h (by omega) (by omega)
    · have d := NB_half h (by omega)
      rw [if_neg (fun z => q ((NB_c2 h .l).mp z)), if_pos (by omega), if_pos (by omega), if_neg (by omega), if_pos (d6 (NB_no d)), show ((e0 : Int) - e + 1) = (e0 : Int) - ((e - 1 : Nat) : Int) by omega]
      exact ih _ (e - 1) d (by omega) (by omega) (by omega) (by omega)
theorem sh_52 : ∀ e : Nat, e < 2047 → ((Int64.ofInt (e : Int) <<< ((Int32.ofInt 52).toInt64 &&& 63))).toInt = ((e * 4503599627370496 : Nat) : Int) := by decide +kernel
theorem sh_23 : ∀ e : Nat, e < 255 → ((Int64.ofInt (e : Int) <<< ((Int32.ofInt 23).toInt64 &&& 63))).toInt = ((e * 8388608 : Nat) : Int) := by decide +kernel
theorem sp_0n {x : UInt64} {e T : Nat} (s : gx_S) (h : NB x e T) : gm_0 x s = some ((x.toNat : Int), s) := by
  obtain ⟨h0, h1, h2, h3⟩ := id h
  have k := sl_2_6n (x2 := 1023) (x3 := 52) (T := T) (T' := T) (m := 52) (e0 := e) s (by decide) (by decide) (by simp) (by decide +kernel) (by decide +kernel) (by omega) (by omega) 100000 x e h (by omega) (.inl rfl) (by omega) (by decide)
  rw [Int.sub_self, show ((e : Int) - 1023 + 1023) = (e : Int) by omega, sh_52 e (by omega)] at k
  unfold gm_0 gm_2
  rw [k, Option.bind_some, h0]
  exact congrArg some (Prod.ext (by show ((e * 4503599627370496 : Nat) : Int) + (T : Int) = _; omega) rfl)
theorem sl_2_35z {x2 x3 : Int} (s : gx_S) (h2 : 1 ≤ x2 ∧ x2 ≤ 2000) (hP : FP.d2l (FP.dmul 0 (FP.l2d (Int64.ofInt (((Int64.ofInt 1 <<< ((Int32.ofInt x3).toInt64 &&& 63))).toInt)))) = 0 ∧ id_n6 (FP.dmul 0 (FP.l2d (Int64.ofInt (((Int64.ofInt 1 <<< ((Int32.ofInt x3).toInt64 &&& 63))).toInt)))) = true) : ∀ (n : Nat) (x6 : Int), x6 ≤ 0 → 1 - x2 ≤ x6 → x6 + x2 < n → gm_2_35 n x2 x3 0 x6 s = some (0, s) := by
  have c1 : ¬ 0 ≤ (Op.cmpValue (FP.dcmp 0 FP.dconst1) .g).toInt := by decide +kernel
  have c2 : FP.dmul 0 4611686018427387904 = 0 := by decide +kernel
  intro n
  induction n with
  | zero => intro x6 _ _ h; omega
  | succ n ih =>
    intro x6 a b h
    rw [gm_2_35, if_neg c1, if_pos (by omega), if_pos (by omega)]
    by_cases q : x6 ≤ 1 - x2
    · rw [if_pos q]
      unfold gm_2_64
      rw [if_neg c1, if_pos hP.2, hP.1]
      rfl
    · rw [if_neg q, c2, if_pos (by decide)]
      exact ih (x6 + (-1)) (by omega) (by omega) (by omega)
theorem sp_2z {x2 x3 : Int} (s : gx_S) (h2 : 1 ≤ x2 ∧ x2 ≤ 2000) (hP : FP.d2l (FP.dmul 0 (FP.l2d (Int64.ofInt (((Int64.ofInt 1 <<< ((Int32.ofInt x3).toInt64 &&& 63))).toInt)))) = 0 ∧ id_n6 (FP.dmul 0 (FP.l2d (Int64.ofInt (((Int64.ofInt 1 <<< ((Int32.ofInt x3).toInt64 &&& 63))).toInt)))) = true) : gm_2 0 x2 x3 s = some (0, s) := by
  unfold gm_2
  rw [show (100000 : Nat) = 99999 + 1 from rfl, gm_2_6, if_pos (by decide +kernel)]
  exact sl_2_35z s h2 hP 100000 0 (by omega) (by omega) (by omega)
theorem sp_0z (s : gx_S) : gm_0 0 s = some (0, s) := by
  unfold gm_0
  rw [sp_2z s (by decide) (by decide +kernel), Option.bind_some]
end
section
/-! THE DENSITY: zero, or a normal double from 1/128 to 2^17 -/
theorem wh_ {A : Nat} {d : Jvm.FP.Core.Datum} (hA : 0 < A) (h : Jvm.FP.Core.Whole (A : Int) d) : ∃ (c : Nat) (q : Int), d = .fin false c q ∧ c * 2 ^ q.toNat = A * 2 ^ (-q).toNat ∧ 0 < c := by
  match d, h with
  | .nan, h => exact absurd h id
  | .inf _, h => exact absurd h id
  | .fin s c q, h =>
    have h : Jvm.FP.Core.signed s (c * 2 ^ q.toNat) = (A : Int) * ((2 ^ (-q).toNat : Nat) : Int) := h
    have p := Nat.two_pow_pos (-q).toNat
    have m : 0 < A * 2 ^ (-q).toNat := Nat.mul_pos hA p
    rw [← Int.natCast_mul] at h
    have hs : s = false := by
      cases s with
      | false => rfl
      | true =>
        have h : -((c * 2 ^ q.toNat : Nat) : Int) = ((A * 2 ^ (-q).toNat : Nat) : Int) := h
        omega
    subst hs
    have h : ((c * 2 ^ q.toNat : Nat) : Int) = ((A * 2 ^ (-q).toNat : Nat) : Int) := h
    have h2 : c * 2 ^ q.toNat = A * 2 ^ (-q).toNat := by omega
    refine ⟨c, q, rfl, h2, Nat.pos_of_ne_zero fun z => ?_⟩
    rw [z, Nat.zero_mul] at h2
    omega
theorem v_q {A B : Nat} (hA : 0 < A) (hA2 : A ≤ 1000000) (hB : 0 < B) (hB2 : B ≤ 1000000) : Jvm.FP.Core.val64 (FP.ddiv (FP.i2d (Int32.ofInt A)) (FP.i2d (Int32.ofInt B))) = Jvm.FP.Core.roundRatio Jvm.FP.Core.b64 false A B 0 := by
  have a := Jvm.FP.Core.i2d_int (Int32.ofInt A)
  have b := Jvm.FP.Core.i2d_int (Int32.ofInt B)
  rw [ga_ti (by omega)] at a b
  obtain ⟨c, q, e1, e2, e3⟩ := wh_ hA a
  obtain ⟨d, r, f1, f2, f3⟩ := wh_ hB b
  show Jvm.FP.Core.val64 (Jvm.FP.Core.ddiv (Jvm.FP.Core.i2d (Int32.ofInt A)) (Jvm.FP.Core.i2d (Int32.ofInt B))) = _
  rw [Jvm.FP.Core.val64_ddiv, e1, f1]
  show (if d = 0 then (if c = 0 then Jvm.FP.Core.Datum.nan else .inf (false != false)) else Jvm.FP.Core.roundRatio Jvm.FP.Core.b64 (false != false) c d (q - r)) = _
  rw [if_neg (by omega)]
  refine Jvm.FP.Core.roundRatio_congr f3 hB ?_
  have k : (c * B) * 2 ^ (q.toNat + (-r).toNat) = (A * d) * 2 ^ ((-q).toNat + r.toNat) := by
    rw [Nat.pow_add, Nat.pow_add]
    have x1 : c * B * (2 ^ q.toNat * 2 ^ (-r).toNat) = (c * 2 ^ q.toNat) * (B * 2 ^ (-r).toNat) := by ac_rfl
    have x2 : A * d * (2 ^ (-q).toNat * 2 ^ r.toNat) = (A * 2 ^ (-q).toNat) * (d * 2 ^ r.toNat) := by ac_rfl
    rw [x1, x2, e2, f2]
  have k2 := pw_ k
  rw [show (((q.toNat + (-r).toNat : Nat) : Int) - (((-q).toNat + r.toNat : Nat) : Int)) = q - r - 0 by omega, show ((((-q).toNat + r.toNat : Nat) : Int) - ((q.toNat + (-r).toNat : Nat) : Int)) = 0 - (q - r) by omega] at k2
  exact k2
theorem v_n {A B : Nat} (hA : 0 < A) (hA2 : A ≤ 89991) (hB : 0 < B) (hB2 : B ≤ 96) : ∃ e T : Nat, NB (FP.ddiv (FP.i2d (Int32.ofInt A)) (FP.i2d (Int32.ofInt B))) e T ∧ 1016 ≤ e ∧ e ≤ 1040 ∧ (e = 1040 → T = 0) := by
  have v := v_q hA (by omega) hB (by omega)
  generalize FP.ddiv (FP.i2d (Int32.ofInt A)) (FP.i2d (Int32.ofInt B)) = x at v ⊢
  have nn : Jvm.FP.Core.val64 x ≠ .nan := by
    rw [v]
    exact Jvm.FP.Core.roundRatio_ne_nan _ _ _ _ _
  have sg_ := Jvm.FP.Core.sgn_bits nn
  rw [v, Jvm.FP.Core.sgn_roundRatio] at sg_
  have hx : x.toNat < 9223372036854775808 := by
    have := of_decide_eq_false sg_.symm
    have : ¬ 9223372036854775808 ≤ x.toNat := this
    omega
  have zx := Jvm.FP.Core.zmag_bits nn
  have mx : x.toNat % 2 ^ 63 = x.toNat := Nat.mod_eq_of_lt hx
  rw [mx, v] at zx
  have l1 : Jvm.FP.Core.val64 4575657221408423936 = .fin false 4503599627370496 (-59) := by decide +kernel
  have l2 : Jvm.FP.Core.val64 4683743612465315840 = .fin false 4503599627370496 (-35) := by decide +kernel
  have f1 := Jvm.FP.Core.val64_fits 4575657221408423936
  have f2 := Jvm.FP.Core.val64_fits 4683743612465315840
  have z1 := Jvm.FP.Core.zmag_bits (a := 4575657221408423936) (by rw [l1]; exact Jvm.FP.Core.Datum.noConfusion)
  have z2 := Jvm.FP.Core.zmag_bits (a := 4683743612465315840) (by rw [l2]; exact Jvm.FP.Core.Datum.noConfusion)
  have m1 : Jvm.FP.Core.zmag Jvm.FP.Core.b64 (Jvm.FP.Core.val64 4575657221408423936) = 4503599627370496 * 2 ^ 1015 := by
    rw [l1]
    show Jvm.FP.Core.inUnits 4503599627370496 (-59) Jvm.FP.Core.b64.qmin = _
    unfold Jvm.FP.Core.inUnits
    rw [show ((-59 : Int) - Jvm.FP.Core.b64.qmin).toNat = 1015 from by decide]
  have m2 : Jvm.FP.Core.zmag Jvm.FP.Core.b64 (Jvm.FP.Core.val64 4683743612465315840) = 4503599627370496 * 2 ^ 1039 := by
    rw [l2]
    show Jvm.FP.Core.inUnits 4503599627370496 (-35) Jvm.FP.Core.b64.qmin = _
    unfold Jvm.FP.Core.inUnits
    rw [show ((-35 : Int) - Jvm.FP.Core.b64.qmin).toNat = 1039 from by decide]
  have q0 : (Jvm.FP.Core.b64.qmin - -1074).toNat = 0 := by decide
  have i0 : Jvm.FP.Core.inUnits A 0 (-1074) = A * 2 ^ 1074 := rfl
  have ge := Jvm.FP.Core.zmag_roundRatio_ge (s := false) (A := A) (e := 0) (e0 := -1074) Jvm.FP.Core.good_b64 hB f1 (by decide) (by decide) (by
    rw [m1, i0, q0, Nat.pow_zero, Nat.mul_one, show (1074 : Nat) = 1015 + 59 from rfl, Nat.pow_add, Nat.mul_right_comm, ← Nat.mul_assoc, Nat.mul_right_comm A]
    exact Nat.mul_le_mul_right _ (by omega))
  have le := Jvm.FP.Core.zmag_roundRatio_le (s := false) (A := A) (e := 0) (e0 := -1074) Jvm.FP.Core.good_b64 hB f2 (by rw [l2]; exact Jvm.FP.Core.Datum.noConfusion) (by decide) (by decide) (by
    rw [m2, i0, q0, Nat.pow_zero, Nat.mul_one, show (1074 : Nat) = 1039 + 35 from rfl, Nat.pow_add, Nat.mul_right_comm 4503599627370496, ← Nat.mul_assoc, Nat.mul_right_comm A]
    exact Nat.mul_le_mul_right _ (by omega))
  rw [z1, zx] at ge
  rw [z2, zx] at le
  have ge := Jvm.FP.Core.unitsOf_le_iff.mp ge
  have le := Jvm.FP.Core.unitsOf_le_iff.mp le
  have g1 : (4575657221408423936 : UInt64).toNat % 2 ^ 63 = 4575657221408423936 := by decide +kernel
  have g2 : (4683743612465315840 : UInt64).toNat % 2 ^ 63 = 4683743612465315840 := by decide +kernel
  rw [g1] at ge
  rw [g2] at le
  exact ⟨x.toNat / 4503599627370496, x.toNat % 4503599627370496, ⟨by omega, by omega, by omega, by omega⟩, by omega, by omega, by omega⟩
theorem v_z {B : Nat} (hB : 0 < B) (hB2 : B ≤ 96) : FP.ddiv (FP.i2d (Int32.ofInt ((0 : Nat) : Int))) (FP.i2d (Int32.ofInt B)) = 0 := by
  have b := Jvm.FP.Core.i2d_int (Int32.ofInt B)
  rw [ga_ti (by omega)] at b
  obtain ⟨d, r, f1, f2, f3⟩ := wh_ hB b
  have z : FP.i2d (Int32.ofInt ((0 : Nat) : Int)) = 0 := by decide +kernel
  have v0 : Jvm.FP.Core.val64 0 = .fin false 0 (-1074) := by decide +kernel
  rw [z]
  refine Jvm.FP.Core.val64_inj ?_ ?_
  · show Jvm.FP.Core.val64 (Jvm.FP.Core.ddiv 0 (Jvm.FP.Core.i2d (Int32.ofInt B))) ≠ .nan
    rw [Jvm.FP.Core.val64_ddiv, v0, f1]
    show (if d = 0 then (if 0 = 0 then Jvm.FP.Core.Datum.nan else .inf (false != false)) else Jvm.FP.Core.roundRatio Jvm.FP.Core.b64 (false != false) 0 d (-1074 - r)) ≠ _
    rw [if_neg (by omega)]
    exact Jvm.FP.Core.roundRatio_ne_nan _ _ _ _ _
  · show Jvm.FP.Core.val64 (Jvm.FP.Core.ddiv 0 (Jvm.FP.Core.i2d (Int32.ofInt B))) = _
    rw [Jvm.FP.Core.val64_ddiv, v0, f1]
    show (if d = 0 then (if 0 = 0 then Jvm.FP.Core.Datum.nan else .inf (false != false)) else Jvm.FP.Core.roundRatio Jvm.FP.Core.b64 (false != false) 0 d (-1074 - r)) = _
    rw [if_neg (by omega)]
    rfl
end
section
/-! NORMAL FLOATS: the density as a float, its bits -/
def NF (w : UInt32) (e T : Nat) : Prop := w.toNat = e * 8388608 + T ∧ 1 ≤ e ∧ e ≤ 254 ∧ T < 8388608
theorem NF_v {w : UInt32} {e T : Nat} (h : NF w e T) : Jvm.FP.Core.val32 w = .fin false (8388608 + T) ((e : Int) - 150) := by
  obtain ⟨h0, h1, h2, hT⟩ := h
  have k := Jvm.FP.Core.decode_assemble Jvm.FP.Core.b32 false e T (show e < 256 by omega) (show T < 8388608 from hT)
  have ea : Jvm.FP.Core.assemble Jvm.FP.Core.b32 false e T = w.toNat := by
    rw [h0]
    show (0 * 256 + e) * 8388608 + T = _
    rw [Nat.zero_mul, Nat.zero_add]
  have n1 : ¬ e = Jvm.FP.Core.b32.exps - 1 := by
    show ¬ e = 256 - 1
    omega
  rw [ea, if_neg n1, if_neg (show ¬ e = 0 by omega)] at k
  show Jvm.FP.Core.decode Jvm.FP.Core.b32 w.toNat = _
  rw [k]
  show Jvm.FP.Core.Datum.fin false (8388608 + T) (-149 + ((e : Int) - 1)) = _
  rw [show (-149 + ((e : Int) - 1)) = (e : Int) - 150 by omega]
theorem NF_no {w : UInt32} {e T : Nat} (h : NF w e T) : Jvm.Free.Fl.NoNaN32 w := by
  obtain ⟨h0, h1, h2, hT⟩ := h
  rw [Jvm.Free.Fl.noNaN32_iff]
  omega
theorem NF_d {w : UInt32} {e T : Nat} (h : NF w e T) : NB (FP.f2d w) (e + 896) (T * 536870912) := by
  obtain ⟨h0, h1, h2, hT⟩ := id h
  obtain ⟨y, hy⟩ := NB_ex (e := e + 896) (T := T * 536870912) (by omega) (by omega) (by omega)
  have e2 := NB_v hy
  have f := Jvm.FP.Core.val64_fits y
  rw [e2] at f
  have no := Jvm.Free.Fl.noNaN32_no.mp (NF_no h)
  have c : FP.f2d w = Jvm.FP.Core.f2d w := by
    unfold FP.f2d
    rw [if_neg (by rw [no]; decide)]
  have k : Jvm.FP.Core.val64 (Jvm.FP.Core.f2d w) = Jvm.FP.Core.val64 y := by
    rw [Jvm.FP.Core.val64_f2d, NF_v h, e2]
    show Jvm.FP.Core.roundRatio Jvm.FP.Core.b64 false (8388608 + T) 1 ((e : Int) - 150) = _
    refine Jvm.FP.Core.roundRatio_exact Jvm.FP.Core.good_b64 (by decide) f ?_
    rw [show ((e : Int) - 150 - (((e + 896 : Nat) : Int) - 1075)).toNat = 29 by omega, show ((((e + 896 : Nat) : Int) - 1075) - ((e : Int) - 150)).toNat = 0 by omega]
    omega
  rw [c, Jvm.FP.Core.val64_inj (by rw [k]; exact NB_nn hy) k]
  exact hy
theorem sp_1n {w : UInt32} {e T : Nat} (s : gx_S) (h : NF w e T) : gm_1 w s = some ((w.toNat : Int), s) := by
  obtain ⟨h0, h1, h2, h3⟩ := id h
  have d := NF_d h
  have k := sl_2_6n (x2 := 127) (x3 := 23) (T := T * 536870912) (T' := T) (m := 23) (e0 := e + 896) s (by decide) (by decide) (by rfl) (by decide +kernel) (by decide +kernel) (by omega) (by omega) 100000 (FP.f2d w) (e + 896) d (by omega) (.inl rfl) (by omega) (by decide)
  rw [Int.sub_self, show (((e + 896 : Nat) : Int) - 1023 + 127) = (e : Int) by omega, sh_23 e (by omega)] at k
  unfold gm_1 gm_2
  rw [if_pos (d6 (NB_no d)), k, Option.bind_some, h0]
  exact congrArg some (Prod.ext (by show ((e * 8388608 : Nat) : Int) + (T : Int) = _; omega) rfl)
theorem sp_1z (s : gx_S) : gm_1 0 s = some (0, s) := by
  have z : FP.f2d 0 = 0 := by decide +kernel
  unfold gm_1
  rw [z, if_pos (by decide), sp_2z s (by decide) (by decide +kernel), Option.bind_some]
/-- a double from 1/128 to 2^17, as a float -/
theorem d2f_n {x : UInt64} {e T : Nat} (h : NB x e T) (h1 : 1016 ≤ e) (h2 : e ≤ 1040) (h3 : e = 1040 → T = 0) : ∃ e' T' : Nat, NF (FP.d2f x) e' T' := by
  obtain ⟨g0, g1, g2, g3⟩ := id h
  have no := Jvm.Free.Fl.noNaN64_no.mp (NB_no h)
  have c : FP.d2f x = Jvm.FP.Core.d2f x := by
    unfold FP.d2f
    rw [if_neg (by rw [no]; decide)]
  have v : Jvm.FP.Core.val32 (Jvm.FP.Core.d2f x) = Jvm.FP.Core.roundRatio Jvm.FP.Core.b32 false (4503599627370496 + T) 1 ((e : Int) - 1075) := by
    rw [Jvm.FP.Core.val32_d2f, NB_v h]
    rfl
  rw [c]
  generalize Jvm.FP.Core.d2f x = w at v ⊢
  have nn : Jvm.FP.Core.val32 w ≠ .nan := by
    rw [v]
    exact Jvm.FP.Core.roundRatio_ne_nan _ _ _ _ _
  have sg_ := Jvm.FP.Core.sgn_bits32 nn
  rw [v, Jvm.FP.Core.sgn_roundRatio] at sg_
  have hw : w.toNat < 2147483648 := by
    have := of_decide_eq_false sg_.symm
    have : ¬ 2147483648 ≤ w.toNat := this
    omega
  have zw := Jvm.FP.Core.zmag_bits32 nn
  have mw : w.toNat % 2 ^ 31 = w.toNat := Nat.mod_eq_of_lt hw
  rw [mw, v] at zw
  have l1 : Jvm.FP.Core.val32 1006632960 = .fin false 8388608 (-30) := by decide +kernel
  have l2 : Jvm.FP.Core.val32 1207959552 = .fin false 8388608 (-6) := by decide +kernel
  have f1 := Jvm.FP.Core.val32_fits 1006632960
  have f2 := Jvm.FP.Core.val32_fits 1207959552
  have z1 := Jvm.FP.Core.zmag_bits32 (a := 1006632960) (by rw [l1]; exact Jvm.FP.Core.Datum.noConfusion)
  have z2 := Jvm.FP.Core.zmag_bits32 (a := 1207959552) (by rw [l2]; exact Jvm.FP.Core.Datum.noConfusion)
  have m1 : Jvm.FP.Core.zmag Jvm.FP.Core.b32 (Jvm.FP.Core.val32 1006632960) = 8388608 * 2 ^ 119 := by
    rw [l1]
    show Jvm.FP.Core.inUnits 8388608 (-30) Jvm.FP.Core.b32.qmin = _
    unfold Jvm.FP.Core.inUnits
    rw [show ((-30 : Int) - Jvm.FP.Core.b32.qmin).toNat = 119 from by decide]
  have m2 : Jvm.FP.Core.zmag Jvm.FP.Core.b32 (Jvm.FP.Core.val32 1207959552) = 8388608 * 2 ^ 143 := by
    rw [l2]
    show Jvm.FP.Core.inUnits 8388608 (-6) Jvm.FP.Core.b32.qmin = _
    unfold Jvm.FP.Core.inUnits
    rw [show ((-6 : Int) - Jvm.FP.Core.b32.qmin).toNat = 143 from by decide]
  have q0 : (Jvm.FP.Core.b32.qmin - -149).toNat = 0 := by decide
  have i0 : Jvm.FP.Core.inUnits (4503599627370496 + T) ((e : Int) - 1075) (-149) = (4503599627370496 + T) * 2 ^ (e - 926) := by
    show (4503599627370496 + T) * 2 ^ ((e : Int) - 1075 - -149).toNat = _
    rw [show ((e : Int) - 1075 - -149).toNat = e - 926 by omega]
  have ge := Jvm.FP.Core.zmag_roundRatio_ge (s := false) (A := 4503599627370496 + T) (B := 1) (e := (e : Int) - 1075) (e0 := -149) Jvm.FP.Core.good_b32 (by decide) f1 (by decide) (by omega) (by
    rw [m1, i0, q0]
    have p : 2 ^ 90 ≤ 2 ^ (e - 926) := Nat.pow_le_pow_right (by decide) (by omega)
    have q := Nat.mul_le_mul (show 4503599627370496 ≤ 4503599627370496 + T by omega) p
    have r : 8388608 * 2 ^ 119 * 2 ^ 0 * 1 = 4503599627370496 * 2 ^ 90 := by decide
    rw [r]
    exact q)
  have le := Jvm.FP.Core.zmag_roundRatio_le (s := false) (A := 4503599627370496 + T) (B := 1) (e := (e : Int) - 1075) (e0 := -149) Jvm.FP.Core.good_b32 (by decide) f2 (by rw [l2]; exact Jvm.FP.Core.Datum.noConfusion) (by decide) (by omega) (by
    rw [m2, i0, q0]
    by_cases q : e = 1040
    · rw [q, h3 q]
      decide
    · have p : 2 ^ (e - 926) ≤ 2 ^ 113 := Nat.pow_le_pow_right (by decide) (by omega)
      have q := Nat.mul_le_mul (show 4503599627370496 + T ≤ 9007199254740992 by omega) p
      have r : 8388608 * 2 ^ 143 * 2 ^ 0 * 1 = 9007199254740992 * 2 ^ 113 := by decide
      rw [r]
      exact q)
  rw [z1, zw] at ge
  rw [z2, zw] at le
  have ge := Jvm.FP.Core.unitsOf_le_iff.mp ge
  have le := Jvm.FP.Core.unitsOf_le_iff.mp le
  have g1 : (1006632960 : UInt32).toNat % 2 ^ 31 = 1006632960 := by decide +kernel
  have g2 : (1207959552 : UInt32).toNat % 2 ^ 31 = 1207959552 := by decide +kernel
  rw [g1] at ge
  rw [g2] at le
  exact ⟨w.toNat / 8388608, w.toNat % 8388608, by omega, by omega, by omega, by omega⟩
end
section
/-! WHAT IS BEHIND THE POINT: the class takes the whole part away, the reference takes the remainder by 1 -/
theorem zm_ {x : UInt64} {e T : Nat} (h : NB x e T) : Jvm.FP.Core.zmag Jvm.FP.Core.b64 (Jvm.FP.Core.val64 x) = (4503599627370496 + T) * 2 ^ (e - 1) := by
  have h1 := h.2.1
  rw [NB_v h]
  show (4503599627370496 + T) * 2 ^ ((e : Int) - 1075 - -1074).toNat = _
  rw [show ((e : Int) - 1075 - -1074).toNat = e - 1 by omega]
/-- the whole part -/
theorem d2l_n {x : UInt64} {e T : Nat} (h : NB x e T) (h2 : e ≤ 1074) : (FP.d2l x).toInt = (((4503599627370496 + T) / 2 ^ (1075 - e) : Nat) : Int) := by
  obtain ⟨g0, g1, g2, g3⟩ := id h
  have k := Jvm.FP.Core.d2l_val (NB_nn h)
  have sx : Jvm.FP.Core.sgn (Jvm.FP.Core.val64 x) = false := by
    rw [NB_v h]
    rfl
  have dv : (4503599627370496 + T) * 2 ^ (e - 1) / Jvm.FP.Core.one64 = (4503599627370496 + T) / 2 ^ (1075 - e) := by
    unfold Jvm.FP.Core.one64
    rw [show (1074 : Nat) = (1075 - e) + (e - 1) by omega, Nat.pow_add, Nat.mul_div_mul_right _ _ (Nat.two_pow_pos _)]
  rw [sx, zm_ h, dv] at k
  have lt : (4503599627370496 + T) / 2 ^ (1075 - e) ≤ 4503599627370496 + T := Nat.div_le_self _ _
  generalize (4503599627370496 + T) / 2 ^ (1075 - e) = I at k lt ⊢
  have k : (FP.d2l x).toInt = max (-9223372036854775808) (min 9223372036854775807 (I : Int)) := k
  rw [k]
  omega
theorem fr_rem {x : UInt64} {e T : Nat} (h : NB x e T) (h2 : e ≤ 1074) : Jvm.FP.Core.val64 (FP.drem x FP.dconst1) = Jvm.FP.Core.roundRatio Jvm.FP.Core.b64 false ((4503599627370496 + T) % 2 ^ (1075 - e)) 1 ((e : Int) - 1075) := by
  show Jvm.FP.Core.val64 (Jvm.FP.Core.drem x FP.dconst1) = _
  rw [Jvm.FP.Core.val64_drem, NB_v h, v_one]
  show Jvm.FP.Core.round Jvm.FP.Core.b64 (if (4503599627370496 : Nat) = 0 then Jvm.FP.Core.Datum.nan else .fin false (Jvm.FP.Core.inUnits (4503599627370496 + T) ((e : Int) - 1075) (min ((e : Int) - 1075) (-52)) % Jvm.FP.Core.inUnits 4503599627370496 (-52) (min ((e : Int) - 1075) (-52))) (min ((e : Int) - 1075) (-52))) = _
  rw [if_neg (by decide)]
  show Jvm.FP.Core.roundRatio Jvm.FP.Core.b64 false (((4503599627370496 + T) * 2 ^ ((e : Int) - 1075 - min ((e : Int) - 1075) (-52)).toNat) % (4503599627370496 * 2 ^ (-52 - min ((e : Int) - 1075) (-52)).toNat)) 1 (min ((e : Int) - 1075) (-52)) = _
  refine Jvm.FP.Core.roundRatio_congr (by decide) (by decide) ?_
  rw [Nat.mul_one, Nat.mul_one]
  by_cases q : e ≤ 1023
  · have m : min ((e : Int) - 1075) (-52) = (e : Int) - 1075 := by omega
    rw [m, show ((e : Int) - 1075 - ((e : Int) - 1075)).toNat = 0 by omega, show (-52 - ((e : Int) - 1075)).toNat = 1023 - e by omega, Nat.pow_zero, Nat.mul_one, Nat.mul_one, Nat.mul_one, show (4503599627370496 : Nat) * 2 ^ (1023 - e) = 2 ^ (1075 - e) from by rw [show (4503599627370496 : Nat) = 2 ^ 52 from rfl, ← Nat.pow_add, show 52 + (1023 - e) = 1075 - e by omega]]
  · have m : min ((e : Int) - 1075) (-52) = -52 := by omega
    have p : (4503599627370496 : Nat) = 2 ^ (1075 - e) * 2 ^ (e - 1023) := by rw [← Nat.pow_add, show 1075 - e + (e - 1023) = 52 by omega]
    rw [m, show ((e : Int) - 1075 - -52).toNat = e - 1023 by omega, show (-52 - (-52 : Int)).toNat = 0 by decide, Nat.pow_zero, Nat.mul_one, show (-52 - ((e : Int) - 1075)).toNat = 0 by omega, Nat.pow_zero, Nat.mul_one]
    have r : (4503599627370496 + T) * 2 ^ (e - 1023) % 4503599627370496 = ((4503599627370496 + T) % 2 ^ (1075 - e)) * 2 ^ (e - 1023) := by
      conv => lhs; rhs; rw [p]
      exact Nat.mul_mod_mul_right _ _ _
    exact r
theorem fr_sub {x : UInt64} {e T : Nat} (h : NB x e T) (h1 : 1016 ≤ e) (h2 : e ≤ 1040) : Jvm.FP.Core.val64 (FP.dsub x (FP.l2d (Int64.ofInt (FP.d2l x).toInt))) = Jvm.FP.Core.roundRatio Jvm.FP.Core.b64 false ((4503599627370496 + T) % 2 ^ (1075 - e)) 1 ((e : Int) - 1075) := by
  obtain ⟨g0, g1, g2, g3⟩ := id h
  rw [d2l_n h (by omega)]
  have dm := Nat.div_add_mod (4503599627370496 + T) (2 ^ (1075 - e))
  have il : (4503599627370496 + T) / 2 ^ (1075 - e) ≤ 4503599627370496 + T := Nat.div_le_self _ _
  generalize (4503599627370496 + T) / 2 ^ (1075 - e) = I at dm il ⊢
  generalize (4503599627370496 + T) % 2 ^ (1075 - e) = F at dm ⊢
  have dw : ∃ (c1 : Nat) (q1 : Int), Jvm.FP.Core.val64 (FP.l2d (Int64.ofInt (I : Int))) = .fin false c1 q1 ∧ c1 * 2 ^ q1.toNat = I * 2 ^ (-q1).toNat := by
    by_cases z : I = 0
    · subst z
      exact ⟨0, -1074, by decide +kernel, by rw [Nat.zero_mul, Nat.zero_mul]⟩
    · have ti : (Int64.ofInt (I : Int)).toInt = I := gal_ti (by omega)
      have w := Jvm.FP.Core.l2d_int (a := Int64.ofInt (I : Int)) (by rw [ti]; show _ ≤ 9007199254740992; omega)
      rw [ti] at w
      obtain ⟨c, q, e1, e2, e3⟩ := wh_ (by omega) w
      exact ⟨c, q, e1, e2⟩
  obtain ⟨c1, q1, v1, w1⟩ := dw
  show Jvm.FP.Core.val64 (Jvm.FP.Core.dsub x (FP.l2d (Int64.ofInt (I : Int)))) = _
  rw [Jvm.FP.Core.val64_dsub, NB_v h, v1]
  obtain ⟨m, hm⟩ : ∃ m : Int, min ((e : Int) - 1075) q1 = m := ⟨_, rfl⟩
  have eS : Jvm.FP.Core.sumUnits false (4503599627370496 + T) ((e : Int) - 1075) true c1 q1 m = ((F * 2 ^ ((e : Int) - 1075 - m).toNat : Nat) : Int) := by
    show (((4503599627370496 + T) * 2 ^ ((e : Int) - 1075 - m).toNat : Nat) : Int) + -((c1 * 2 ^ (q1 - m).toNat : Nat) : Int) = _
    have k1 : c1 * 2 ^ (q1 - m).toNat = I * 2 ^ (-m).toNat := by
      have k := pw_ (A := c1) (B := I) (a := q1.toNat + (-m).toNat) (b := (-q1).toNat + (-m).toNat) (by rw [Nat.pow_add, Nat.pow_add, ← Nat.mul_assoc, ← Nat.mul_assoc, w1])
      have t : c1 * 2 ^ (q1 - m).toNat * 2 ^ q1.toNat = I * 2 ^ (-m).toNat * 2 ^ q1.toNat := by
        have a1 : c1 * 2 ^ (q1 - m).toNat * 2 ^ q1.toNat = (c1 * 2 ^ q1.toNat) * 2 ^ (q1 - m).toNat := by ac_rfl
        rw [a1, w1, Nat.mul_assoc, Nat.mul_assoc, ← Nat.pow_add, ← Nat.pow_add, show (-q1).toNat + (q1 - m).toNat = (-m).toNat + q1.toNat by omega]
      exact Nat.eq_of_mul_eq_mul_right (Nat.two_pow_pos _) t
    have k2 : (4503599627370496 + T) * 2 ^ ((e : Int) - 1075 - m).toNat = I * 2 ^ (-m).toNat + F * 2 ^ ((e : Int) - 1075 - m).toNat := by
      rw [← dm, Nat.add_mul, Nat.mul_comm (2 ^ (1075 - e)) I, Nat.mul_assoc, ← Nat.pow_add, show 1075 - e + ((e : Int) - 1075 - m).toNat = (-m).toNat by omega]
    omega
  show Jvm.FP.Core.round Jvm.FP.Core.b64 (.fin (Jvm.FP.Core.sumSign false true (Jvm.FP.Core.sumUnits false (4503599627370496 + T) ((e : Int) - 1075) true c1 q1 (min ((e : Int) - 1075) q1))) (Jvm.FP.Core.sumUnits false (4503599627370496 + T) ((e : Int) - 1075) true c1 q1 (min ((e : Int) - 1075) q1)).natAbs (min ((e : Int) - 1075) q1)) = _
  rw [hm, eS]
  generalize hG : F * 2 ^ ((e : Int) - 1075 - m).toNat = G
  have e3 : Jvm.FP.Core.sumSign false true ((G : Nat) : Int) = false := by
    unfold Jvm.FP.Core.sumSign
    by_cases z : ((G : Nat) : Int) = 0
    · rw [if_pos z]
      rfl
    · rw [if_neg z]
      exact decide_eq_false (by omega)
  rw [e3]
  show Jvm.FP.Core.roundRatio Jvm.FP.Core.b64 false G 1 m = _
  refine Jvm.FP.Core.roundRatio_congr (by decide) (by decide) ?_
  rw [Nat.mul_one, Nat.mul_one, ← hG, show (m - ((e : Int) - 1075)).toNat = 0 by omega, Nat.pow_zero, Nat.mul_one]
/-- so both are one number: 0, or a normal one -/
theorem fr_eq {x : UInt64} {e T : Nat} (h : NB x e T) (h1 : 1016 ≤ e) (h2 : e ≤ 1040) : FP.dsub x (FP.l2d (Int64.ofInt (FP.d2l x).toInt)) = FP.drem x FP.dconst1 ∧ (FP.drem x FP.dconst1 = 0 ∨ ∃ e' T' : Nat, NB (FP.drem x FP.dconst1) e' T') := by
  obtain ⟨g0, g1, g2, g3⟩ := id h
  have a := fr_sub h h1 h2
  have b := fr_rem h (by omega)
  refine ⟨Jvm.FP.Core.val64_inj (by rw [a]; exact Jvm.FP.Core.roundRatio_ne_nan _ _ _ _ _) (a.trans b.symm), ?_⟩
  have fl := Nat.mod_lt (4503599627370496 + T) (Nat.two_pow_pos (1075 - e))
  generalize (4503599627370496 + T) % 2 ^ (1075 - e) = F at b fl
  generalize FP.drem x FP.dconst1 = y at b ⊢
  have v0 : Jvm.FP.Core.val64 0 = .fin false 0 (-1074) := by decide +kernel
  by_cases z : F = 0
  · left
    subst z
    have b : Jvm.FP.Core.val64 y = .fin false 0 (-1074) := b
    exact Jvm.FP.Core.val64_inj (by rw [b]; exact Jvm.FP.Core.Datum.noConfusion) (b.trans v0.symm)
  · right
    have nn : Jvm.FP.Core.val64 y ≠ .nan := by
      rw [b]
      exact Jvm.FP.Core.roundRatio_ne_nan _ _ _ _ _
    have sg_ := Jvm.FP.Core.sgn_bits nn
    rw [b, Jvm.FP.Core.sgn_roundRatio] at sg_
    have hy : y.toNat < 9223372036854775808 := by
      have := of_decide_eq_false sg_.symm
      have : ¬ 9223372036854775808 ≤ y.toNat := this
      omega
    have zy := Jvm.FP.Core.zmag_bits nn
    have my : y.toNat % 2 ^ 63 = y.toNat := Nat.mod_eq_of_lt hy
    rw [my, b] at zy
    have l1 : Jvm.FP.Core.val64 4341470040785158144 = .fin false 4503599627370496 (-111) := by decide +kernel
    have f1 := Jvm.FP.Core.val64_fits 4341470040785158144
    have f2 := Jvm.FP.Core.val64_fits FP.dconst1
    have z1 := Jvm.FP.Core.zmag_bits (a := 4341470040785158144) (by rw [l1]; exact Jvm.FP.Core.Datum.noConfusion)
    have z2 := Jvm.FP.Core.zmag_bits (a := FP.dconst1) (by rw [v_one]; exact Jvm.FP.Core.Datum.noConfusion)
    have m1 : Jvm.FP.Core.zmag Jvm.FP.Core.b64 (Jvm.FP.Core.val64 4341470040785158144) = 4503599627370496 * 2 ^ 963 := by
      rw [l1]
      show Jvm.FP.Core.inUnits 4503599627370496 (-111) Jvm.FP.Core.b64.qmin = _
      unfold Jvm.FP.Core.inUnits
      rw [show ((-111 : Int) - Jvm.FP.Core.b64.qmin).toNat = 963 from by decide]
    have m2 : Jvm.FP.Core.zmag Jvm.FP.Core.b64 (Jvm.FP.Core.val64 FP.dconst1) = 4503599627370496 * 2 ^ 1022 := by
      rw [v_one]
      show Jvm.FP.Core.inUnits 4503599627370496 (-52) Jvm.FP.Core.b64.qmin = _
      unfold Jvm.FP.Core.inUnits
      rw [show ((-52 : Int) - Jvm.FP.Core.b64.qmin).toNat = 1022 from by decide]
    have q0 : (Jvm.FP.Core.b64.qmin - -1074).toNat = 0 := by decide
    have i0 : Jvm.FP.Core.inUnits F ((e : Int) - 1075) (-1074) = F * 2 ^ (e - 1) := by
      show F * 2 ^ ((e : Int) - 1075 - -1074).toNat = _
      rw [show ((e : Int) - 1075 - -1074).toNat = e - 1 by omega]
    have ge := Jvm.FP.Core.zmag_roundRatio_ge (s := false) (A := F) (B := 1) (e := (e : Int) - 1075) (e0 := -1074) Jvm.FP.Core.good_b64 (by decide) f1 (by decide) (by omega) (by
      rw [m1, i0, q0]
      have p : 2 ^ 1015 ≤ 2 ^ (e - 1) := Nat.pow_le_pow_right (by decide) (by omega)
      have q := Nat.mul_le_mul (show 1 ≤ F by omega) p
      rw [Nat.pow_zero, Nat.mul_one, Nat.mul_one, show (4503599627370496 : Nat) = 2 ^ 52 from rfl, ← Nat.pow_add]
      rw [Nat.one_mul] at q
      exact q)
    have le := Jvm.FP.Core.zmag_roundRatio_le (s := false) (A := F) (B := 1) (e := (e : Int) - 1075) (e0 := -1074) Jvm.FP.Core.good_b64 (by decide) f2 (by rw [v_one]; exact Jvm.FP.Core.Datum.noConfusion) (by decide) (by omega) (by
      rw [m2, i0, q0]
      have q := Nat.mul_le_mul_right (2 ^ (e - 1)) (Nat.le_of_lt fl)
      rw [← Nat.pow_add, show 1075 - e + (e - 1) = 1074 by omega] at q
      rw [Nat.pow_zero, Nat.mul_one, Nat.mul_one, show (4503599627370496 : Nat) = 2 ^ 52 from rfl, ← Nat.pow_add]
      exact q)
    rw [z1, zy] at ge
    rw [z2, zy] at le
    have ge := Jvm.FP.Core.unitsOf_le_iff.mp ge
    have le := Jvm.FP.Core.unitsOf_le_iff.mp le
    have g1 : (4341470040785158144 : UInt64).toNat % 2 ^ 63 = 4341470040785158144 := by decide +kernel
    have g2 : FP.dconst1.toNat % 2 ^ 63 = 4607182418800017408 := by decide +kernel
    rw [g1] at ge
    rw [g2] at le
    exact ⟨y.toNat / 4503599627370496, y.toNat % 4503599627370496, by omega, by omega, by omega, by omega⟩
end
section
/-! FLOOR of a number that is not below 0: its whole part -/
theorem v_half : Jvm.FP.Core.val64 4602678819172646912 = .fin false 4503599627370496 (-53) := by decide +kernel
theorem NB_by {x : UInt64} {e T : Nat} (h : NB x e T) (h2 : e ≤ 2045) : NB (FP.ddiv x 4602678819172646912) (e + 1) T := by
  obtain ⟨h0, h1, h3, hT⟩ := id h
  obtain ⟨y, hy⟩ := NB_ex (e := e + 1) (T := T) (by omega) (by omega) hT
  have e2 := NB_v hy
  have f := Jvm.FP.Core.val64_fits y
  rw [e2] at f
  have k : Jvm.FP.Core.val64 (Jvm.FP.Core.ddiv x 4602678819172646912) = Jvm.FP.Core.val64 y := by
    rw [Jvm.FP.Core.val64_ddiv, NB_v h, v_half, e2]
    show (if (4503599627370496 : Nat) = 0 then (if 4503599627370496 + T = 0 then Jvm.FP.Core.Datum.nan else .inf (false != false)) else Jvm.FP.Core.roundRatio Jvm.FP.Core.b64 (false != false) (4503599627370496 + T) 4503599627370496 ((e : Int) - 1075 - -53)) = _
    rw [if_neg (by decide)]
    refine Jvm.FP.Core.roundRatio_exact Jvm.FP.Core.good_b64 (by decide) f ?_
    rw [show ((e : Int) - 1075 - -53 - (((e + 1 : Nat) : Int) - 1075)).toNat = 52 by omega, show ((((e + 1 : Nat) : Int) - 1075) - ((e : Int) - 1075 - -53)).toNat = 0 by omega]
    omega
  have q : FP.ddiv x 4602678819172646912 = y := Jvm.FP.Core.val64_inj (by rw [k]; exact NB_nn hy) k
  rw [q]
  exact hy
theorem and_sh {n e T : Nat} (h : n = e * 4503599627370496 + T) (hT : T < 4503599627370496) (he : e < 2048) : (n &&& 9218868437227405312) >>> 52 = e := by
  rw [Nat.shiftRight_and_distrib, show (9218868437227405312 : Nat) >>> 52 = 2 ^ 11 - 1 from by decide, Nat.and_two_pow_sub_one_eq_mod, Nat.shiftRight_eq_div_pow]
  show n / 4503599627370496 % 2048 = e
  omega
/-- the exponent, by Math.getExponent's own steps -/
theorem ex_n {x : UInt64} {e T : Nat} (h : NB x e T) : Jvm.Free.Hsc.expOf x = Int32.ofInt ((e : Int) - 1023) := by
  obtain ⟨h0, h1, h2, h3⟩ := id h
  have k : (x.toInt64 &&& 9218868437227405312) >>> (52 &&& 63) = Int64.ofInt (e : Int) := by
    apply Int64.toBitVec_inj.mp
    show (x.toBitVec &&& 9218868437227405312#64).sshiftRight 52 = BitVec.ofInt 64 (e : Int)
    have m : (x.toBitVec &&& 9218868437227405312#64).msb = false := by
      rw [BitVec.msb_and, show (9218868437227405312#64).msb = false from by decide, Bool.and_false]
    rw [BitVec.sshiftRight_eq_of_msb_false m]
    apply BitVec.eq_of_toNat_eq
    rw [BitVec.toNat_ushiftRight, BitVec.toNat_and, BitVec.toNat_ofInt]
    show (x.toNat &&& 9218868437227405312) >>> 52 = _
    rw [and_sh h0 h3 (by omega)]
    omega
  unfold Jvm.Free.Hsc.expOf
  rw [k]
  have t : (Int64.ofInt (e : Int)).toInt32 = Int32.ofInt (e : Int) := Int64.toInt32_ofInt
  rw [t, show (1023 : Int32) = Int32.ofInt 1023 from by decide, ← Int32.ofInt_sub]
/-- the bits with the last j away -/
theorem cut_j (b : BitVec 64) (j : Nat) (hj : j ≤ 52) : (b &&& ~~~(4503599627370495#64 >>> (52 - j))).toNat = b.toNat / 2 ^ j * 2 ^ j := by
  have e : b &&& ~~~(4503599627370495#64 >>> (52 - j)) = (b >>> j) <<< j := by
    apply BitVec.eq_of_getLsbD_eq
    intro i hi
    have g : (4503599627370495#64).getLsbD (52 - j + i) = decide (52 - j + i < 52) := by
      show (BitVec.ofNat 64 (2 ^ 52 - 1)).getLsbD (52 - j + i) = _
      rw [BitVec.getLsbD_ofNat, Nat.testBit_two_pow_sub_one]
      by_cases z : 52 - j + i < 52
      · rw [decide_eq_true z, decide_eq_true (show 52 - j + i < 64 by omega)]
        rfl
      · rw [decide_eq_false z, Bool.and_false]
    rw [BitVec.getLsbD_and, BitVec.getLsbD_not, BitVec.getLsbD_ushiftRight, g, BitVec.getLsbD_shiftLeft, BitVec.getLsbD_ushiftRight]
    by_cases q : i < j
    · simp [q, hi, show 52 - j + i < 52 by omega]
    · simp [q, hi, show ¬ 52 - j + i < 52 by omega, show j + (i - j) = i by omega]
  rw [e, BitVec.toNat_shiftLeft, BitVec.toNat_ushiftRight, Nat.shiftRight_eq_div_pow, Nat.shiftLeft_eq]
  exact Nat.mod_eq_of_lt (Nat.lt_of_le_of_lt (Nat.div_mul_le_self _ _) b.isLt)
theorem mk_ : ∀ k : Nat, k < 52 → ((4503599627370495 : Int64) >>> ((Int32.ofInt (k : Int)).toInt64 &&& 63)).toBitVec = 4503599627370495#64 >>> k := by decide +kernel
theorem neg_n {x : UInt64} {e T : Nat} (h : NB x e T) : Op.cmpValue (FP.dcmp (FP.dmul 0xBFF0000000000000 x) 0) .l ≤ 0 := by
  have v1 : Jvm.FP.Core.val64 0xBFF0000000000000 = .fin true 4503599627370496 (-52) := by decide +kernel
  have v : Jvm.FP.Core.val64 (FP.dmul 0xBFF0000000000000 x) = Jvm.FP.Core.roundRatio Jvm.FP.Core.b64 true (4503599627370496 * (4503599627370496 + T)) 1 (-52 + ((e : Int) - 1075)) := by
    show Jvm.FP.Core.val64 (Jvm.FP.Core.dmul 0xBFF0000000000000 x) = _
    rw [Jvm.FP.Core.val64_dmul, v1, NB_v h]
    rfl
  generalize FP.dmul 0xBFF0000000000000 x = y at v ⊢
  have nn : Jvm.FP.Core.val64 y ≠ .nan := by
    rw [v]
    exact Jvm.FP.Core.roundRatio_ne_nan _ _ _ _ _
  have sg_ := Jvm.FP.Core.sgn_bits nn
  rw [v, Jvm.FP.Core.sgn_roundRatio] at sg_
  have hy : 2 ^ 63 ≤ y.toNat := of_decide_eq_true sg_.symm
  have v0 : Jvm.FP.Core.val64 0 = .fin false 0 (-1074) := by decide +kernel
  have k0 : Jvm.FP.Core.dkey 0 = 0 := by decide +kernel
  have k : FP.dcmp y 0 = _ := Jvm.FP.Core.dcmp_key nn (by rw [v0]; exact Jvm.FP.Core.Datum.noConfusion)
  have ky : Jvm.FP.Core.dkey y ≤ 0 := by
    unfold Jvm.FP.Core.dkey
    rw [if_pos hy]
    have hy : 9223372036854775808 ≤ y.toNat := hy
    show ((9223372036854775808 : Nat) : Int) - (y.toNat : Int) ≤ 0
    omega
  rw [k0] at k
  rw [k, Int32.le_iff_toInt_le, cv_, Int32.toInt_zero]
  split
  · decide
  · split
    · decide
    · omega
theorem fl_n {x : UInt64} {e T : Nat} (h : NB x e T) (h2 : e ≤ 1074) : (FP.d2l x).toInt = (FP.d2l (Jvm.Free.Hsc.floorOf x)).toInt := by
  obtain ⟨g0, g1, g2, g3⟩ := id h
  have v0 : Jvm.FP.Core.val64 0 = .fin false 0 (-1074) := by decide +kernel
  have n0 : Jvm.FP.Core.val64 0 ≠ .nan := by rw [v0]; exact Jvm.FP.Core.Datum.noConfusion
  have k0 : Jvm.FP.Core.dkey 0 = 0 := by decide +kernel
  have c0 : FP.dcmp x 0 = some (compare ((e * 4503599627370496 + T : Nat) : Int) 0) := by
    have k : FP.dcmp x 0 = _ := Jvm.FP.Core.dcmp_key (NB_nn h) n0
    rw [NB_key h, k0] at k
    exact k
  unfold Jvm.Free.Hsc.floorOf Jvm.Free.Hsc.focOf
  rw [ex_n h]
  by_cases q : e < 1023
  · have lt : Int32.ofInt ((e : Int) - 1023) < 0 := by
      rw [Int32.lt_iff_toInt_lt, ga_ti (by omega), Int32.toInt_zero]
      omega
    have t1 := cv_ ((e * 4503599627370496 + T : Nat) : Int) 0
    have a1 : ¬ Op.cmpValue (FP.dcmp x 0) .l = 0 := fun z => by
      have t := t1 .l
      rw [← c0, z, if_neg (by omega), if_neg (by omega)] at t
      exact absurd t (by decide)
    have a2 : ¬ Op.cmpValue (FP.dcmp x 0) .g < 0 := fun z => by
      have t := t1 .g
      rw [← c0, if_neg (by omega), if_neg (by omega)] at t
      have z := Int32.lt_iff_toInt_lt.mp z
      rw [t, Int32.toInt_zero] at z
      omega
    rw [if_pos lt, if_neg a1, if_neg a2, d2l_n h h2]
    have d : (4503599627370496 + T) / 2 ^ (1075 - e) = 0 := Nat.div_eq_of_lt (Nat.lt_of_lt_of_le (show 4503599627370496 + T < 2 ^ 53 by omega) (Nat.pow_le_pow_right (by decide) (by omega)))
    rw [d]
    decide +kernel
  · have nl : ¬ Int32.ofInt ((e : Int) - 1023) < 0 := by
      rw [Int32.lt_iff_toInt_lt, ga_ti (by omega), Int32.toInt_zero]
      omega
    have n5 : ¬ ¬ Int32.ofInt ((e : Int) - 1023) < 52 := by
      rw [Int32.lt_iff_toInt_lt, ga_ti (by omega), show (52 : Int32).toInt = 52 from by decide]
      omega
    rw [if_neg nl, if_neg n5]
    by_cases m : Jvm.Free.Hsc.maskOf x &&& x.toInt64 = 0
    · rw [if_pos m]
    · rw [if_neg m]
      rw [if_pos (neg_n h)]
      have cu : NB (Jvm.Free.Hsc.cutOf x) e (T / 2 ^ (1075 - e) * 2 ^ (1075 - e)) := by
        have mk : (Jvm.Free.Hsc.maskOf x).toBitVec = 4503599627370495#64 >>> (52 - (1075 - e)) := by
          have k := mk_ (e - 1023) (by omega)
          rw [show (((e - 1023 : Nat)) : Int) = (e : Int) - 1023 by omega, ← ex_n h] at k
          rw [show 52 - (1075 - e) = e - 1023 by omega]
          exact k
        have c : (Jvm.Free.Hsc.cutOf x).toNat = x.toNat / 2 ^ (1075 - e) * 2 ^ (1075 - e) := by
          show (x.toBitVec &&& ~~~(Jvm.Free.Hsc.maskOf x).toBitVec).toNat = _
          rw [mk]
          exact cut_j x.toBitVec (1075 - e) (by omega)
        have p : (4503599627370496 : Nat) = 2 ^ (e - 1023) * 2 ^ (1075 - e) := by rw [← Nat.pow_add, show e - 1023 + (1075 - e) = 52 by omega]
        have le := Nat.div_mul_le_self T (2 ^ (1075 - e))
        refine ⟨?_, g1, g2, by omega⟩
        rw [c, g0]
        have t : (e * 4503599627370496 + T) / 2 ^ (1075 - e) = e * 2 ^ (e - 1023) + T / 2 ^ (1075 - e) := by
          rw [p, ← Nat.mul_assoc, Nat.add_comm, Nat.add_mul_div_right _ _ (Nat.two_pow_pos _), Nat.add_comm]
        rw [t, Nat.add_mul, Nat.mul_assoc, ← p]
      rw [d2l_n h h2, d2l_n cu h2]
      have p : (4503599627370496 : Nat) = 2 ^ (e - 1023) * 2 ^ (1075 - e) := by rw [← Nat.pow_add, show e - 1023 + (1075 - e) = 52 by omega]
      have e1 : (4503599627370496 + T) / 2 ^ (1075 - e) = 2 ^ (e - 1023) + T / 2 ^ (1075 - e) := by
        rw [p, Nat.add_comm, Nat.add_mul_div_right _ _ (Nat.two_pow_pos _), Nat.add_comm]
      have e2 : (4503599627370496 + T / 2 ^ (1075 - e) * 2 ^ (1075 - e)) / 2 ^ (1075 - e) = 2 ^ (e - 1023) + T / 2 ^ (1075 - e) := by
        rw [p, ← Nat.add_mul, Nat.mul_div_cancel _ (Nat.two_pow_pos _)]
      rw [e1, e2]
end
