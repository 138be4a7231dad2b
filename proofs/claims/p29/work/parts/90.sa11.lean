/-! FIT: the reference lays cells by zone and land, weighs, finds the misfit -/
theorem sl_205_121 {g : Nat} (hg : g < 3) : ∀ (n j : Nat) (t : gx_S), 4 < n + j → j ≤ 4 → ∃ u : gx_S, gm_205_121 n g j t = some u ∧ u.2 = t.2 ∧ (∀ a i, a ≠ 243 → u.1 a i = t.1 a i) ∧ ∀ i, u.1 243 i = if j ≤ i ∧ i < 4 then t.1 216 (32 + 4 * g + i) else t.1 243 i := by
  intro n
  induction n with
  | zero => intro j t h; omega
  | succ n ih =>
    intro j t h hj
    rw [gm_205_121, if_pos (by omega)]
    by_cases q : j = 4
    · rw [if_pos (by omega)]
      exact ⟨t, rfl, rfl, fun _ _ _ => rfl, fun i => by rw [if_neg (by omega)]⟩
    · have ce : ((j : Int) + 1) = ((j + 1 : Nat) : Int) := rfl
      have i1 : ((j : Int)).toNat = j := by omega
      have i2 : ((32 + (4 * (g : Int))) + (j : Int)).toNat = 32 + 4 * g + j := by omega
      rw [if_neg (by omega), if_pos (by omega), if_pos (by omega), i1, i2, ce]
      obtain ⟨u, u1, u2, u3, u4⟩ := ih (j + 1) (gw1 t 243 j (t.1 216 (32 + 4 * g + j))) (by omega) (by omega)
      refine ⟨u, u1, u2, fun a i h => by rw [u3 a i h, gw1_1, if_neg (fun x => h x.1)], fun i => ?_⟩
      rw [u4, gw1_1 t 243 j _ 216, if_neg (show ¬ ((216 : Nat) = 243 ∧ 32 + 4 * g + i = j) by omega), gw1_1]
      by_cases z : i = j
      · rw [if_neg (show ¬ (j + 1 ≤ i ∧ i < 4) by omega), if_pos (show (243 : Nat) = 243 ∧ i = j from ⟨rfl, z⟩), if_pos (show j ≤ i ∧ i < 4 by omega), z]
      · rw [if_neg (show ¬ ((243 : Nat) = 243 ∧ i = j) from fun x => z x.2)]
        by_cases y : j + 1 ≤ i ∧ i < 4
        · rw [if_pos y, if_pos (show j ≤ i ∧ i < 4 by omega)]
        · rw [if_neg y, if_neg (show ¬ (j ≤ i ∧ i < 4) by omega)]
theorem sl_205_79 {f : Nat → Int} {R C g : Nat} (M : MP f R C) (hg : g < 3) : ∀ (n j : Nat) (t : gx_S), 8 < n + j → j ≤ 8 → t.1 216 = f → t.1 215 42 = sg (L0 f R C g) j → ∃ u : gx_S, gm_205_79 n g j t = gm_205_121 100000 g 0 u ∧ u.2 = t.2 ∧ (∀ a i, ¬ (a = 215 ∧ i = 42) → u.1 a i = t.1 a i) ∧ u.1 215 42 = CP f R C g := by
  intro n
  induction n with
  | zero => intro j t h; omega
  | succ n ih =>
    intro j t h hj ef e42
    rw [gm_205_79, if_pos (by omega)]
    by_cases q : j = 8
    · rw [if_pos (by omega)]
      rw [q] at e42
      exact ⟨t, rfl, rfl, fun _ _ _ => rfl, e42⟩
    · have ce : ((j : Int) + 1) = ((j + 1 : Nat) : Int) := rfl
      have M' : MP (t.1 216) R C := by rw [ef]; exact M
      have c53 := sp_153g M' 0 j (by omega) (by omega)
      have c53 : gm_153 0 j t = _ := c53
      rw [ef] at c53
      have nx : ∀ x : Int, x = L0 f R C g j → ∃ u : gx_S, gm_205_79 n g ((j + 1 : Nat) : Int) (gw1 t 215 42 (t.1 215 42 + x)) = gm_205_121 100000 g 0 u ∧ u.2 = t.2 ∧ (∀ a i, ¬ (a = 215 ∧ i = 42) → u.1 a i = t.1 a i) ∧ u.1 215 42 = CP f R C g := fun x hx => by
        obtain ⟨u, u1, u2, u3, u4⟩ := ih (j + 1) (gw1 t 215 42 (t.1 215 42 + x)) (by omega) (by omega) (by funext i; rw [gw1_1, if_neg (by omega), ef]) (by rw [gw1_1, if_pos ⟨rfl, rfl⟩, e42, hx]; rfl)
        exact ⟨u, u1, u2, fun a i h => by rw [u3 a i h, gw1_1, if_neg h], u4⟩
      rw [if_neg (by omega), c53, Option.bind_some]
      by_cases y : 0 < NC f R C 0 j
      · rw [if_neg (fun q => (gbD t).mp q y)]
        show ∃ u : gx_S, ((gm_155 g j t).bind _) = _ ∧ _
        rw [sp_155 g j hg (by omega), Option.bind_some]
        unfold gm_205_109
        rw [ce, ef]
        exact nx _ (by unfold L0; rw [if_pos y])
      · rw [if_pos ((gbD t).mpr y)]
        unfold gm_205_109
        rw [ce]
        exact nx 0 (by unfold L0; rw [if_neg y])
theorem sl_205_23 {f : Nat → Int} {R C g : Nat} (M : MP f R C) (h7 : f 2 = 7) : ∀ (n k : Nat) (t : gx_S), R * C < n + k → k ≤ R * C → t.1 216 = f → (∀ z l, z < 8 → l < 4 → t.1 242 (4 * z + l) = CLn f C z l k) → ∃ u : gx_S, gm_205_23 n g k t = gm_205_79 100000 g 0 (gw1 u 215 42 0) ∧ u.2 = t.2 ∧ (∀ a i, a ≠ 242 → u.1 a i = t.1 a i) ∧ ∀ z l, z < 8 → l < 4 → u.1 242 (4 * z + l) = CL f R C z l := by
  intro n
  induction n with
  | zero => intro k t h; omega
  | succ n ih =>
    intro k t h hk ef e42
    have hRC := RC_96 M.1.2.2.1 M.1.2.2.2
    have M' : MP (t.1 216) R C := by rw [ef]; exact M
    have hm : t.1 216 0 * t.1 216 1 = ((R * C : Nat) : Int) := by rw [ef, M.1.1, M.1.2.1]; simp
    rw [gm_205_23, sp_151, hm, Option.bind_some]
    dsimp only
    rw [if_pos (by omega), if_pos (by omega)]
    by_cases q : k = R * C
    · rw [if_pos (by omega)]
      rw [q] at e42
      exact ⟨t, rfl, rfl, fun _ _ _ => rfl, e42⟩
    · have hkk : k < R * C := by omega
      have cs := co_s M h7 hkk
      have ce : ((k : Int) + 1) = ((k + 1 : Nat) : Int) := rfl
      have c0 := sp_152 (s := t) (R := R) (C := C) (MP_mz M') 0 k (by omega) hkk
      have c0 : gm_152 0 k t = some (t.1 216 (52 + 96 * 0 + 12 * (k / C) + k % C), t) := c0
      rw [ef, cs.1.1] at c0
      have c2 := sp_152 (s := t) (R := R) (C := C) (MP_mz M') 2 k (by omega) hkk
      have c2 : gm_152 2 k t = some (t.1 216 (52 + 96 * 2 + 12 * (k / C) + k % C), t) := c2
      rw [ef, cs.2.2.1] at c2
      have st : ∀ z l, CLn f C z l (k + 1) = CLn f C z l k + bi (co f C 0 k = z ∧ co f C 2 k = l) := fun z l => rfl
      rw [if_neg (by omega), c0, Option.bind_some]
      dsimp only
      rw [if_pos (by omega)]
      by_cases y : co f C 0 k = 8
      · rw [if_pos (by omega)]
        unfold gm_205_66
        rw [ce]
        refine ih (k + 1) t (by omega) (by omega) ef fun z l hz hl => ?_
        rw [st, e42 z l hz hl]
        unfold bi
        rw [if_neg (by omega), Int.add_zero]
      · have i1 : ((4 * (co f C 0 k : Int)) + (co f C 2 k : Int)).toNat = 4 * co f C 0 k + co f C 2 k := by omega
        rw [if_neg (by omega), c0, Option.bind_some]
        dsimp only
        rw [c2, Option.bind_some]
        dsimp only
        rw [if_pos (by omega), i1]
        unfold gm_205_66
        rw [ce]
        obtain ⟨v, hv⟩ : ∃ v, v = gw1 t 242 (4 * co f C 0 k + co f C 2 k) (t.1 242 (4 * co f C 0 k + co f C 2 k) + 1) := ⟨_, rfl⟩
        have vo : ∀ a i, a ≠ 242 → v.1 a i = t.1 a i := fun a i h => by rw [hv, gw1_1, if_neg (fun x => h x.1)]
        rw [← hv]
        obtain ⟨u, u1, u2, u3, u4⟩ := ih (k + 1) v (by omega) (by omega) (by funext i; rw [vo _ _ (by decide), ef]) fun z l hz hl => by
          rw [st, hv, gw1_1]
          unfold bi
          by_cases p : co f C 0 k = z ∧ co f C 2 k = l
          · rw [if_pos p, if_pos (by omega), ← e42 z l hz hl, p.1, p.2]
          · rw [if_neg p, if_neg (by omega), Int.add_zero]
            exact e42 z l hz hl
        exact ⟨u, u1, by rw [u2, hv]; rfl, fun a i h => (u3 a i h).trans (vo a i h), u4⟩
theorem sl_205_2 {g : Nat} : ∀ (n j : Nat) (t : gx_S), 32 < n + j → j ≤ 32 → ∃ u : gx_S, gm_205_2 n g j t = gm_205_23 100000 g 0 u ∧ u.2 = t.2 ∧ (∀ a i, a ≠ 242 → u.1 a i = t.1 a i) ∧ ∀ i, u.1 242 i = if j ≤ i ∧ i < 32 then 0 else t.1 242 i := by
  intro n
  induction n with
  | zero => intro j t h; omega
  | succ n ih =>
    intro j t h hj
    rw [gm_205_2, if_pos (by omega)]
    by_cases q : j = 32
    · rw [if_pos (by omega)]
      exact ⟨t, rfl, rfl, fun _ _ _ => rfl, fun i => by rw [if_neg (by omega)]⟩
    · have ce : ((j : Int) + 1) = ((j + 1 : Nat) : Int) := rfl
      have i1 : ((j : Int)).toNat = j := by omega
      rw [if_neg (by omega), if_pos (by omega), i1, ce]
      obtain ⟨u, u1, u2, u3, u4⟩ := ih (j + 1) (gw1 t 242 j 0) (by omega) (by omega)
      refine ⟨u, u1, u2, fun a i h => by rw [u3 a i h, gw1_1, if_neg (fun x => h x.1)], fun i => ?_⟩
      rw [u4, gw1_1]
      by_cases z : i = j
      · rw [if_neg (show ¬ (j + 1 ≤ i ∧ i < 32) by omega), if_pos (show (242 : Nat) = 242 ∧ i = j from ⟨rfl, z⟩), if_pos (show j ≤ i ∧ i < 32 by omega)]
      · rw [if_neg (show ¬ ((242 : Nat) = 242 ∧ i = j) from fun x => z x.2)]
        by_cases y : j + 1 ≤ i ∧ i < 32
        · rw [if_pos y, if_pos (show j ≤ i ∧ i < 32 by omega)]
        · rw [if_neg y, if_neg (show ¬ (j ≤ i ∧ i < 32) by omega)]
/-- cells by zone and land, the weights that are tried -/
def RSw (t : gx_S) (X : Nat → Nat → Int) (w : Nat → Int) : Prop := (∀ z l, z < 8 → l < 4 → t.1 242 (4 * z + l) = X z l) ∧ ∀ l, l < 4 → t.1 243 l = w l
theorem sp_205 {s : gx_S} {f : Nat → Int} {R C g : Nat} (ef : s.1 216 = f) (M : MP f R C) (h7 : f 2 = 7) (hg : g < 3) : ∃ u : gx_S, gm_205 g s = some u ∧ RSw u (CL f R C) (fun l => f (32 + 4 * g + l)) ∧ u.1 215 42 = CP f R C g ∧ u.2 = s.2 ∧ ∀ a i, a ≠ 242 → a ≠ 243 → ¬ (a = 215 ∧ i = 42) → u.1 a i = s.1 a i := by
  have hRC := RC_96 M.1.2.2.1 M.1.2.2.2
  obtain ⟨a, a1, a2, a3, a4⟩ := sl_205_2 (g := g) 100000 0 s (by omega) (by omega)
  have a1 : gm_205_2 100000 g 0 s = _ := a1
  have fa : a.1 216 = f := by funext i; rw [a3 _ _ (by decide), ef]
  obtain ⟨b, b1, b2, b3, b4⟩ := sl_205_23 (g := g) M h7 100000 0 a (by omega) (by omega) fa fun z l hz hl => by rw [a4, if_pos (by omega)]; rfl
  have b1 : gm_205_23 100000 g 0 a = _ := b1
  have fb : b.1 216 = f := by funext i; rw [b3 _ _ (by decide), fa]
  obtain ⟨d, d1, d2, d3, d4⟩ := sl_205_79 (g := g) M hg 100000 0 (gw1 b 215 42 0) (by omega) (by omega) (by funext i; rw [gw1_1, if_neg (by omega), fb]) (by rw [gw1_1, if_pos ⟨rfl, rfl⟩]; rfl)
  have d1 : gm_205_79 100000 g 0 (gw1 b 215 42 0) = _ := d1
  have fd : ∀ q i, ¬ (q = 215 ∧ i = 42) → d.1 q i = b.1 q i := fun q i h => by rw [d3 q i h, gw1_1, if_neg h]
  obtain ⟨u, u1, u2, u3, u4⟩ := sl_205_121 hg 100000 0 d (by omega) (by omega)
  have u1 : gm_205_121 100000 g 0 d = _ := u1
  refine ⟨u, ?_, ⟨fun z l hz hl => ?_, fun l hl => ?_⟩, by rw [u3 _ _ (by decide), d4], by rw [u2, d2, gw1_2, b2, a2], fun q i h1 h2 h3 => by rw [u3 q i h2, fd q i h3, b3 q i h1, a3 q i h1]⟩
  · unfold gm_205
    rw [a1, b1, d1, u1]
  · rw [u3 _ _ (by decide), fd _ _ (by omega), b4 z l hz hl]
  · rw [u4, if_pos (by omega), fd _ _ (by omega), fb]
theorem sp_206 {t : gx_S} {X : Nat → Nat → Int} {w : Nat → Int} (S : RSw t X w) {z : Nat} (hz : z < 8) : gm_206 z t = some (SZ X w z, t) := by
  have e : ∀ (n j : Nat), 4 < n + j → j ≤ 4 → gm_206_4 n z (sg (fun l => w l * X z l) j) j t = some (SZ X w z, t) := by
    intro n
    induction n with
    | zero => intro j h; omega
    | succ n ih =>
      intro j h hj
      rw [gm_206_4, if_pos (by omega)]
      by_cases q : j = 4
      · rw [if_pos (by omega), q]
        rfl
      · have ce : ((j : Int) + 1) = ((j + 1 : Nat) : Int) := rfl
        have i1 : ((j : Int)).toNat = j := by omega
        have i2 : ((4 * (z : Int)) + (j : Int)).toNat = 4 * z + j := by omega
        rw [if_neg (by omega), if_pos (by omega), if_pos (by omega), i1, i2, S.1 z j hz (by omega), S.2 j (by omega), ce]
        exact ih (j + 1) (by omega) (by omega)
  exact e 100000 0 (by omega) (by omega)
theorem sp_207 {t : gx_S} {X : Nat → Nat → Int} (S : ∀ z l, z < 8 → l < 4 → t.1 242 (4 * z + l) = X z l) {l : Nat} (hl : l < 4) : gm_207 l t = some (LC X l, t) := by
  have e : ∀ (n j : Nat), 8 < n + j → j ≤ 8 → gm_207_4 n l (sg (fun z => X z l) j) j t = some (LC X l, t) := by
    intro n
    induction n with
    | zero => intro j h; omega
    | succ n ih =>
      intro j h hj
      rw [gm_207_4, if_pos (by omega)]
      by_cases q : j = 8
      · rw [if_pos (by omega), q]
        rfl
      · have ce : ((j : Int) + 1) = ((j + 1 : Nat) : Int) := rfl
        have i2 : ((4 * (j : Int)) + (l : Int)).toNat = 4 * j + l := by omega
        rw [if_neg (by omega), if_pos (by omega), i2, S j l (by omega) hl, ce]
        exact ih (j + 1) (by omega) (by omega)
  exact e 100000 0 (by omega) (by omega)
theorem sp_208 {t : gx_S} {X : Nat → Nat → Int} {c : Nat → Int} {P : Int} (B : XB X c P) (S : ∀ z l, z < 8 → l < 4 → t.1 242 (4 * z + l) = X z l) {z : Nat} (hz : z < 8) : gm_208 z t = some (decide (KZ X z), t) := by
  have bd := sg_bd (f := fun l => X z l) (n := 4) fun l hl => B.1 z l hz hl
  have e : ∀ (n j : Nat), 4 < n + j → j ≤ 4 → gm_208_4 n z (sg (fun l => X z l) j) j t = some (decide (KZ X z), t) := by
    intro n
    induction n with
    | zero => intro j h; omega
    | succ n ih =>
      intro j h hj
      rw [gm_208_4, if_pos (by omega)]
      by_cases q : j = 4
      · rw [if_pos (by omega), q, if_pos (by omega)]
        by_cases y : sg (fun l => X z l) 4 ≤ 0
        · rw [if_pos y, decide_eq_false (show ¬ KZ X z from fun h : 0 < sg (fun l => X z l) 4 => by omega)]
        · rw [if_neg y, decide_eq_true (show KZ X z from (by omega : 0 < sg (fun l => X z l) 4))]
      · have ce : ((j : Int) + 1) = ((j + 1 : Nat) : Int) := rfl
        have i2 : ((4 * (z : Int)) + (j : Int)).toNat = 4 * z + j := by omega
        rw [if_neg (by omega), if_pos (by omega), i2, S z j hz (by omega), ce]
        exact ih (j + 1) (by omega) (by omega)
  exact e 100000 0 (by omega) (by omega)
theorem SA_sum (X : Nat → Nat → Int) (w : Nat → Int) : sg (fun z => SZ X w z) 8 = SA X w := by
  refine (sg_swap (fun z l => w l * X z l) 4 8).trans (sg_eq fun l hl => ?_)
  exact sg_mul (w l) (fun z => X z l) 8
theorem sl_209_41 {X : Nat → Nat → Int} {c : Nat → Int} {P : Int} {w : Nat → Int} {g : Nat} (hg : g < 3) (B : XB X c P) (W : wB9 w) : ∀ (n j : Nat) (t : gx_S), 8 < n + j → j ≤ 8 → RSw t X w → t.1 215 42 = P → (∀ z, z < 8 → t.1 216 (5 + 9 * g + z) = c z) → t.2 215 40 = sg (fun z => if KZ X z then ab (c z * SA X w - P * SZ X w z) else 0) j → ∃ u : gx_S, gm_209_41 n g (SA X w) j t = some (decide (0 < SA X w), u) ∧ u.1 = t.1 ∧ u.2 215 40 = MS X c P w ∧ ∀ a i, ¬ (a = 215 ∧ i = 40) → u.2 a i = t.2 a i := by
  have sr := SA_r B W
  intro n
  induction n with
  | zero => intro j t h; omega
  | succ n ih =>
    intro j t h hj S e42 ec e40
    rw [gm_209_41, if_pos (by omega)]
    by_cases q : j = 8
    · rw [if_pos (by omega), if_pos (by omega)]
      rw [q] at e40
      refine ⟨t, ?_, rfl, e40, fun _ _ _ => rfl⟩
      by_cases y : SA X w ≤ 0
      · rw [if_pos y, decide_eq_false (by omega)]
      · rw [if_neg y, decide_eq_true (by omega)]
    · have ce : ((j : Int) + 1) = ((j + 1 : Nat) : Int) := rfl
      rw [if_neg (by omega), sp_208 B S.1 (show j < 8 by omega), Option.bind_some]
      by_cases y : KZ X j
      · rw [if_neg (fun q => (gbD t).mp q y)]
        show ∃ u : gx_S, ((gm_155 g j t).bind _) = _ ∧ _
        have cr := B.2.1 j (by omega)
        have zr := SZ_r B W (show j < 8 by omega)
        have dr := df_r B W (show j < 8 by omega)
        have pr := B.2.2
        rw [sp_155 g j hg (by omega), ec j (by omega), Option.bind_some]
        dsimp only
        rw [if_pos (by omega), e42, if_pos (by omega), sp_206 S (by omega), Option.bind_some]
        dsimp only
        rw [if_pos (by omega), if_pos (by omega)]
        unfold gm_209_93
        rw [ce]
        obtain ⟨u, u1, u2, u3, u4⟩ := ih (j + 1) (gw2 t 215 40 (t.2 215 40 + ab (c j * SA X w - P * SZ X w j))) (by omega) (by omega) S e42 ec (by
          rw [gw2_2, if_pos ⟨rfl, rfl⟩, e40]
          show _ = _ + (if KZ X j then ab (c j * SA X w - P * SZ X w j) else 0)
          rw [if_pos y])
        exact ⟨u, u1, u2, u3, fun a i h => by rw [u4 a i h, gw2_2, if_neg h]⟩
      · rw [if_pos ((gbD t).mpr y)]
        unfold gm_209_93
        rw [ce]
        exact ih (j + 1) t (by omega) (by omega) S e42 ec (by
          rw [e40]
          show _ = _ + (if KZ X j then ab (c j * SA X w - P * SZ X w j) else 0)
          rw [if_neg y, Int.add_zero])
theorem sp_209 {t : gx_S} {X : Nat → Nat → Int} {c : Nat → Int} {P : Int} {w : Nat → Int} {g : Nat} (hg : g < 3) (B : XB X c P) (W : wB9 w) (S : RSw t X w) (e42 : t.1 215 42 = P) (ec : ∀ z, z < 8 → t.1 216 (5 + 9 * g + z) = c z) : ∃ u : gx_S, gm_209 g t = some (decide (0 < SA X w), u) ∧ u.1 = t.1 ∧ u.2 215 40 = MS X c P w ∧ u.2 215 41 = SA X w ∧ ∀ a i, ¬ (a = 215 ∧ (i = 40 ∨ i = 41)) → u.2 a i = t.2 a i := by
  have e : ∀ (n j : Nat), 8 < n + j → j ≤ 8 → gm_209_5 n g (sg (fun z => SZ X w z) j) j t = gm_209_41 100000 g (SA X w) 0 (gw2 (gw2 t 215 40 0) 215 41 (SA X w)) := by
    intro n
    induction n with
    | zero => intro j h; omega
    | succ n ih =>
      intro j h hj
      rw [gm_209_5, if_pos (by omega)]
      by_cases q : j = 8
      · rw [if_pos (by omega), q, SA_sum]
      · have ce : ((j : Int) + 1) = ((j + 1 : Nat) : Int) := rfl
        have zr := SZ_r B W (show j < 8 by omega)
        rw [if_neg (by omega), sp_206 S (by omega), Option.bind_some]
        dsimp only
        rw [if_pos (by omega), ce]
        exact ih (j + 1) (by omega) (by omega)
  have e0 := e 100000 0 (by omega) (by omega)
  have e0 : gm_209_5 100000 g 0 0 t = _ := e0
  obtain ⟨u, u1, u2, u3, u4⟩ := sl_209_41 hg B W 100000 0 (gw2 (gw2 t 215 40 0) 215 41 (SA X w)) (by omega) (by omega) S e42 ec (by rw [gw2_2, if_neg (by omega), gw2_2, if_pos ⟨rfl, rfl⟩]; rfl)
  have u1 : gm_209_41 100000 g (SA X w) 0 (gw2 (gw2 t 215 40 0) 215 41 (SA X w)) = _ := u1
  refine ⟨u, ?_, u2, u3, by rw [u4 _ _ (by omega), gw2_2, if_pos ⟨rfl, rfl⟩], fun a i h => by rw [u4 a i (by omega), gw2_2, if_neg (by omega), gw2_2, if_neg (by omega)]⟩
  unfold gm_209
  rw [e0, u1]
