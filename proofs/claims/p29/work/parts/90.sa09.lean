/-! FIT: what zones and lands weigh; the class's rows of the zones that are there -/
theorem mul_r {a b A B : Int} (h1 : 0 ≤ a ∧ a ≤ A) (h2 : 0 ≤ b ∧ b ≤ B) : 0 ≤ a * b ∧ a * b ≤ A * B := ⟨Int.mul_nonneg h1.1 h2.1, Int.mul_le_mul h1.2 h2.2 h2.1 (by omega)⟩
theorem sg_bd {f : Nat → Int} {B : Int} : ∀ {n : Nat}, (∀ k, k < n → 0 ≤ f k ∧ f k ≤ B) → 0 ≤ sg f n ∧ sg f n ≤ n * B := by
  intro n
  induction n with
  | zero => intro _; exact ⟨Int.le_refl 0, by show (0 : Int) ≤ ((0 : Nat) : Int) * B; rw [Int.natCast_zero, Int.zero_mul]; exact Int.le_refl 0⟩
  | succ n ih =>
    intro h
    obtain ⟨a, b⟩ := ih fun k hk => h k (by omega)
    obtain ⟨c, d⟩ := h n (by omega)
    have e : sg f (n + 1) = sg f n + f n := rfl
    have e2 : ((n + 1 : Nat) : Int) * B = (n : Int) * B + B := by rw [Int.natCast_add, Int.add_mul]; simp
    rw [e, e2]
    generalize (n : Int) * B = t at *
    omega
abbrev KZ (X : Nat → Nat → Int) (z : Nat) : Prop := 0 < sg (fun l => X z l) 4
def rk (X : Nat → Nat → Int) : Nat → Nat
  | 0 => 0
  | z + 1 => rk X z + if KZ X z then 1 else 0
theorem rk_le (X : Nat → Nat → Int) : ∀ n : Nat, rk X n ≤ n := by
  intro n
  induction n with
  | zero => exact Nat.le_refl 0
  | succ n ih =>
    show rk X n + (if KZ X n then 1 else 0) ≤ n + 1
    split <;> omega
theorem rk_mono (X : Nat → Nat → Int) {a : Nat} : ∀ {b : Nat}, a ≤ b → rk X a ≤ rk X b := by
  intro b
  induction b with
  | zero => intro h; rw [show a = 0 by omega]; exact Nat.le_refl _
  | succ b ih =>
    intro h
    by_cases e : a = b + 1
    · rw [e]; exact Nat.le_refl _
    · have := ih (by omega)
      show _ ≤ rk X b + (if KZ X b then 1 else 0)
      omega
theorem rk_lt (X : Nat → Nat → Int) {z n : Nat} (hz : z < n) (h : KZ X z) : rk X z < rk X n := by
  have a : rk X (z + 1) = rk X z + 1 := by
    show rk X z + (if KZ X z then 1 else 0) = _
    rw [if_pos h]
  have b := rk_mono X (show z + 1 ≤ n by omega)
  omega
theorem rk_su (X : Nat → Nat → Int) : ∀ n i : Nat, i < rk X n → ∃ z, z < n ∧ KZ X z ∧ rk X z = i := by
  intro n
  induction n with
  | zero => intro i h; exact absurd h (Nat.not_lt_zero i)
  | succ n ih =>
    intro i h
    by_cases q : i < rk X n
    · obtain ⟨z, z1, z2⟩ := ih i q
      exact ⟨z, by omega, z2⟩
    · have h : i < rk X n + (if KZ X n then 1 else 0) := h
      by_cases k : KZ X n
      · rw [if_pos k] at h
        exact ⟨n, by omega, k, by omega⟩
      · rw [if_neg k] at h
        omega
theorem rk_sg (X : Nat → Nat → Int) (F : Nat → Int) : ∀ n : Nat, sg F (rk X n) = sg (fun z => if KZ X z then F (rk X z) else 0) n := by
  intro n
  induction n with
  | zero => rfl
  | succ n ih =>
    show sg F (rk X n + if KZ X n then 1 else 0) = sg (fun z => if KZ X z then F (rk X z) else 0) n + (if KZ X n then F (rk X n) else 0)
    by_cases h : KZ X n
    · rw [if_pos h, if_pos h, ← ih]
      rfl
    · rw [if_neg h, if_neg h, ← ih, Int.add_zero]
      rfl
def SZ (X : Nat → Nat → Int) (w : Nat → Int) (z : Nat) : Int := sg (fun l => w l * X z l) 4
def LC (X : Nat → Nat → Int) (l : Nat) : Int := sg (fun z => X z l) 8
def SA (X : Nat → Nat → Int) (w : Nat → Int) : Int := sg (fun l => w l * LC X l) 4
def ab (x : Int) : Int := if 0 < x then x else -x
def MS (X : Nat → Nat → Int) (c : Nat → Int) (P : Int) (w : Nat → Int) : Int := sg (fun z => if KZ X z then ab (c z * SA X w - P * SZ X w z) else 0) 8
/-- cells by zone and land, who was counted, all of them -/
def XB (X : Nat → Nat → Int) (c : Nat → Int) (P : Int) : Prop := (∀ z l, z < 8 → l < 4 → 0 ≤ X z l ∧ X z l ≤ 96) ∧ (∀ z, z < 8 → 0 ≤ c z ∧ c z ≤ 89991) ∧ 0 ≤ P ∧ P ≤ 89991
def wB9 (w : Nat → Int) : Prop := ∀ l, l < 4 → 0 ≤ w l ∧ w l ≤ 9
theorem LC_r {X : Nat → Nat → Int} {c : Nat → Int} {P : Int} (B : XB X c P) {l : Nat} (hl : l < 4) : 0 ≤ LC X l ∧ LC X l ≤ 768 := by
  have := sg_bd (f := fun z => X z l) (n := 8) fun z hz => B.1 z l hz hl
  unfold LC
  omega
theorem SZ_r {X : Nat → Nat → Int} {c : Nat → Int} {P : Int} {w : Nat → Int} (B : XB X c P) (W : wB9 w) {z : Nat} (hz : z < 8) : 0 ≤ SZ X w z ∧ SZ X w z ≤ 3456 := by
  have := sg_bd (f := fun l => w l * X z l) (n := 4) fun l hl => mul_r (W l hl) (B.1 z l hz hl)
  unfold SZ
  omega
theorem SA_r {X : Nat → Nat → Int} {c : Nat → Int} {P : Int} {w : Nat → Int} (B : XB X c P) (W : wB9 w) : 0 ≤ SA X w ∧ SA X w ≤ 27648 := by
  have := sg_bd (f := fun l => w l * LC X l) (n := 4) fun l hl => mul_r (W l hl) (LC_r B hl)
  unfold SA
  omega
theorem ab_r {x : Int} {A : Int} (h : -A ≤ x ∧ x ≤ A) : 0 ≤ ab x ∧ ab x ≤ A := by
  unfold ab
  split <;> omega
theorem df_r {X : Nat → Nat → Int} {c : Nat → Int} {P : Int} {w : Nat → Int} (B : XB X c P) (W : wB9 w) {z : Nat} (hz : z < 8) : -2488071168 ≤ c z * SA X w - P * SZ X w z ∧ c z * SA X w - P * SZ X w z ≤ 2488071168 := by
  have a := mul_r (B.2.1 z hz) (SA_r B W)
  have b := mul_r B.2.2 (SZ_r B W hz)
  generalize c z * SA X w = p at *
  generalize P * SZ X w z = q at *
  omega
theorem MS_r {X : Nat → Nat → Int} {c : Nat → Int} {P : Int} {w : Nat → Int} (B : XB X c P) (W : wB9 w) : 0 ≤ MS X c P w ∧ MS X c P w ≤ 19904569344 := by
  have := sg_bd (f := fun z => if KZ X z then ab (c z * SA X w - P * SZ X w z) else 0) (n := 8) (B := 2488071168) fun z hz => by
    have := ab_r (df_r B W hz)
    show 0 ≤ (if KZ X z then ab (c z * SA X w - P * SZ X w z) else 0) ∧ (if KZ X z then ab (c z * SA X w - P * SZ X w z) else 0) ≤ 2488071168
    split <;> omega
  unfold MS
  omega
/-- the fitter knows what it must fit -/
def FS (s : gx_S) (X : Nat → Nat → Int) (c : Nat → Int) (P : Int) : Prop := s.1 62 2 = (rk X 8 : Nat) ∧ (∀ z, z < 8 → KZ X z → s.1 64 (rk X z) = c z ∧ ∀ l, l < 4 → s.1 65 (4 * rk X z + l) = X z l) ∧ (∀ l, l < 4 → s.1 66 l = LC X l) ∧ s.2 62 1 = P
theorem FS_o {s u : gx_S} {X : Nat → Nat → Int} {c : Nat → Int} {P : Int} (o : ∀ a j, a = 62 ∨ a = 64 ∨ a = 65 ∨ a = 66 → u.1 a j = s.1 a j) (o2 : u.2 62 1 = s.2 62 1) (F : FS s X c P) : FS u X c P := ⟨(o _ _ (by omega)).trans F.1, fun z hz k => ⟨(o _ _ (by omega)).trans (F.2.1 z hz k).1, fun l hl => (o _ _ (by omega)).trans ((F.2.1 z hz k).2 l hl)⟩, fun l hl => (o _ _ (by omega)).trans (F.2.2.1 l hl), o2.trans F.2.2.2⟩
/-- it has weighed by w -/
def WS (s : gx_S) (X : Nat → Nat → Int) (w : Nat → Int) : Prop := (∀ z, z < 8 → KZ X z → s.1 68 (rk X z) = SZ X w z) ∧ s.2 62 8 = SA X w
theorem sl_13 {l Z : Nat} {w : Int} (hl : l < 4) (hZ : Z ≤ 8) : ∀ (n i : Nat) (t : gx_S), Z < n + i → i ≤ Z → t.1 62 2 = Z → (-2147483648 ≤ w * t.1 66 l ∧ w * t.1 66 l ≤ 2147483647) → ∃ u : gx_S, gm_13_2 n l w i t = some u ∧ (∀ a j, a ≠ 68 → u.1 a j = t.1 a j) ∧ (∀ j, u.1 68 j = t.1 68 j + if i ≤ j ∧ j < Z then w * t.1 65 (4 * j + l) else 0) ∧ u.2 62 8 = t.2 62 8 + w * t.1 66 l ∧ ∀ a j, ¬ (a = 62 ∧ j = 8) → u.2 a j = t.2 a j := by
  intro n
  induction n with
  | zero => intro i t h; omega
  | succ n ih =>
    intro i t h hi e2 r
    have i4 : ((l : Int)).toNat = l := by omega
    rw [gm_13_2, e2, if_pos (by omega), if_pos (by omega)]
    by_cases q : i = Z
    · rw [if_pos (by omega), if_pos (by omega), i4, if_pos r]
      refine ⟨_, rfl, fun _ _ _ => rfl, fun j => ?_, ?_, fun a j h => ?_⟩
      · rw [if_neg (show ¬ (i ≤ j ∧ j < Z) by omega), Int.add_zero]
        rfl
      · rw [gw2_2, if_pos ⟨rfl, rfl⟩]
      · rw [gw2_2, if_neg h]
    · have ce : ((i : Int) + 1) = ((i + 1 : Nat) : Int) := rfl
      have i1 : ((i : Int)).toNat = i := by omega
      have i2 : (((i : Int) * 4) + (l : Int)).toNat = 4 * i + l := by omega
      rw [if_neg (by omega), if_pos (by omega), if_pos (by omega), i1, i2, ce]
      obtain ⟨u, u1, u2, u3, u4, u5⟩ := ih (i + 1) (gw1 t 68 i (t.1 68 i + w * t.1 65 (4 * i + l))) (by omega) (by omega) (by rw [gw1_1, if_neg (by omega)]; exact e2) (by rw [gw1_1, if_neg (by omega)]; exact r)
      refine ⟨u, u1, fun a j h => by rw [u2 a j h, gw1_1, if_neg (fun x => h x.1)], fun j => ?_, ?_, fun a j h => u5 a j h⟩
      · rw [u3, gw1_1 t 68 i _ 68 j, gw1_1 t 68 i _ 65 (4 * j + l), if_neg (show ¬ ((65 : Nat) = 68 ∧ 4 * j + l = i) by omega)]
        by_cases z : j = i
        · rw [if_pos (show (68 : Nat) = 68 ∧ j = i from ⟨rfl, z⟩), if_neg (show ¬ (i + 1 ≤ j ∧ j < Z) by omega), if_pos (show i ≤ j ∧ j < Z by omega), z, Int.add_zero]
        · rw [if_neg (show ¬ ((68 : Nat) = 68 ∧ j = i) from fun x => z x.2)]
          by_cases y : i + 1 ≤ j ∧ j < Z
          · rw [if_pos y, if_pos (show i ≤ j ∧ j < Z by omega)]
          · rw [if_neg y, if_neg (show ¬ (i ≤ j ∧ j < Z) by omega)]
      · rw [u4, gw1_1, if_neg (by omega)]
        rfl
theorem sp_13 {s : gx_S} {X : Nat → Nat → Int} {c : Nat → Int} {P w : Int} {l : Nat} (F : FS s X c P) (B : XB X c P) (hl : l < 4) (hw : -9 ≤ w ∧ w ≤ 9) : ∃ u : gx_S, gm_13 l w s = some u ∧ (∀ a j, a ≠ 68 → u.1 a j = s.1 a j) ∧ (∀ z, z < 8 → KZ X z → u.1 68 (rk X z) = s.1 68 (rk X z) + w * X z l) ∧ u.2 62 8 = s.2 62 8 + w * LC X l ∧ ∀ a j, ¬ (a = 62 ∧ j = 8) → u.2 a j = s.2 a j := by
  have lr := LC_r B hl
  have e66 := F.2.2.1 l hl
  have r1 := Int.mul_le_mul_of_nonneg_right hw.1 lr.1
  have r2 := Int.mul_le_mul_of_nonneg_right hw.2 lr.1
  obtain ⟨u, u1, u2, u3, u4, u5⟩ := sl_13 (w := w) hl (rk_le X 8) 100000 0 s (by have := rk_le X 8; omega) (by omega) F.1 (by rw [e66]; omega)
  have u1 : gm_13_2 100000 l w 0 s = some u := u1
  refine ⟨u, u1, u2, fun z hz k => ?_, by rw [u4, e66], u5⟩
  have q := rk_lt X hz k
  rw [u3, if_pos ⟨by omega, q⟩, (F.2.1 z hz k).2 l hl]
theorem sl_12 {X : Nat → Nat → Int} {c : Nat → Int} {P : Int} {k a m : Nat} {w : Nat → Int} (B : XB X c P) (hk : gx_a 0 k m = true) (ha : a + 4 ≤ m) (k8 : k ≠ 68) (hw : wB9 w) : ∀ (n j : Nat) (t : gx_S), 4 < n + j → j ≤ 4 → FS t X c P → (∀ l, l < 4 → t.1 k (a + l) = w l) → (∀ z, z < 8 → KZ X z → t.1 68 (rk X z) = sg (fun l => w l * X z l) j) → t.2 62 8 = sg (fun l => w l * LC X l) j → ∃ u : gx_S, gm_12_15 n k a j t = some (SA X w, u) ∧ WS u X w ∧ (∀ b i, b ≠ 68 → u.1 b i = t.1 b i) ∧ ∀ b i, ¬ (b = 62 ∧ i = 8) → u.2 b i = t.2 b i := by
  obtain ⟨g1, g2⟩ := gx_a_p hk
  intro n
  induction n with
  | zero => intro j t h; omega
  | succ n ih =>
    intro j t h hj F ew e68 e8
    rw [gm_12_15, if_pos (by omega)]
    by_cases q : j = 4
    · rw [if_pos (by omega)]
      rw [q] at e68 e8
      exact ⟨t, by rw [e8]; rfl, ⟨e68, e8⟩, fun _ _ _ => rfl, fun _ _ _ => rfl⟩
    · have ce : ((j : Int) + 1) = ((j + 1 : Nat) : Int) := rfl
      have i2 : ((a : Int) + (j : Int)).toNat = a + j := by omega
      have wj := hw j (by omega)
      obtain ⟨v, v1, v2, v3, v4, v5⟩ := sp_13 (w := w j) (l := j) F B (by omega) (by omega)
      rw [if_neg (by omega), if_pos g1, g2, if_pos (by omega), i2, ew j (by omega), v1, Option.bind_some, ce]
      obtain ⟨u, u1, u2, u3, u4⟩ := ih (j + 1) v (by omega) (by omega) (FS_o (fun b i h => v2 b i (by omega)) (v5 _ _ (by omega)) F) (fun l hl => by rw [v2 _ _ k8]; exact ew l hl) (fun z hz y => by rw [v3 z hz y, e68 z hz y]; rfl) (by rw [v4, e8]; rfl)
      exact ⟨u, u1, u2, fun b i h => (u3 b i h).trans (v2 b i h), fun b i h => (u4 b i h).trans (v5 b i h)⟩
theorem sp_12 {s : gx_S} {X : Nat → Nat → Int} {c : Nat → Int} {P : Int} {k a m : Nat} {w : Nat → Int} (F : FS s X c P) (B : XB X c P) (hk : gx_a 0 k m = true) (ha : a + 4 ≤ m) (k8 : k ≠ 68) (hw : wB9 w) (ew : ∀ l, l < 4 → s.1 k (a + l) = w l) : ∃ u : gx_S, gm_12 k a s = some (SA X w, u) ∧ WS u X w ∧ (∀ b i, b ≠ 68 → u.1 b i = s.1 b i) ∧ ∀ b i, ¬ (b = 62 ∧ i = 8) → u.2 b i = s.2 b i := by
  obtain ⟨t, t1, t2, t3, t4⟩ := sp_235g (k := 68) (n := 8) 0 s (by decide +kernel) (by omega) (by omega)
  obtain ⟨v, hv⟩ : ∃ v, v = gw2 t 62 8 0 := ⟨_, rfl⟩
  have v1 : ∀ b i, b ≠ 68 → v.1 b i = s.1 b i := fun b i h => by rw [hv]; exact t3 b i h
  have v2 : ∀ b i, ¬ (b = 62 ∧ i = 8) → v.2 b i = s.2 b i := fun b i h => by rw [hv, gw2_2, if_neg h, t2]
  obtain ⟨u, u1, u2, u3, u4⟩ := sl_12 (w := w) B hk ha k8 hw 100000 0 v (by omega) (by omega) (FS_o (fun b i h => v1 b i (by omega)) (v2 _ _ (by omega)) F) (fun l hl => by rw [v1 _ _ k8]; exact ew l hl) (fun z hz y => by
    have q := rk_lt X hz y
    have q2 := rk_le X 8
    rw [hv]
    show t.1 68 (rk X z) = 0
    rw [t4, if_pos (by omega)]) (by rw [hv, gw2_2, if_pos ⟨rfl, rfl⟩]; rfl)
  have u1 : gm_12_15 100000 k a 0 v = some (SA X w, u) := u1
  refine ⟨u, ?_, u2, fun b i h => (u3 b i h).trans (v1 b i h), fun b i h => (u4 b i h).trans (v2 b i h)⟩
  unfold gm_12
  rw [t1, Option.bind_some, ← hv, u1]
def dfi (s : gx_S) (i : Nat) : Int := (s.1 64 i * s.2 62 8) - (s.2 62 1 * s.1 68 i)
theorem sl_14 {s : gx_S} {Z : Nat} (hZ : Z ≤ 8) (e2 : s.1 62 2 = Z) (r1 : ∀ i, i < Z → i32 (s.1 64 i) ∧ i32 (s.1 68 i) ∧ (-9223372036854775808 ≤ dfi s i ∧ dfi s i ≤ 9223372036854775807)) : ∀ (n i : Nat), Z < n + i → i ≤ Z → gm_14_4 n (sg (fun i => ab (dfi s i)) i) i s = some (sg (fun i => ab (dfi s i)) Z, s) := by
  intro n
  induction n with
  | zero => intro i h; omega
  | succ n ih =>
    intro i h hi
    rw [gm_14_4, e2, if_pos (by omega), if_pos (by omega)]
    by_cases q : i = Z
    · rw [if_pos (by omega), q]
    · have ce : ((i : Int) + 1) = ((i + 1 : Nat) : Int) := rfl
      have i1 : ((i : Int)).toNat = i := by omega
      obtain ⟨a, b, d⟩ := r1 i (by omega)
      unfold i32 at a b
      unfold dfi at d
      rw [if_neg (by omega), if_pos (by omega), i1, if_pos a, if_pos b, if_pos d, ce]
      exact ih (i + 1) (by omega) (by omega)
theorem sp_14 {s : gx_S} {X : Nat → Nat → Int} {c : Nat → Int} {P : Int} {w : Nat → Int} (F : FS s X c P) (B : XB X c P) (hw : wB9 w) (S : WS s X w) : gm_14 s = some (MS X c P w, s) := by
  have e : ∀ z, z < 8 → KZ X z → dfi s (rk X z) = c z * SA X w - P * SZ X w z := fun z hz k => by
    unfold dfi
    rw [(F.2.1 z hz k).1, S.2, F.2.2.2, S.1 z hz k]
  have st := sl_14 (rk_le X 8) F.1 (fun i hi => by
    obtain ⟨z, hz, k, rfl⟩ := rk_su X 8 i hi
    have a := B.2.1 z hz
    have b := SZ_r B hw hz
    have d := df_r B hw hz
    rw [← e z hz k] at d
    unfold i32
    rw [(F.2.1 z hz k).1, S.1 z hz k]
    omega) 100000 0 (by have := rk_le X 8; omega) (by omega)
  have st : gm_14_4 100000 0 0 s = _ := st
  unfold gm_14
  rw [st, rk_sg]
  have q : sg (fun z => if KZ X z then ab (dfi s (rk X z)) else 0) 8 = MS X c P w := sg_eq fun z hz => by
    by_cases k : KZ X z
    · rw [if_pos k, if_pos k, e z hz k]
    · rw [if_neg k, if_neg k]
  show some (sg (fun z => if KZ X z then ab (dfi s (rk X z)) else 0) 8, s) = _
  rw [q]
