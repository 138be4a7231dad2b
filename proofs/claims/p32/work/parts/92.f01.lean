/-! THE LAW'S OWN NUMBERS of its map -/
/-- the law's map at m is the map f -/
def LM (δ : dS) (m a : Nat) (f : Nat → Int) (R C : Nat) : Prop := MM δ m a f R C ∧ MP f R C ∧ f 2 = 7
theorem LM_DF {B c m a R C : Nat} {f : Nat → Int} {δ ε : dS} (x : DF B c δ ε) (hm : m + 12 < B) (ha : a < B) (M : LM δ m a f R C) : LM ε m a f R C := ⟨MM_DF x hm ha M.1, M.2⟩
theorem MP_cl {f : Nat → Int} {R C l k : Nat} (M : MP f R C) (h7 : f 2 = 7) (hl : l < 3) (hk : k < R * C) : 0 ≤ f (52 + 96 * l + 12 * (k / C) + k % C) ∧ f (52 + 96 * l + 12 * (k / C) + k % C) ≤ if l = 2 then 3 else 8 := M.2.2.2.2.2.2.2.1 l hl (by rw [h7]; rcases (show l = 0 ∨ l = 1 ∨ l = 2 by omega) with rfl | rfl | rfl <;> decide) k hk
theorem MP_N {f : Nat → Int} {R C : Nat} (M : MP f R C) : R * C ≤ 96 := Nat.mul_le_mul M.1.2.2.1 M.1.2.2.2
section
variable {L0 : Nat} {xs : Nat → Int32} {f : Nat → Int} {R C : Nat} {m a : Nat}
theorem cl_11 {x N : Nat} {F : Nat → Int} {z : Int} {δ : dS} (s : gx_S) (hA : AR δ 0 x N) (hN : N ≤ 1000) (hF : ∀ k, k < N → δ.I x k = F k) (hr : ∀ k, k < N → 0 ≤ F k ∧ F k ≤ 8) (hz : -100 ≤ z ∧ z ≤ 100) : ∀ q k : Nat, N < q + k → k ≤ N → dm_243_11 L0 xs q z (sg (fun k => bi (F k = z)) k) x N k s δ = some (sg (fun k => bi (F k = z)) N, s, δ) := by
  intro q
  induction q with
  | zero => intro k h; omega
  | succ q ih =>
    intro k h hk
    rw [dm_243_11, if_pos (by omega), if_pos (by omega)]
    by_cases e : k = N
    · rw [if_pos (by omega), e]
    · have i := ih (k + 1) (by omega) (by omega)
      rw [sg] at i
      have r := hr k (by omega)
      rw [if_neg (by omega), if_pos (AR_A hA), if_pos (AR_I hA (by omega)), Int.toNat_natCast, hF k (by omega), if_pos (by omega), if_pos (by omega)]
      by_cases q2 : F k = z
      · rw [show bi (F k = z) = 1 from if_pos q2] at i
        rw [if_neg (fun t => t q2)]
        exact i
      · rw [show bi (F k = z) = 0 from if_neg q2, Int.add_zero] at i
        rw [if_pos q2]
        exact i
theorem cells_ {x l : Nat} {z : Int} {δ : dS} (s : gx_S) (M : LM δ m a f R C) (hx : (l = 0 ∧ x = a) ∨ (l = 1 ∧ x = m + 11)) (hz : -100 ≤ z ∧ z ≤ 100) : dm_243 L0 xs x z s δ = some (NC f R C l z, s, δ) := by
  obtain ⟨⟨⟨-, -, ⟨c1, c2, c3⟩, -⟩, -, v1, v2, -⟩, P, h7⟩ := M
  have N96 := MP_N P
  unfold NC
  rw [h7]
  unfold dm_243
  rcases hx with ⟨rfl, rfl⟩ | ⟨rfl, rfl⟩
  · rw [if_pos (AR_A c1), AR_2 c1, if_pos (by decide)]
    exact cl_11 (F := fun k => f (52 + 96 * 0 + 12 * (k / C) + k % C)) s c1 (by omega) v1 (fun k hk => MP_cl (l := 0) P h7 (by omega) hk) hz 100000 0 (by omega) (by omega)
  · rw [if_pos (AR_A c2), AR_2 c2, if_pos (by decide)]
    exact cl_11 (F := fun k => f (52 + 96 * 1 + 12 * (k / C) + k % C)) s c2 (by omega) v2 (fun k hk => MP_cl (l := 1) P h7 (by omega) hk) hz 100000 0 (by omega) (by omega)
theorem sm_46 {K : Nat → Int → Int → Int → Int → Int → Int → gx_S → dS → Option (Int × DS)} {g k : Nat} {o z x5 w : Int} (b : Bool) {δ : dS} (s : gx_S) (M : LM δ m a f R C) (hg : g < 3) (hw : w = if b = true then 1 else 0) (hk : k < R * C) : dm_244_46 L0 xs K m g o z w x5 k s δ = K m g o z w (x5 + if b = true then 1 else f (32 + 4 * g + (f (52 + 96 * 2 + 12 * (k / C) + k % C)).toNat)) ((k + 1 : Nat) : Int) s δ := by
  obtain ⟨⟨⟨-, o1, ⟨c1, c2, c3⟩, -, ⟨e1, e2⟩, -, h4, h5, h6, h7', h8, -⟩, -, -, -, v3, -, v5, -⟩, P, h7⟩ := M
  unfold dm_244_46
  cases b with
  | true =>
    have hw : w = 1 := hw.trans (if_pos rfl)
    rw [if_pos (by omega), if_neg (by omega), if_pos (show true = true from rfl)]
    rfl
  | false =>
    have r := MP_cl (l := 2) P h7 (by omega) hk
    rw [if_pos rfl] at r
    have hw : w = 0 := hw.trans (if_neg (by decide))
    rw [if_neg (show ¬ (false = true) by decide), if_pos (by omega), if_pos hw, if_pos o1, h8, Option.bind_some, if_pos (AR_A e1), if_pos (AR_I e1 hg), Int.toNat_natCast, (e2 g hg).2, Option.bind_some, h6, Option.bind_some, if_pos (AR_A c3), if_pos (AR_I c3 hk), if_pos (AR_A (e2 g hg).1), Int.toNat_natCast, v3 k hk]
    obtain ⟨e, he⟩ : ∃ w : Nat, f (52 + 96 * 2 + 12 * (k / C) + k % C) = w := ⟨(f (52 + 96 * 2 + 12 * (k / C) + k % C)).toNat, by omega⟩
    rw [he, if_pos (AR_I (e2 g hg).1 (by omega)), Int.toNat_natCast, v5 g e hg (by omega)]
    rfl
theorem sm_31 {K : Nat → Int → Int → Int → Int → Int → Int → gx_S → dS → Option (Int × DS)} {g k : Nat} {o z x5 w : Int} (b : Bool) {δ : dS} (s : gx_S) (M : LM δ m a f R C) (hg : g < 3) (hw : w = if b = true then 1 else 0) (hk : k < R * C) (hz : -1 ≤ z ∧ z ≤ 8) : dm_244_31 L0 xs K m g o z w x5 k s δ = K m g o z w (x5 + if (z = -1 ∨ f (52 + 96 * 1 + 12 * (k / C) + k % C) = z) then (if b = true then 1 else f (32 + 4 * g + (f (52 + 96 * 2 + 12 * (k / C) + k % C)).toNat)) else 0) ((k + 1 : Nat) : Int) s δ := by
  have g1 := sm_46 (L0 := L0) (xs := xs) (K := K) (o := o) (z := z) (x5 := x5) b s M hg hw hk
  obtain ⟨⟨⟨-, o1, ⟨c1, c2, c3⟩, -, -, -, h4, h5, -⟩, -, -, v2, -⟩, P, h7⟩ := M
  have r := MP_cl (l := 1) P h7 (by omega) hk
  rw [if_neg (by decide)] at r
  unfold dm_244_31
  rw [if_pos (by omega)]
  by_cases q : z < 0
  · rw [if_pos q, if_pos (show (z = -1 ∨ f (52 + 96 * 1 + 12 * (k / C) + k % C) = z) by omega), g1]
  · rw [if_neg q, if_pos o1, h5, Option.bind_some, if_pos (AR_A c2), if_pos (AR_I c2 hk), Int.toNat_natCast, v2 k hk, if_pos (by omega)]
    by_cases q2 : f (52 + 96 * 1 + 12 * (k / C) + k % C) = z
    · rw [if_neg (fun t => t q2), if_pos (show (z = -1 ∨ f (52 + 96 * 1 + 12 * (k / C) + k % C) = z) from .inr q2), g1]
    · rw [if_pos q2, if_neg (show ¬ (z = -1 ∨ f (52 + 96 * 1 + 12 * (k / C) + k % C) = z) by omega), Int.add_zero]
      rfl
theorem sm_6 {g : Nat} {o z w : Int} (b : Bool) {δ : dS} (s : gx_S) (M : LM δ m a f R C) (hg : g < 3) (hw : w = if b = true then 1 else 0) (ho : -1 ≤ o ∧ o ≤ 8) (hz : -1 ≤ z ∧ z ≤ 8) {G : Nat → Int} (hG : G = fun k => if (o = -1 ∨ f (52 + 96 * 0 + 12 * (k / C) + k % C) = o) ∧ (z = -1 ∨ f (52 + 96 * 1 + 12 * (k / C) + k % C) = z) then (if b = true then 1 else f (32 + 4 * g + (f (52 + 96 * 2 + 12 * (k / C) + k % C)).toNat)) else 0) : ∀ q k : Nat, R * C < q + k → k ≤ R * C → dm_244_6 L0 xs q m g o z w (sg G k) k s δ = some (sg G (R * C), s, δ) := by
  have M' := M
  obtain ⟨⟨⟨-, o1, ⟨c1, c2, c3⟩, -, -, -, h4, -⟩, -, v1, -⟩, P, h7⟩ := M
  have N96 := MP_N P
  intro q
  induction q with
  | zero => intro k h; omega
  | succ q ih =>
    intro k h hk
    rw [dm_244_6, if_pos o1, h4, Option.bind_some, if_pos (AR_A c1), AR_2 c1, if_pos (by omega), if_pos (by omega)]
    by_cases e : k = R * C
    · rw [if_pos (by omega), e]
    · have i := ih (k + 1) (by omega) (by omega)
      rw [sg] at i
      have g1 := sm_31 (L0 := L0) (xs := xs) (K := dm_244_6 L0 xs q) (o := o) (x5 := sg G k) b s M' hg hw (show k < R * C by omega) hz
      have r := MP_cl (l := 0) P h7 (by omega) (show k < R * C by omega)
      rw [if_neg (by decide)] at r
      have Gk : G k = if (o = -1 ∨ f (52 + 96 * 0 + 12 * (k / C) + k % C) = o) ∧ (z = -1 ∨ f (52 + 96 * 1 + 12 * (k / C) + k % C) = z) then (if b = true then 1 else f (32 + 4 * g + (f (52 + 96 * 2 + 12 * (k / C) + k % C)).toNat)) else 0 := by rw [hG]
      have on : ∀ p : Prop, [Decidable p] → (o = -1 ∨ f (52 + 96 * 0 + 12 * (k / C) + k % C) = o) → (∀ w : Int, (if (o = -1 ∨ f (52 + 96 * 0 + 12 * (k / C) + k % C) = o) ∧ p then w else 0) = if p then w else 0) := fun p _ ho v => by
        by_cases hp : p
        · rw [if_pos ⟨ho, hp⟩, if_pos hp]
        · rw [if_neg (fun t => hp t.2), if_neg hp]
      rw [if_neg (by omega), if_pos (by omega)]
      by_cases q1 : o < 0
      · rw [Gk, on _ (.inl (by omega))] at i
        rw [if_pos q1, g1]
        exact i
      · rw [if_neg q1, Option.bind_some, if_pos (AR_A c1), if_pos (AR_I c1 (show k < R * C by omega)), Int.toNat_natCast, v1 k (by omega), if_pos (by omega)]
        by_cases q2 : f (52 + 96 * 0 + 12 * (k / C) + k % C) = o
        · rw [Gk, on _ (.inr q2)] at i
          rw [if_neg (fun t => t q2), g1]
          exact i
        · rw [Gk, if_neg (fun t => by have := t.1; omega), Int.add_zero] at i
          rw [if_pos q2]
          exact i
theorem sum_ {g : Nat} {o z w : Int} (b : Bool) {δ : dS} (s : gx_S) (M : LM δ m a f R C) (hg : g < 3) (ho : -1 ≤ o ∧ o ≤ 8) (hz : -1 ≤ z ∧ z ≤ 8) (hw : w = if b = true then 1 else 0) : dm_244 L0 xs m g o z w s δ = some (SO f R C g o z b, s, δ) := by
  have N96 := MP_N M.2.1
  unfold dm_244
  exact sm_6 b s M hg hw ho hz rfl 100000 0 (by omega) (by omega)
theorem un_12 {g : Nat} {δ : dS} (s : gx_S) (M : LM δ m a f R C) (hg : g < 3) {G : Nat → Int} (hG : G = fun z => if 0 < NC f R C 0 (z : Nat) then 0 else f (5 + 9 * g + z)) : ∀ (q k : Nat), 8 < q + k → k ≤ 8 → dm_246_12 L0 xs q m g (f (5 + 9 * g + 8) + sg G k) k s δ = some (f (5 + 9 * g + 8) + sg G 8, s, δ) := by
  have M' := M
  obtain ⟨⟨⟨-, o1, ⟨c1, c2, c3⟩, ⟨d1, d2⟩, -, -, h4, h5, h6, h7', -⟩, -, v1, -, -, v4, -⟩, P, h7⟩ := M
  intro q
  induction q with
  | zero => intro k h; omega
  | succ q ih =>
    intro k h hk
    rw [dm_246_12, if_pos (by omega)]
    by_cases e : k = 8
    · rw [if_pos (by omega), e]
    · have i := ih (k + 1) (by omega) (by omega)
      rw [sg, hG] at i
      dsimp only at i
      have nn_ := NC_nn f R C 0 (k : Nat)
      have n96 : (R : Int) * C ≤ 96 := by have := MP_N P; rw [← Int.natCast_mul]; omega
      rw [if_neg (by omega), if_pos o1, h4, Option.bind_some, cells_ s M' (.inl ⟨rfl, rfl⟩) (by omega), Option.bind_some]
      dsimp only
      rw [if_pos (by omega)]
      by_cases q1 : NC f R C 0 (k : Nat) = 0
      · rw [if_neg (show ¬ (0 < NC f R C 0 (k : Nat)) by omega), ← Int.add_assoc] at i
        rw [if_neg (fun t => t q1), if_pos o1, h7', Option.bind_some, if_pos (AR_A d1), if_pos (AR_I d1 hg), Int.toNat_natCast, (d2 g hg).2, Option.bind_some, if_pos (AR_A (d2 g hg).1), if_pos (AR_I (d2 g hg).1 (by omega)), Int.toNat_natCast, v4 g k hg (by omega), hG]
        exact i
      · rw [if_pos (show 0 < NC f R C 0 (k : Nat) by omega), Int.add_zero] at i
        rw [if_pos q1, hG]
        exact i
theorem unknown_ {g : Nat} {δ : dS} (s : gx_S) (M : LM δ m a f R C) (hg : g < 3) : dm_246 L0 xs m g s δ = some (UN f R C g, s, δ) := by
  have i := un_12 (L0 := L0) (xs := xs) s M hg rfl 100000 0 (by omega) (by omega)
  obtain ⟨⟨⟨-, o1, ⟨c1, c2, c3⟩, ⟨d1, d2⟩, -, -, h4, h5, h6, h7', -⟩, -, v1, -, -, v4, -⟩, P, h7⟩ := M
  rw [sg, Int.add_zero] at i
  unfold dm_246
  rw [if_pos o1, h7', Option.bind_some, if_pos (AR_A d1), if_pos (AR_I d1 hg), Int.toNat_natCast, (d2 g hg).2, Option.bind_some, if_pos (AR_A (d2 g hg).1), if_pos (show dI δ (m + 2 + g) 8 from AR_I (d2 g hg).1 (show 8 < 9 by omega)), show ((8 : Int)).toNat = 8 from rfl, v4 g 8 hg (by omega)]
  exact i
theorem ho_10 {δ : dS} (s : gx_S) (M : LM δ m a f R C) : ∀ (q k : Nat), R * C < q + k → k ≤ R * C → (∀ i, i < k → f (52 + 96 * 0 + 12 * (i / C) + i % C) = 8) → dm_247_10 L0 xs q a (R * C : Nat) k s δ = some (if 0 < KD f R C 0 8 then 1 else 0, s, δ) := by
  obtain ⟨⟨⟨-, o1, ⟨c1, c2, c3⟩, -, -, -, h4, -⟩, -, v1, -⟩, P, h7⟩ := M
  have N96 := MP_N P
  intro q
  induction q with
  | zero => intro k h; omega
  | succ q ih =>
    intro k h hk all
    rw [dm_247_10, if_pos (by omega), if_pos (by omega)]
    by_cases e : k = R * C
    · have z : KD f R C 0 8 = 0 := sg_0 fun x hx => by
        refine if_neg ?_
        have e0 : sg (fun k => bi (f (52 + 96 * 0 + 12 * (k / C) + k % C) = (x : Nat))) (R * C) = 0 := sg_0 fun i hi => if_neg (by rw [all i (by omega)]; omega)
        unfold NC
        rw [h7, if_pos (by decide), e0]
        omega
      rw [if_pos (by omega), z, if_neg (by omega)]
    · have r := MP_cl (l := 0) P h7 (by omega) (show k < R * C by omega)
      rw [if_neg (by decide)] at r
      rw [if_neg (by omega), if_pos (AR_A c1), if_pos (AR_I c1 (by omega)), Int.toNat_natCast, v1 k (by omega), if_pos (by omega)]
      by_cases q1 : 8 ≤ f (52 + 96 * 0 + 12 * (k / C) + k % C)
      · rw [if_pos q1]
        exact ih (k + 1) (by omega) (by omega) (fun i hi => by
          by_cases q2 : i = k
          · rw [q2]; omega
          · exact all i (by omega))
      · have p := NC_p (l := 0) (k := k) (f := f) (R := R) (C := C) (by rw [h7]; decide) (by omega)
        obtain ⟨w, hw⟩ : ∃ w : Nat, f (52 + 96 * 0 + 12 * (k / C) + k % C) = w := ⟨(f (52 + 96 * 0 + 12 * (k / C) + k % C)).toNat, by omega⟩
        rw [hw] at p
        have z : 0 < KD f R C 0 8 := sg_pos (f := fun z => bi (0 < NC f R C 0 (z : Nat))) (i := w) (fun _ _ => (bi_r _).1) (by omega) (by rw [show bi (0 < NC f R C 0 (w : Nat)) = 1 from if_pos p]; omega)
        rw [if_neg q1, if_pos z]
theorem hasOld_ {δ : dS} (s : gx_S) (M : LM δ m a f R C) : dm_247 L0 xs m s δ = some (if 0 < KD f R C 0 8 then 1 else 0, s, δ) := by
  have i := ho_10 (L0 := L0) (xs := xs) s M 100000 0 (by have := MP_N M.2.1; omega) (by omega) (fun i hi => by omega)
  obtain ⟨⟨⟨-, o1, ⟨c1, c2, c3⟩, -, -, -, h4, -⟩, -⟩, -⟩ := M
  unfold dm_247
  rw [if_pos o1, h4, Option.bind_some, if_pos (AR_A c1), AR_2 c1]
  exact i
theorem aside_ {g : Nat} {δ : dS} (s : gx_S) (M : LM δ m a f R C) (hg : g < 3) : dm_249 L0 xs m g s δ = some (ASf f R C g, s, δ) := by
  have u := unknown_ (L0 := L0) (xs := xs) s M hg
  have ho := hasOld_ (L0 := L0) (xs := xs) s M
  have ur := UN_r M.2.1 hg
  have f4 := M.2.1.2.2.2.1
  obtain ⟨⟨⟨-, o1, -⟩, ⟨-, -, -, i3⟩, -⟩, P, h7⟩ := M
  have a19 : dm_249_19 L0 xs m g s δ = some (UN f R C g, s, δ) := by
    unfold dm_249_19
    rw [u, Option.bind_some]
    dsimp only
    rw [if_pos (by omega)]
  unfold dm_249 ASf
  rw [if_pos o1, i3, if_pos (by omega)]
  by_cases q : f 4 = 1
  · rw [if_neg (fun t => t q), ho, Option.bind_some]
    dsimp only
    by_cases q2 : 0 < KD f R C 0 8
    · rw [if_pos q2, if_pos (by omega), if_neg (by omega), if_pos ⟨q, q2⟩]
    · rw [if_neg q2, if_pos (by omega), if_pos rfl, if_neg (fun t => q2 t.2)]
      exact a19
  · rw [if_pos q, if_neg (fun t => q t.1)]
    exact a19
/-- an array's sum -/
theorem wh_11 {x N : Nat} {F : Nat → Int} {δ : dS} (s : gx_S) (hA : AR δ 0 x N) (hN : N ≤ 1000) (hF : ∀ k, k < N → δ.I x k = F k) (hr : ∀ k, k < N → i32 (F k)) : ∀ q k : Nat, N < q + k → k ≤ N → dm_253_11 L0 xs q (sg F k) x N k s δ = some (sg F N, s, δ) := by
  intro q
  induction q with
  | zero => intro k h; omega
  | succ q ih =>
    intro k h hk
    rw [dm_253_11, if_pos (by omega), if_pos (by omega)]
    by_cases e : k = N
    · rw [if_pos (by omega), e]
    · have i := ih (k + 1) (by omega) (by omega)
      rw [sg] at i
      have r := hr k (by omega)
      unfold i32 at r
      rw [if_neg (by omega), if_pos (AR_A hA), if_pos (AR_I hA (by omega)), Int.toNat_natCast, hF k (by omega), if_pos r]
      exact i
theorem whole_ {x N : Nat} {F : Nat → Int} {δ : dS} (s : gx_S) (hA : AR δ 0 x N) (hN : N ≤ 1000) (hF : ∀ k, k < N → δ.I x k = F k) (hr : ∀ k, k < N → i32 (F k)) : dm_253 L0 xs x s δ = some (sg F N, s, δ) := by
  unfold dm_253
  rw [if_pos (AR_A hA), AR_2 hA]
  exact wh_11 s hA hN hF hr 100000 0 (by omega) (by omega)
/-- the greatest common divisor -/
theorem dv_f (s : gx_S) (δ : dS) : ∀ (n fu p q a b : Nat), Fb n p q = true → b < a → (b < p ∨ a < q) → n < fu → a ≤ 9000000000000000000 → dm_251f L0 xs fu a b s δ = some (((Nat.gcd a b : Nat) : Int), s, δ) := by
  intro n
  induction n with
  | zero =>
    intro fu p q a b h hb hh hf ha
    obtain ⟨fu, rfl⟩ : ∃ m, fu = m + 1 := ⟨fu - 1, by omega⟩
    have h : (p == 1 && q == 1) = true := h
    rw [Bool.and_eq_true, beq_iff_eq, beq_iff_eq] at h
    have b0 : b = 0 := by omega
    subst b0
    rw [dm_251f, Nat.gcd_zero_right, if_pos (by decide), if_neg (show ¬ ¬ ((0 : Nat) : Int) = 0 from fun t => t rfl)]
  | succ n ih =>
    intro fu p q a b h hb hh hf ha
    obtain ⟨fu, rfl⟩ : ∃ m, fu = m + 1 := ⟨fu - 1, by omega⟩
    have h : (decide (p ≤ q) && Fb n (q - p) p) = true := h
    rw [Bool.and_eq_true, decide_eq_true_eq] at h
    rw [dm_251f, if_pos (by omega)]
    by_cases b0 : b = 0
    · subst b0
      rw [Nat.gcd_zero_right, if_neg (show ¬ ¬ ((0 : Nat) : Int) = 0 from fun t => t rfl)]
    · have e1 : (a : Int) % (b : Int) = ((a % b : Nat) : Int) := rfl
      have m1 := Nat.mod_lt a (Nat.pos_of_ne_zero b0)
      have g1 : Nat.gcd a b = Nat.gcd b (a % b) := by rw [Nat.gcd_comm a b, Nat.gcd_rec b a, Nat.gcd_comm]
      have ab : b + a % b ≤ a := by
        have d := Nat.div_add_mod a b
        have d1 : 1 ≤ a / b := (Nat.one_le_div_iff (Nat.pos_of_ne_zero b0)).mpr (by omega)
        have d2 := Nat.mul_le_mul_left b d1
        omega
      rw [if_pos (show ¬ (b : Int) = 0 by omega), if_pos (by omega), e1, g1, ih fu (q - p) p b (a % b) h.2 m1 (by omega) (by omega) (by omega), Option.bind_some]
theorem divisor_ {a b : Nat} (s : gx_S) (δ : dS) (ha : a ≤ 9000000000000000000) (hb : b ≤ 20000000000000000) : dm_251 L0 xs a b s δ = some (((Nat.gcd a b : Nat) : Int), s, δ) := by
  unfold dm_251
  rw [show (100 : Nat) = 99 + 1 from rfl, dm_251f, if_pos (by omega)]
  by_cases b0 : b = 0
  · subst b0
    rw [Nat.gcd_zero_right, if_neg (show ¬ ¬ ((0 : Nat) : Int) = 0 from fun t => t rfl)]
  · have e1 : (a : Int) % (b : Int) = ((a % b : Nat) : Int) := rfl
    have m1 := Nat.mod_lt a (Nat.pos_of_ne_zero b0)
    have g1 : Nat.gcd a b = Nat.gcd b (a % b) := by rw [Nat.gcd_comm a b, Nat.gcd_rec b a, Nat.gcd_comm]
    rw [if_pos (show ¬ (b : Int) = 0 by omega), if_pos (by omega), e1, g1, dv_f s δ 78 99 14472334024676221 23416728348467685 b (a % b) (by decide +kernel) m1 (.inr (by omega)) (by omega) (by omega), Option.bind_some]
/-- the parts: eight rows of nine at p -/
def PTs (δ : dS) (p : Nat) : Prop := AR δ 6 p 8 ∧ ∀ z, z < 8 → δ.P p z = some (p + 1 + z) ∧ AR δ 0 (p + 1 + z) 9
theorem PTs_WM {δ ε : dS} {p lo hi : Nat} (w : WM δ ε lo hi) (h : PTs δ p) : PTs ε p := by
  have hP : ε.P = δ.P := w.1
  have hs : ε.sh = δ.sh := w.2.1
  have hn : ε.n = δ.n := w.2.2.1
  simp only [PTs, AR, hP, hs, hn]
  exact h
theorem PTs_DF {B c p : Nat} {δ ε : dS} (x : DF B c δ ε) (hp : p < B) (h : PTs δ p) : PTs ε p := ⟨AR_DF x h.1, fun z hz => ⟨((x.2.1 p hp).2 z).trans (h.2 z hz).1, AR_DF x (h.2 z hz).2⟩⟩
theorem pt_38 {K : Nat → Int → Nat → Int → gx_S → dS → Option (Nat × DS)} {g z p : Nat} {w : Int} (b : Bool) (s : gx_S) (hg : g < 3) (hz : z < 8) (hw : w = if b = true then 1 else 0) (hm : m + 12 < p) (ha : a < p) : ∀ (q n : Nat) (δ : dS), 9 < q + n → n ≤ 9 → LM δ m a f R C → PTs δ p → ∃ ε : dS, dm_250_38 L0 xs K q m g p z w n s δ = K m g p ((z + 1 : Nat) : Int) s ε ∧ WM δ ε (p + 1 + z) (p + 2 + z) ∧ (∀ j, n ≤ j → j < 9 → ε.I (p + 1 + z) j = SO f R C g z j b) ∧ ∀ j, j < n → ε.I (p + 1 + z) j = δ.I (p + 1 + z) j := by
  intro q
  induction q with
  | zero => intro n δ h; omega
  | succ q ih =>
    intro n δ h hn M T
    rw [dm_250_38, if_pos (by omega)]
    by_cases e : n = 9
    · rw [if_pos (by omega)]
      exact ⟨δ, rfl, WM_rf _ _ _, fun j h1 h2 => by omega, fun _ _ => rfl⟩
    · obtain ⟨t1, t2⟩ := T.2 z hz
      have w1 : WM δ (δ.w (p + 1 + z) n (SO f R C g z n b)) (p + 1 + z) (p + 2 + z) := WM_w δ n _ (by omega)
      obtain ⟨ε, e1, e2, e3, e4⟩ := ih (n + 1) (δ.w (p + 1 + z) n (SO f R C g z n b)) (by omega) (by omega) (LM_DF (DF_WM (Nat.le_refl _) w1) (by omega) (by omega) M) (PTs_WM w1 T)
      refine ⟨ε, ?_, WM_tr w1 e2, fun j h1 h2 => ?_, fun j hj => ?_⟩
      · rw [if_neg (by omega), if_pos (AR_A T.1), if_pos (AR_I T.1 hz), Int.toNat_natCast, t1, Option.bind_some, sum_ b s M hg (by omega) (by omega) hw, Option.bind_some]
        dsimp only
        rw [if_pos (AR_A t2), if_pos (AR_I t2 (by omega)), Int.toNat_natCast, Option.bind_some]
        exact e1
      · by_cases q1 : j = n
        · rw [e4 j (by omega), dw_I, if_pos ⟨rfl, q1⟩, q1]
        · exact e3 j (by omega) h2
      · rw [e4 j (by omega), dw_I, if_neg (by omega)]
theorem pt_11 {g p : Nat} (s : gx_S) (hg : g < 3) (hm : m + 12 < p) (ha : a < p) : ∀ (q z : Nat) (δ : dS), 8 < q + z → z ≤ 8 → LM δ m a f R C → PTs δ p → ∃ ε : dS, dm_250_11 L0 xs q m g p z s δ = some (p, s, ε) ∧ WM δ ε (p + 1) (p + 9) ∧ (∀ i j, z ≤ i → i < 8 → j < 9 → ε.I (p + 1 + i) j = PMV f R C g i j) ∧ ∀ i j, i < z → ε.I (p + 1 + i) j = δ.I (p + 1 + i) j := by
  intro q
  induction q with
  | zero => intro z δ h; omega
  | succ q ih =>
    intro z δ h hz M T
    rw [dm_250_11, if_pos (by omega)]
    by_cases e : z = 8
    · rw [if_pos (by omega)]
      exact ⟨δ, rfl, WM_rf _ _ _, fun i j h1 h2 => by omega, fun _ _ _ => rfl⟩
    · have sr := SO_r M.2.1 M.2.2 hg z (-1) false
      obtain ⟨b, hb⟩ : ∃ b, b = decide (SO f R C g z (-1) false = 0) := ⟨_, rfl⟩
      obtain ⟨ε, e1, e2, e3, e4⟩ := pt_38 (L0 := L0) (xs := xs) (K := dm_250_11 L0 xs q) (f := f) (R := R) (C := C) (m := m) (a := a) (w := if b = true then 1 else 0) b s hg (show z < 8 by omega) rfl hm ha 100000 0 δ (by omega) (by omega) M T
      have e2' := WM_mono (lo' := p + 1) (hi' := p + 9) (by omega) e2
      obtain ⟨ζ, z1, z2, z3, z4⟩ := ih (z + 1) ε (by omega) (by omega) (LM_DF (DF_WM (Nat.le_refl _) e2') (by omega) (by omega) M) (PTs_WM e2 T)
      refine ⟨ζ, ?_, WM_tr e2' z2, fun i j h1 h2 h3 => ?_, fun i j hi => ?_⟩
      · rw [if_neg (by omega), sum_ (o := (z : Int)) (z := -1) (w := 0) false s M hg (by omega) (by omega) (if_neg (by decide)).symm, Option.bind_some]
        dsimp only
        rw [if_pos (by omega)]
        by_cases q1 : SO f R C g z (-1) false = 0
        · have hb' : b = true := by rw [hb]; exact decide_eq_true q1
          rw [hb', if_pos rfl] at e1
          rw [if_neg (fun t => t q1)]
          exact e1.trans z1
        · have hb' : b = false := by rw [hb]; exact decide_eq_false q1
          rw [hb', if_neg (by decide)] at e1
          rw [if_pos q1]
          exact e1.trans z1
      · by_cases q1 : i = z
        · rw [z4 i j (by omega), q1, e3 j (by omega) h3, hb]
          rfl
        · exact z3 i j (by omega) h2 h3
      · rw [z4 i j (by omega), e2.2.2.2 _ _ (by omega)]
theorem parts_ {g : Nat} {δ : dS} (s : gx_S) (M : LM δ m a f R C) (hg : g < 3) : ∃ ε : dS, dm_250 L0 xs m g s δ = some (δ.n, s, ε) ∧ PTs ε δ.n ∧ (∀ i j, i < 8 → j < 9 → ε.I (δ.n + 1 + i) j = PMV f R C g i j) ∧ DF δ.n 9 δ ε := by
  obtain ⟨m0, m1, m2, m3⟩ := M.1.1.1
  obtain ⟨X, hX⟩ : ∃ X, X = δ.mu 8 9 := ⟨_, rfl⟩
  have f1 : DF δ.n 9 δ X := by rw [hX]; exact DF_mu δ 8 9 (Nat.le_refl _) (by omega) (by omega)
  have T : PTs X δ.n := by
    rw [hX]
    refine ⟨⟨by omega, by rw [du_n]; omega, by rw [du_sh, if_pos rfl]⟩, fun z hz => ⟨by rw [du_P, if_pos rfl, if_pos hz], by omega, by rw [du_n]; omega, by rw [du_sh, if_neg (by omega), if_pos (by omega)]⟩⟩
  obtain ⟨ε, e1, e2, e3, -⟩ := pt_11 (L0 := L0) (xs := xs) (p := δ.n) s hg m1 m2 100000 0 X (by omega) (by omega) (LM_DF f1 m1 m2 M) T
  refine ⟨ε, ?_, PTs_WM e2 T, fun i j hi hj => e3 i j (by omega) hi hj, DF_c (DF_tr f1 (DF_WM (by omega) e2)) (by omega)⟩
  unfold dm_250
  rw [Option.bind_some, show ((8 : Int)).toNat = 8 from rfl, show ((9 : Int)).toNat = 9 from rfl, ← hX]
  exact e1
end
