/-! TEXTS: a number behind -/
def dgl (y : Nat) : Nat := if y < 10 then 1 else if y < 100 then 2 else if y < 1000 then 3 else if y < 10000 then 4 else if y < 100000 then 5 else 6
theorem dgl_r (y : Nat) : 1 ≤ dgl y ∧ dgl y ≤ 6 := by
  unfold dgl
  (repeat' split) <;> omega
theorem dgl_100 {y : Nat} (h : 100 ≤ y) (h6 : y < 1000000) : dgl y = dgl (y / 100) + 2 := by
  unfold dgl
  (repeat' split) <;> omega
/-- the digit at place j from the right -/
def dj (y j : Nat) : Int := ((48 + y / 10 ^ j % 10 : Nat) : Int)
theorem dj_r (y j : Nat) : 48 ≤ dj y j ∧ dj y j ≤ 57 := by
  unfold dj
  omega
theorem dj_2 (y j : Nat) : dj (y / 100) j = dj y (j + 2) := by
  unfold dj
  rw [Nat.div_div_eq_div_mul, Nat.pow_add, Nat.mul_comm 100]
theorem dz1_n : ∀ k : Nat, k < 100 → (dz_1 k).toInt = ((48 + k % 10 : Nat) : Int) := by decide +kernel
theorem dz2_n : ∀ k : Nat, k < 100 → (dz_2 k).toInt = ((48 + k / 10 : Nat) : Int) := by decide +kernel
/-- how many signs a number has -/
def dln (x : Int) : Nat := if x < 0 then dgl (-x).toNat + 1 else dgl x.toNat
theorem dln_r (x : Int) : 1 ≤ dln x ∧ dln x ≤ 7 := by
  have a := dgl_r (-x).toNat
  have b := dgl_r x.toNat
  unfold dln
  split <;> omega
theorem ss_16 {y : Nat} {d : Int} (hy : y < 1000000) (hd : d = 0 ∨ d = 1) (s : gx_S) (δ : dS) (k : Nat) : dm_274_16 (k + 6) (-(y : Int)) d (-10) 1 s δ = some ((dgl y : Int) + d, s, δ) := by
  unfold dgl
  rw [dm_274_16, if_pos (by omega), if_neg (by omega), if_pos (by omega), if_pos (by omega)]
  by_cases q1 : y < 10
  · rw [if_neg (by omega), if_pos q1]
    rfl
  · rw [if_pos (by omega), if_neg q1, dm_274_16, if_pos (by omega), if_neg (by omega), if_pos (by omega), if_pos (by omega)]
    by_cases q2 : y < 100
    · rw [if_neg (by omega), if_pos q2]
      rfl
    · rw [if_pos (by omega), if_neg q2, dm_274_16, if_pos (by omega), if_neg (by omega), if_pos (by omega), if_pos (by omega)]
      by_cases q3 : y < 1000
      · rw [if_neg (by omega), if_pos q3]
        rfl
      · rw [if_pos (by omega), if_neg q3, dm_274_16, if_pos (by omega), if_neg (by omega), if_pos (by omega), if_pos (by omega)]
        by_cases q4 : y < 10000
        · rw [if_neg (by omega), if_pos q4]
          rfl
        · rw [if_pos (by omega), if_neg q4, dm_274_16, if_pos (by omega), if_neg (by omega), if_pos (by omega), if_pos (by omega)]
          by_cases q5 : y < 100000
          · rw [if_neg (by omega), if_pos q5]
            rfl
          · rw [if_pos (by omega), if_neg q5, dm_274_16, if_pos (by omega), if_neg (by omega), if_pos (by omega), if_pos (by omega), if_neg (by omega)]
            rfl
theorem ss_ {x : Int} (hx : -1000000 < x ∧ x < 1000000) (s : gx_S) (δ : dS) : dm_274 x s δ = some ((dln x : Int), s, δ) := by
  unfold dm_274 dm_274_11 dln
  rw [if_pos (by omega)]
  by_cases q : x < 0
  · have e := ss_16 (y := (-x).toNat) (d := 1) (by omega) (.inr rfl) s δ 99994
    rw [show (-(((-x).toNat : Nat) : Int)) = x by omega] at e
    rw [if_pos q, if_pos q]
    exact e
  · have e := ss_16 (y := x.toNat) (d := 0) (by omega) (.inl rfl) s δ 99994
    rw [show (-((x.toNat : Nat) : Int)) = -x by omega, Int.add_zero] at e
    rw [if_neg q, if_neg q]
    exact e
/-- places of one array are written, all else stays -/
def WR (δ ε : dS) (v lo hi : Nat) : Prop := ε.P = δ.P ∧ ε.sh = δ.sh ∧ ε.n = δ.n ∧ ∀ a j, ¬ (a = v ∧ lo ≤ j ∧ j < hi) → ε.I a j = δ.I a j
theorem WR_rf (δ : dS) (v lo hi : Nat) : WR δ δ v lo hi := ⟨rfl, rfl, rfl, fun _ _ _ => rfl⟩
theorem WR_tr {δ ε ζ : dS} {v lo hi : Nat} (x : WR δ ε v lo hi) (y : WR ε ζ v lo hi) : WR δ ζ v lo hi := ⟨y.1.trans x.1, y.2.1.trans x.2.1, y.2.2.1.trans x.2.2.1, fun a j h => (y.2.2.2 a j h).trans (x.2.2.2 a j h)⟩
theorem WR_w {v lo hi j : Nat} (δ : dS) (x : Int) (h : lo ≤ j ∧ j < hi) : WR δ (δ.w v j x) v lo hi := ⟨rfl, rfl, rfl, fun a i q => by rw [dw_I, if_neg (fun t => q ⟨t.1, by omega, by omega⟩)]⟩
theorem WR_mono {δ ε : dS} {v lo hi lo' hi' : Nat} (h : lo' ≤ lo ∧ hi ≤ hi') (x : WR δ ε v lo hi) : WR δ ε v lo' hi' := ⟨x.1, x.2.1, x.2.2.1, fun a j q => x.2.2.2 a j fun t => q ⟨t.1, by omega, by omega⟩⟩
theorem dA_WR {δ ε : dS} {v lo hi t k : Nat} (x : WR δ ε v lo hi) (h : dA δ t k) : dA ε t k := ⟨h.1, by rw [x.2.2.1]; exact h.2.1, by rw [x.2.1]; exact h.2.2⟩
theorem gc_22 {v : Nat} {x6 : Int} (s : gx_S) : ∀ (m y p : Nat) (δ : dS), y < 1000000 → dgl y < 2 * m → dA δ 3 v → p + dgl y ≤ (δ.sh v).2 → p + dgl y ≤ 100000 → ∃ ε : dS, dm_275_22 m (-(y : Int)) v ((p + dgl y : Nat) : Int) x6 s δ = dm_275_104 v (p : Int) x6 s ε ∧ WR δ ε v p (p + dgl y) ∧ ∀ j, j < dgl y → ε.I v (p + dgl y - 1 - j) = dj y j := by
  intro m
  induction m with
  | zero => intro y p δ _ h; omega
  | succ m ih =>
    intro y p δ hy hm hA hl hp
    have g1 := dgl_r y
    rw [dm_275_22, if_pos (by omega)]
    by_cases q : 100 ≤ y
    · have e2 := dgl_100 q hy
      have r1 : (-((-(-(y : Int))) / 100)) * 100 - (-(y : Int)) = ((y % 100 : Nat) : Int) := by omega
      have r2 : -((-(-(y : Int))) / 100) = -((y / 100 : Nat) : Int) := by omega
      have z1 := dz1_n (y % 100) (by omega)
      have z2 := dz2_n (y % 100) (by omega)
      have k1 : ((p + dgl y : Nat) : Int) + (-1) = ((p + dgl y - 1 : Nat) : Int) := by omega
      have k2 : ((p + dgl y - 1 : Nat) : Int) + (-1) = ((p + dgl (y / 100) : Nat) : Int) := by omega
      obtain ⟨δ1, h1⟩ : ∃ δ1, δ1 = δ.w v (p + dgl y - 1) (((48 + y % 100 % 10 : Nat) : Int)) := ⟨_, rfl⟩
      obtain ⟨δ2, h2⟩ : ∃ δ2, δ2 = δ1.w v (p + dgl (y / 100)) (((48 + y % 100 / 10 : Nat) : Int)) := ⟨_, rfl⟩
      have w1 : WR δ δ1 v p (p + dgl y) := by rw [h1]; exact WR_w δ _ (by omega)
      have w2 : WR δ1 δ2 v p (p + dgl y) := by rw [h2]; exact WR_w δ1 _ (by omega)
      have A1 := dA_WR w1 hA
      rw [if_neg (by omega), if_pos (by omega), r1, if_pos (by omega), if_pos hA, k1, if_pos ⟨by omega, by omega⟩, Option.bind_some, show (((y % 100 : Nat) : Int)).toNat = y % 100 by omega, z1, z2, gn3_i (by omega), gn3_i (by omega), show (((p + dgl y - 1 : Nat) : Int)).toNat = p + dgl y - 1 by omega, ← h1, if_pos A1, k2, if_pos ⟨by omega, by rw [w1.2.1]; omega⟩, Option.bind_some, show (((p + dgl (y / 100) : Nat) : Int)).toNat = p + dgl (y / 100) by omega, ← h2, r2]
      obtain ⟨ε, e1, e3, e4⟩ := ih (y / 100) p δ2 (by omega) (by omega) (dA_WR w2 A1) (by rw [w2.2.1, w1.2.1]; omega) (by omega)
      refine ⟨ε, e1, WR_tr w1 (WR_tr w2 (WR_mono ⟨Nat.le_refl p, by omega⟩ e3)), fun j hj => ?_⟩
      by_cases j0 : j = 0
      · rw [e3.2.2.2 _ _ (by omega), h2, dw_I, if_neg (by omega), h1, dw_I, if_pos ⟨rfl, by omega⟩, j0]
        unfold dj
        rw [Nat.pow_zero, Nat.div_one]
        omega
      · by_cases j1 : j = 1
        · rw [e3.2.2.2 _ _ (by omega), h2, dw_I, if_pos ⟨rfl, by omega⟩, j1]
          unfold dj
          rw [Nat.pow_one]
          omega
        · have := e4 (j - 2) (by omega)
          rw [dj_2, show j - 2 + 2 = j by omega, show p + dgl (y / 100) - 1 - (j - 2) = p + dgl y - 1 - j by omega] at this
          exact this
    · have z1 := dz1_n y (by omega)
      have z2 := dz2_n y (by omega)
      have n1 : -(-(y : Int)) = (y : Int) := by omega
      have k1 : ((p + dgl y : Nat) : Int) + (-1) = ((p + dgl y - 1 : Nat) : Int) := by omega
      obtain ⟨δ1, h1⟩ : ∃ δ1, δ1 = δ.w v (p + dgl y - 1) (((48 + y % 10 : Nat) : Int)) := ⟨_, rfl⟩
      have w1 : WR δ δ1 v p (p + dgl y) := by rw [h1]; exact WR_w δ _ (by omega)
      have A1 := dA_WR w1 hA
      rw [if_pos (by omega), n1, if_pos (by omega), if_pos hA, k1, if_pos ⟨by omega, by omega⟩, Option.bind_some, show ((y : Int)).toNat = y by omega, z1, z2, gn3_i (by omega), show (((p + dgl y - 1 : Nat) : Int)).toNat = p + dgl y - 1 by omega, ← h1]
      by_cases q2 : y < 10
      · have d1 : dgl y = 1 := if_pos q2
        rw [if_pos (by omega)]
        refine ⟨δ1, by rw [show p + dgl y - 1 = p by omega], w1, fun j hj => ?_⟩
        rw [h1, dw_I, if_pos ⟨rfl, by omega⟩, show j = 0 by omega]
        unfold dj
        rw [Nat.pow_zero, Nat.div_one]
      · have d2 : dgl y = 2 := by unfold dgl; rw [if_neg q2, if_pos (by omega)]
        have k2 : ((p + dgl y - 1 : Nat) : Int) + (-1) = (p : Int) := by omega
        obtain ⟨δ2, h2⟩ : ∃ δ2, δ2 = δ1.w v p (((48 + y / 10 : Nat) : Int)) := ⟨_, rfl⟩
        have w2 : WR δ1 δ2 v p (p + dgl y) := by rw [h2]; exact WR_w δ1 _ (by omega)
        rw [if_neg (by omega), if_pos A1, k2, if_pos ⟨by omega, by rw [w1.2.1]; omega⟩, Option.bind_some, gn3_i (by omega), show ((p : Int)).toNat = p by omega, ← h2]
        refine ⟨δ2, rfl, WR_tr w1 w2, fun j hj => ?_⟩
        by_cases j0 : j = 0
        · rw [h2, dw_I, if_neg (by omega), h1, dw_I, if_pos ⟨rfl, by omega⟩, j0]
          unfold dj
          rw [Nat.pow_zero, Nat.div_one]
        · rw [h2, dw_I, if_pos ⟨rfl, by omega⟩, show j = 1 by omega]
          unfold dj
          rw [Nat.pow_one]
          omega
/-- the sign at place j from the right -/
def dby (x : Int) (j : Nat) : Int := if x < 0 then (if j < dgl (-x).toNat then dj (-x).toNat j else 45) else dj x.toNat j
theorem dby_r (x : Int) (j : Nat) : 0 ≤ dby x j ∧ dby x j < 128 := by
  have a := dj_r (-x).toNat j
  have b := dj_r x.toNat j
  unfold dby
  split
  · split <;> omega
  · omega
theorem gc_ {x : Int} {v p : Nat} {δ : dS} (hx : -1000000 < x ∧ x < 1000000) (s : gx_S) (hA : dA δ 3 v) (hl : p + dln x ≤ (δ.sh v).2) (hp : p + dln x ≤ 100000) : ∃ ε : dS, dm_275 x ((p + dln x : Nat) : Int) v s δ = some ((p : Int), s, ε) ∧ WR δ ε v p (p + dln x) ∧ ∀ j, j < dln x → ε.I v (p + dln x - 1 - j) = dby x j := by
  unfold dm_275 dm_275_12
  rw [if_pos (by omega)]
  by_cases q : x < 0
  · have g := dgl_r (-x).toNat
    have dl : dln x = dgl (-x).toNat + 1 := if_pos q
    rw [dl] at hl hp ⊢
    obtain ⟨ε, e1, e2, e3⟩ := gc_22 (v := v) (x6 := 1) s 100000 (-x).toNat (p + 1) δ (by omega) (by omega) hA (by omega) (by omega)
    rw [show (-(((-x).toNat : Nat) : Int)) = x by omega, show p + 1 + dgl (-x).toNat = p + (dgl (-x).toNat + 1) by omega] at e1
    have A1 := dA_WR e2 hA
    have ew : WR ε (ε.w v p 45) v p (p + (dgl (-x).toNat + 1)) := WR_w ε 45 (by omega)
    refine ⟨ε.w v p 45, ?_, WR_tr (WR_mono ⟨by omega, by omega⟩ e2) ew, fun j hj => ?_⟩
    · rw [if_neg (by omega), if_pos (by decide), if_pos (by decide), e1]
      unfold dm_275_104 dm_275_118
      rw [if_pos (by decide), if_neg (by decide), if_pos A1, show ((p + 1 : Nat) : Int) + (-1) = (p : Int) by omega, if_pos ⟨by omega, by rw [e2.2.1]; omega⟩, Option.bind_some, gn3_i (by decide), show ((p : Int)).toNat = p by omega]
    · unfold dby
      rw [if_pos q, dw_I]
      by_cases z : j < dgl (-x).toNat
      · have := e3 j z
        rw [show p + 1 + dgl (-x).toNat - 1 - j = p + (dgl (-x).toNat + 1) - 1 - j by omega] at this
        rw [if_neg (by omega), if_pos z, this]
      · rw [if_pos ⟨rfl, by omega⟩, if_neg z]
  · have g := dgl_r x.toNat
    have dl : dln x = dgl x.toNat := if_neg q
    rw [dl] at hl hp ⊢
    obtain ⟨ε, e1, e2, e3⟩ := gc_22 (v := v) (x6 := 0) s 100000 x.toNat p δ (by omega) (by omega) hA (by omega) (by omega)
    rw [show (-((x.toNat : Nat) : Int)) = -x by omega] at e1
    refine ⟨ε, ?_, e2, fun j hj => ?_⟩
    · rw [if_pos (by omega), if_pos (by decide), if_neg (by decide), e1]
      unfold dm_275_104 dm_275_118
      rw [if_pos (by decide), if_pos rfl]
    · unfold dby
      rw [if_neg q]
      exact e3 j hj
/-- a number's signs more -/
def apn (bs : Nat → Int) (n : Nat) (x : Int) (i : Nat) : Int := if i < n then bs i else dby x (n + dln x - 1 - i)
theorem sb_i {m b v n : Nat} {x : Int} {bs : Nat → Int} {δ : dS} (s : gx_S) (S : SBv δ b v n bs) (hb : m ≤ b) (hv : m ≤ v) (hn : n + dln x ≤ 1500) (hx : -1000000 < x ∧ x < 1000000) : ∃ (ε : dS) (w : Nat), dm_259 b x s δ = some (b, s, ε) ∧ SBv ε b w (n + dln x) (apn bs n x) ∧ DF m 1 δ ε ∧ m ≤ w := by
  obtain ⟨ε, w, e1, e2, e3, e4, e5⟩ := sb_kap (need := n + dln x) s S hb hv hn
  have hk := S.2.2.2.2.1
  obtain ⟨gO, gP, gA, gc, gk, gl, gL, gB⟩ := id e2
  have wn : w < ε.n := gA.2.1
  have bw : w ≠ b := fun q => by
    have a := gO.2.2
    have b := gA.2.2
    rw [q, a] at b
    exact absurd b (by decide)
  obtain ⟨ζ, z1, z2, z3⟩ := gc_ (p := n) hx s gA e3 (by omega)
  obtain ⟨y1, y2, y3, y4⟩ := id z2
  have zO : dO ζ b 11 := ⟨gO.1, by rw [y3]; exact gO.2.1, by rw [y2]; exact gO.2.2⟩
  have ck : (n : Int) + (dln x : Int) = ((n + dln x : Nat) : Int) := rfl
  have st : dm_265 b x s δ = some (b, s, ζ.w b 3 ((n + dln x : Nat) : Int)) := by
    unfold dm_265
    rw [if_pos S.1, ss_ hx, Option.bind_some]
    dsimp only
    rw [if_pos S.1, hk, ck, e1, Option.bind_some]
    dsimp only
    rw [if_pos gO, sb_270 s e2, Option.bind_some]
    dsimp only
    rw [if_pos (by decide), if_neg (by decide), if_pos gO, gP, Option.bind_some, z1, Option.bind_some]
    dsimp only
    unfold dm_265_48
    rw [if_pos zO, Option.bind_some]
  refine ⟨ζ.w b 3 ((n + dln x : Nat) : Int), w, ?_, ⟨zO, by rw [dw_P, y1]; exact gP, ⟨gA.1, by rw [dw_n, y3]; exact wn, by rw [dw_sh, y2]; exact gA.2.2⟩, ?_, by rw [dw_I, if_pos ⟨rfl, rfl⟩], by rw [dw_sh, y2]; exact e3, by rw [dw_sh, y2]; exact gL, fun i hi => ?_⟩, ?_, e5⟩
  · unfold dm_259
    rw [if_pos S.1, st, Option.bind_some]
  · rw [dw_I, if_neg (fun t => absurd t.2 (by decide)), y4 _ _ (fun t => bw t.1.symm)]
    exact gc
  · rw [dw_I, if_neg (fun t => bw t.1)]
    unfold apn
    by_cases q : i < n
    · rw [if_pos q, y4 _ _ (fun t => by omega)]
      exact gB i q
    · have := z3 (n + dln x - 1 - i) (by omega)
      rw [show n + dln x - 1 - (n + dln x - 1 - i) = i by omega] at this
      rw [if_neg q]
      exact this
  · refine DF_tr e4 (DF_tr (c := 0) (ε := ζ) ⟨by omega, fun a ha => ⟨fun j => y4 a j fun t => by omega, fun j => by rw [y1]⟩, fun a _ => by rw [y2], fun a h1 h2 => by omega⟩ (DF_w _ 3 _ hb))
