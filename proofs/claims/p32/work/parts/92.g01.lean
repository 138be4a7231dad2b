/-! THE LAW: adopted; undone -/
theorem MM_of {δ : dS} {m a R C : Nat} {f f' : Nat → Int} (h : ∀ i, f i = f' i) (M : MM δ m a f R C) : MM δ m a f' R C := (funext h : f = f') ▸ M
/-- counts of the groups below k are what came -/
def fk_ (f : Nat → Int) (R C k i : Nat) : Int := if 5 ≤ i ∧ i < 5 + 9 * k then cn f R C ((i - 5) / 9) ((i - 5) % 9) else f i
theorem fk_s {f : Nat → Int} {R C k : Nat} : ∀ i, fc (fk_ f R C k) k (cn f R C k) i = fk_ f R C (k + 1) i := fun i => by
  unfold fc
  by_cases q : 5 + 9 * k ≤ i ∧ i < 14 + 9 * k
  · rw [if_pos q]
    unfold fk_
    rw [if_pos (by omega), show (i - 5) / 9 = k by omega, show (i - 5) % 9 = i - 5 - 9 * k by omega]
  · rw [if_neg q]
    unfold fk_
    by_cases q2 : 5 ≤ i ∧ i < 5 + 9 * k
    · rw [if_pos q2, if_pos (by omega)]
    · rw [if_neg q2, if_neg (by omega)]
section
variable {Ls : Nat} {xs : Nat → Int32} {f : Nat → Int} {R C : Nat} {m a g p n L : Nat} {pf : Nat → Nat → Int} {tb : Nat → Int} {δ : dS}
theorem MG_WM {ε : dS} {k : Nat} (hk : k < 3) (w : WM δ ε (m + 2 + k) (m + 3 + k)) (M : MG δ m a f R C k) : MG ε m a f R C k := by
  obtain ⟨M0, ⟨v1, v2, v3, v4⟩, a1, a2, a3, a4, a5, a6⟩ := M
  have ha := M0.1.2.2.2
  have q : ∀ j i, ¬ j = m + 2 + k → ε.I j i = δ.I j i := fun j i hj => w.2.2.2 j i (by omega)
  exact ⟨MSh_WM w M0, ⟨(q _ _ (by omega)).trans v1, (q _ _ (by omega)).trans v2, (q _ _ (by omega)).trans v3, (q _ _ (by omega)).trans v4⟩, fun k hk => (q _ _ (by omega)).trans (a1 k hk), fun k hk => (q _ _ (by omega)).trans (a2 k hk), fun k hk => (q _ _ (by omega)).trans (a3 k hk), fun i z hi hn hz => (q _ _ (by omega)).trans (a4 i z hi hn hz), fun i z hi hz => (q _ _ (by omega)).trans (a5 i z hi hz), fun z hz => (q _ _ (by omega)).trans (a6 z hz)⟩
theorem ad_507 {K : Nat → Nat → Nat → Int → Int → gx_S → dS → Option (Int × DS)} {x14 : Int} {x13 k N : Nat} (s : gx_S) (hk : k < 3) (hm : m + 12 < p) : ∀ (q c : Nat) (δ : dS), 9 < q + c → c ≤ 9 → MSh δ m a N → AR δ 1 p 27 → ∃ ε : dS, dm_236_507 Ls xs K q m p x13 x14 k c s δ = K m p x13 x14 ((k + 1 : Nat) : Int) s ε ∧ WM δ ε (m + 2 + k) (m + 3 + k) ∧ (∀ j, c ≤ j → j < 9 → ε.I (m + 2 + k) j = δ.I p (9 * k + j)) ∧ ∀ j, j < c → ε.I (m + 2 + k) j = δ.I (m + 2 + k) j := by
  intro q
  induction q with
  | zero => intro c δ h; omega
  | succ q ih =>
    intro c δ h hc M A
    rw [dm_236_507, if_pos (by omega)]
    by_cases e : c = 9
    · rw [if_pos (by omega)]
      exact ⟨δ, rfl, WM_rf _ _ _, fun j h1 h2 => by omega, fun _ _ => rfl⟩
    · obtain ⟨X, hX⟩ : ∃ X, X = δ.w (m + 2 + k) c (δ.I p (9 * k + c)) := ⟨_, rfl⟩
      have wX : WM δ X (m + 2 + k) (m + 3 + k) := by rw [hX]; exact WM_w δ _ _ (by omega)
      obtain ⟨ε, z1, z2, z3, z4⟩ := ih (c + 1) X (by omega) (by omega) (MSh_WM wX M) (by rw [hX]; exact A)
      obtain ⟨-, o1, -, ⟨d1, d2⟩, -, -, -, -, -, h7', -⟩ := M
      have n9 : 9 * (k : Int) + (c : Int) = ((9 * k + c : Nat) : Int) := by omega
      refine ⟨ε, ?_, WM_tr wX z2, fun j h1 h2 => ?_, fun j hj => ?_⟩
      · rw [if_neg (by omega), if_pos o1, h7', Option.bind_some, if_pos (AR_A d1), if_pos (AR_I d1 hk), Int.toNat_natCast, (d2 k hk).2, Option.bind_some, if_pos (AR_A A), n9, if_pos (AR_I A (by omega)), if_pos (AR_A (d2 k hk).1), if_pos (AR_I (d2 k hk).1 (by omega)), Int.toNat_natCast, Int.toNat_natCast, Option.bind_some, ← hX]
        exact z1
      · by_cases q1 : j = c
        · rw [z4 j (by omega), hX, dw_I, if_pos ⟨rfl, q1⟩, q1]
        · rw [z3 j (by omega) h2]
          exact wX.2.2.2 _ _ (by omega)
      · rw [z4 j (by omega), hX, dw_I, if_neg (by omega)]
/-- of the map's counts what goes; its old zoning the new one -/
theorem ad_498 {x14 : Int} {x13 : Nat} (s : gx_S) (M : MP f R C) (hm : m + 12 < p) : ∀ (q k : Nat) (δ : dS), 3 < q + k → k ≤ 3 → MM δ m a (fk_ f R C k) R C → AR δ 1 p 27 → (∀ i, i < 27 → δ.I p i = cn f R C (i / 9) (i % 9)) → ∃ ε : dS, dm_236_498 Ls xs q m p x13 x14 k s δ = dm_236_565 Ls xs 100000 m x13 x14 0 s ε ∧ MM ε m δ.n (fa f R C) R C ∧ DF m 1 δ ε ∧ (∀ b j, m + 12 < b → b < δ.n → ε.I b j = δ.I b j ∧ ε.P b j = δ.P b j) ∧ ε.n = δ.n + 1 := by
  intro q
  induction q with
  | zero => intro k δ h; omega
  | succ q ih =>
    intro k δ h hk E A V
    rw [dm_236_498, if_pos (by omega)]
    by_cases e : k = 3
    · have N96 := MP_N M
      obtain ⟨⟨⟨m0, m1, m2, m3⟩, o1, ⟨c1, c2, c3⟩, ⟨d1, d2⟩, ⟨e1, e2⟩, g1, h4, h5, h6, h7', h8, h9⟩, ⟨v1, v2, v3, v4⟩, b1, b2, b3, b4, b5, b6⟩ := E
      obtain ⟨X, hX⟩ : ∃ X, X = δ.cl (m + 11) := ⟨_, rfl⟩
      have nX : X.n = δ.n + 1 := by rw [hX, dc_n]
      have fX : DF δ.n 1 δ X := by rw [hX]; exact DF_cl δ _ (Nat.le_refl _) (by rw [c2.2.2]; show R * C ≤ 3100; omega)
      obtain ⟨Y, hY⟩ : ∃ Y, Y = X.r m 4 (some δ.n) := ⟨_, rfl⟩
      have fY : DF m 0 X Y := by rw [hY]; exact DF_r X 4 _ (Nat.le_refl _)
      have F := DF_tr (DF_mono (show m ≤ δ.n by omega) (Nat.le_refl _) fX) fY
      have nY : Y.n = δ.n + 1 := by rw [hY, dr_n, nX]
      have oX := dO_DF fX o1
      have aX : AR X 0 δ.n (R * C) := by rw [hX]; exact ⟨by omega, by rw [dc_n]; omega, by rw [dc_sh, if_pos rfl]; exact c2.2.2⟩
      have yI : ∀ b j, b < δ.n → Y.I b j = δ.I b j := fun b j hb => by rw [hY, dr_I]; exact (fX.2.1 b hb).1 j
      have yP : ∀ b j, b < δ.n → ¬ (b = m ∧ j = 4) → Y.P b j = δ.P b j := fun b j hb hn => by rw [hY, dr_P, if_neg hn]; exact (fX.2.1 b hb).2 j
      have k3 : ∀ i, ¬ (5 ≤ i ∧ i < 32) → ¬ (52 ≤ i ∧ i < 148) → fk_ f R C k i = fa f R C i := fun i q1 q2 => by
        unfold fk_ fa
        rw [if_neg (by omega), if_neg q1, if_neg q2]
      refine ⟨Y, ?_, ⟨⟨⟨m0, by omega, by omega, by omega⟩, dO_DF fY oX, ⟨AR_DF fY aX, AR_DF F c2, AR_DF F c3⟩, ⟨AR_DF F d1, fun g hg => ⟨AR_DF F (d2 g hg).1, (yP _ _ (by omega) (by omega)).trans (d2 g hg).2⟩⟩, ⟨AR_DF F e1, fun g hg => ⟨AR_DF F (e2 g hg).1, (yP _ _ (by omega) (by omega)).trans (e2 g hg).2⟩⟩, AR_DF F g1, by rw [hY, dr_P, if_pos ⟨rfl, rfl⟩], (yP _ _ (by omega) (by omega)).trans h5, (yP _ _ (by omega) (by omega)).trans h6, (yP _ _ (by omega) (by omega)).trans h7', (yP _ _ (by omega) (by omega)).trans h8, (yP _ _ (by omega) (by omega)).trans h9⟩, ⟨(yI _ _ (by omega)).trans v1, (yI _ _ (by omega)).trans v2, ((yI _ _ (by omega)).trans v3).trans (k3 3 (by omega) (by omega)), ((yI _ _ (by omega)).trans v4).trans (k3 4 (by omega) (by omega))⟩, fun i hi => ?_, fun i hi => ?_, fun i hi => ?_, fun g z hg hz => ?_, fun g l hg hl => ?_, fun z hz => ?_⟩, DF_c F (by omega), fun b j h1 h2 => ⟨yI b j h2, yP b j h2 (by omega)⟩, nY⟩
      · rw [if_pos (by omega), if_pos o1, h5, Option.bind_some, if_pos (AR_A c2), Option.bind_some, ← hX, if_pos (AR_A aX), if_pos oX, Option.bind_some, ← hY]
      · obtain ⟨i1, i2⟩ := rc_k hi
        have R8 := M.1.2.2.1
        have C12 := M.1.2.2.2
        rw [hY, dr_I, hX, dc_I, if_pos rfl, b2 i hi]
        unfold fk_ fa
        rw [if_neg (by omega), if_neg (by omega), if_pos (by omega)]
        exact congrArg f (by omega)
      · obtain ⟨i1, i2⟩ := rc_k hi
        rw [yI _ _ (by omega), b2 i hi]
        exact k3 _ (by omega) (by omega)
      · obtain ⟨i1, i2⟩ := rc_k hi
        rw [yI _ _ (by omega), b3 i hi]
        exact k3 _ (by omega) (by omega)
      · rw [yI _ _ (by omega), b4 g z hg hz]
        unfold fk_ fa
        rw [if_pos (by omega), if_pos (by omega)]
      · rw [yI _ _ (by omega), b5 g l hg hl]
        exact k3 _ (by omega) (by omega)
      · rw [yI _ _ (by omega), b6 z hz]
        exact k3 _ (by omega) (by omega)
    · have hk' : k < 3 := by omega
      obtain ⟨X, x1, x2, x3, -⟩ := ad_507 (Ls := Ls) (xs := xs) (K := dm_236_498 Ls xs q) (x14 := x14) (x13 := x13) s hk' hm 100000 0 δ (by omega) (by omega) E.1 A
      have MX : MM X m a (fk_ f R C (k + 1)) R C := MM_of fk_s (MG_MM hk' (MG_WM hk' x2 (MG_of E)) (fun z hz => by
        rw [x3 z (by omega) hz, V _ (by omega), show (9 * k + z) / 9 = k by omega, show (9 * k + z) % 9 = z by omega]))
      have AX : AR X 1 p 27 := AR_DF (DF_WM (B := m) (by omega) x2) A
      obtain ⟨ε, z1, z2, z3, z4, z5⟩ := ih (k + 1) X (by omega) (by omega) MX AX (fun i hi => (x2.2.2.2 _ _ (by omega)).trans (V i hi))
      rw [x2.2.2.1] at z2 z4 z5
      refine ⟨ε, ?_, z2, DF_tr (DF_WM (B := m) (by omega) x2) z3, fun b j h1 h2 => ?_, z5⟩
      · rw [if_neg (by omega)]
        exact x1.trans z1
      · obtain ⟨t1, t2⟩ := z4 b j h1 h2
        exact ⟨t1.trans (x2.2.2.2 _ _ (by omega)), t2.trans (by rw [x2.1])⟩
/-- where the old zoning is the new one, all stay -/
theorem GV_al (M : MP f R C) (h7 : f 2 = 7) (hg : g < 3) (A : ALK f R C) {x : Nat} (hx : x < 8) : GV f R C g x x = LV f R C g x := by
  obtain ⟨T, hT⟩ := TTm_e M h7 hg
  have z : ∀ y, y < 9 → y ≠ x → GV f R C g x y = 0 := fun y hy hn => by
    have p0 : PMV f R C g x y = 0 := by
      unfold PMV SO
      refine sg_0 fun k hk => if_neg fun t => ?_
      have := A k hk
      obtain ⟨t1, t2⟩ := t
      omega
    obtain ⟨t1, t2, t3⟩ := hT.1 x y hx hy
    have f0 : flv (LV f R C g) (PMV f R C g) x y = 0 := by
      unfold flv
      rw [p0, Int.mul_zero, Int.zero_ediv]
      exact ite_self _
    have r0 : rsv (LV f R C g) (PMV f R C g) x y = 0 := by
      unfold rsv
      rw [p0, Int.mul_zero, Int.zero_emod]
      exact ite_self _
    omega
  rw [← GV_row M h7 hg hx, sg_single (f := GV f R C g x) (i := x) (by omega) z]
theorem un_594 {K : Nat → Nat → Int → Int → gx_S → dS → Option (Int × DS)} {x14 : Int} {x13 k : Nat} (M : MP f R C) (h7 : f 2 = 7) (A : ALK f R C) (hk : k < 3) (B : AR δ 1 p 8) (V : ∀ z, z < 8 → δ.I p z = LV f R C k z) : ∀ (q z : Nat) (s : gx_S), 8 < q + z → z ≤ 8 → QS f R C n pf L tb s → ∃ u : gx_S, QS f R C n pf L tb u ∧ dm_236_594 Ls xs K q m x13 x14 k p z s δ = K m x13 x14 ((k + 1 : Nat) : Int) u δ := by
  intro q
  induction q with
  | zero => intro z s h; omega
  | succ q ih =>
    intro z s h hz Q
    rw [dm_236_594, if_pos (by omega)]
    by_cases e : z = 8
    · rw [if_pos (by omega)]
      exact ⟨s, Q, rfl⟩
    · have hz' : z < 8 := by omega
      obtain ⟨u1, g1, Q1⟩ := qs_moved Q h7 (g := k) (o := (z : Int)) (z := (z : Int)) hk (by omega) (by omega)
      rw [MVs_zc, GV_al M h7 hk A hz'] at g1
      obtain ⟨-, n2, -⟩ := ev_n M h7 hk hz' (show 0 < 9 by omega)
      obtain ⟨u, Q2, z2⟩ := ih (z + 1) u1 (by omega) (by omega) Q1
      refine ⟨u, Q2, ?_⟩
      rw [if_neg (by omega), g1, Option.bind_some]
      dsimp only
      rw [if_pos (by omega), if_pos (AR_A B), if_pos (AR_I B hz'), Int.toNat_natCast, V z hz', if_pos (by omega), if_pos (by omega), if_pos rfl]
      exact z2
/-- undone one by one -/
theorem un_723 : ∀ (q n : Nat) (s : gx_S) (f : Nat → Int) (R C : Nat) (pf : Nat → Nat → Int), n < q → QS f R C n pf L tb s → ∃ u : gx_S, dm_236_723 Ls xs q n s δ = some (1, u, δ) := by
  intro q
  induction q with
  | zero => intro n s f R C pf h; omega
  | succ q ih =>
    intro n s f R C pf h Q
    have n8 : n ≤ 8 := Q.1.2.2.1.1
    rw [dm_236_723, if_pos (by omega)]
    by_cases e : n = 0
    · rw [e] at Q
      have g1 := qs_undo0 Q
      have g2 := qs_moved3 s 0 0
      have g3 := qs_moved8 Q (g := 0) (z := 0) (by omega)
      have g4 := qs_moved9 Q (g := 0) (by omega)
      have g3' : gm_99 0 8 0 s = some (-1, s) := g3
      have g4' : gm_99 0 0 9 s = some (-1, s) := g4
      refine ⟨s, ?_⟩
      rw [if_pos (by omega), g1, Option.bind_some]
      dsimp only
      rw [if_pos (by omega), if_neg (fun t => t rfl), g2, Option.bind_some]
      dsimp only
      rw [if_pos (by omega), if_neg (fun t => t rfl), g3', Option.bind_some]
      dsimp only
      rw [if_pos (by omega), if_neg (fun t => t rfl), g4', Option.bind_some]
      dsimp only
      rw [if_pos (by omega), if_neg (fun t => t rfl)]
    · obtain ⟨u1, R', C', g1, Q1⟩ := qs_undo Q (by omega)
      obtain ⟨u, z1⟩ := ih (n - 1) u1 _ R' C' pf (by omega) Q1
      refine ⟨u, ?_⟩
      have e1 : (n : Int) + (-1) = ((n - 1 : Nat) : Int) := by omega
      rw [if_neg (by omega), g1, Option.bind_some]
      dsimp only
      rw [e1, if_pos (by omega), if_pos (by omega), if_pos rfl]
      exact z1
theorem pn_f (n : Nat) (pf : Nat → Nat → Int) (f : Nat → Int) : pn n pf f (nn n - 1) = f := by
  unfold pn nn
  by_cases q : n < 8
  · rw [if_pos q, if_pos q, if_pos (by omega)]
  · rw [if_neg q, if_neg q, if_pos (by omega)]
theorem fa_2 (f : Nat → Int) (R C : Nat) : fa f R C 2 = f 2 := by
  unfold fa
  rw [if_neg (by omega), if_neg (by omega)]
theorem fa_al (M : MP f R C) : ALK (fa f R C) R C := fun k hk => by
  obtain ⟨k1, k2⟩ := rc_k hk
  have R8 := M.1.2.2.1
  have C12 := M.1.2.2.2
  unfold fa
  rw [if_neg (by omega), if_pos (by omega), if_neg (by omega), if_neg (by omega)]
  exact congrArg f (by omega)
/-- behind adopting: each group's people stay; undone all is as it was -/
theorem un_565 {N : Nat} {bs : Nat → Int} {x13 : Nat} (M : MP f R C) (h7 : f 2 = 7) (n8 : n ≤ 8) (AL : ∀ (n : Nat) (pf : Nat → Nat → Int) (L : Nat) (tb : Nat → Int) (s : gx_S) (δ : dS), QS f R C n pf L tb s → 215 ≤ δ.n → ∃ (x : Nat) (u : gx_S) (ε : dS), dm_252 Ls xs s δ = some (x, u, ε) ∧ QS f R C n pf L tb u ∧ STR ε x (x + 1) N bs ∧ δ.n ≤ x ∧ DF δ.n 711 δ ε) (hN : N ≤ 1500) (hb : rbt bs) : ∀ (q k : Nat) (s : gx_S) (δ : dS), 3 < q + k → k ≤ 3 → LM δ m a (fa f R C) R C → STR δ x13 (x13 + 1) N bs → QS (fa f R C) R C (nn n) (pn n pf f) L tb s → ∃ (u : gx_S) (ε : dS), dm_236_565 Ls xs q m x13 n k s δ = some (1, u, ε) ∧ DF m (17 * (3 - k) + 711) δ ε := by
  have M' := MP_fa M h7
  have h7' : fa f R C 2 = 7 := (fa_2 f R C).trans h7
  have A := fa_al M
  intro q
  induction q with
  | zero => intro k s δ h; omega
  | succ q ih =>
    intro k s δ h hk E S Q
    obtain ⟨m0, m1, m2, m3⟩ := E.1.1.1
    rw [dm_236_565, if_pos (by omega)]
    by_cases e : k = 3
    · have a0 := qs_apart Q h7' A (w := 0) (by omega)
      have a2 := qs_apart Q h7' A (w := 2) (by omega)
      have a3 := qs_apart Q h7' A (w := 3) (by omega)
      have a1 := qs_apart Q h7' A (w := 1) (by omega)
      obtain ⟨u1, g1, Q1⟩ := qs_count Q h7' (x := 2) (by omega)
      obtain ⟨u2, g2, Q2⟩ := qs_count Q1 h7' (x := 2) (by omega)
      obtain ⟨u3, g3, Q3⟩ := qs_count Q2 h7' (x := 3) (by omega)
      have kd : KD (fa f R C) R C 1 8 = KD (fa f R C) R C 0 8 := sg_eq fun z _ => by rw [NC_a h7' A]
      have c2 : ∀ n L, cnv (fa f R C) R C n L 2 = KD (fa f R C) R C 0 8 := fun _ _ => rfl
      have c3 : ∀ n L, cnv (fa f R C) R C n L 3 = KD (fa f R C) R C 0 8 := fun _ _ => kd
      rw [c2] at g1 g2
      rw [c3] at g3
      have kr := KD_r (fa f R C) R C 0 8
      have a0' : gm_110 0 s = some (0, s) := a0
      have a2' : gm_110 2 s = some (0, s) := a2
      have a3' : gm_110 3 s = some (0, s) := a3
      have a1' : gm_110 1 s = some (KD (fa f R C) R C 0 8, s) := a1
      have g1' : gm_111 2 s = some (KD (fa f R C) R C 0 8, u1) := g1
      have g2' : gm_111 2 u1 = some (KD (fa f R C) R C 0 8, u2) := g2
      have g3' : gm_111 3 u2 = some (KD (fa f R C) R C 0 8, u3) := g3
      have nn0 : 0 < nn n := by
        unfold nn
        split <;> omega
      have nn7 : ((nn n - 1 : Nat) : Int) = if (n : Int) < 7 then (n : Int) else 7 := by
        unfold nn
        by_cases q1 : n < 7
        · rw [if_pos (by omega), if_pos (by omega)]
          omega
        · rw [if_neg (show ¬ (n : Int) < 7 by omega)]
          split <;> omega
      obtain ⟨u4, R', C', g4, Q4⟩ := qs_undo Q3 nn0
      rw [pn_f] at Q4
      have eR : R' = R := by
        have x1 := Q4.2.1.1.1
        have x2 := M.1.1
        omega
      have eC : C' = C := by
        have x1 := Q4.2.1.1.2.1
        have x2 := M.1.2.1
        omega
      rw [eR, eC] at Q4
      obtain ⟨x, u5, ε, t1, Q5, t2, t3, t4⟩ := AL _ _ _ _ u4 δ Q4 (by omega)
      have S' := STR_DF t4 S.1.2.1 S.2.2.1.2.1 S
      have eq := st_eq u5 t2 S' (by omega) (fun i _ => hb i)
      obtain ⟨u6, g6, Q6⟩ := qs_count Q5 h7 (x := 8) (by omega)
      have c8 : cnv f R C (nn n - 1) L 8 = ((nn n - 1 : Nat) : Int) := rfl
      rw [c8] at g6
      have g6' : gm_111 8 u5 = some (((nn n - 1 : Nat) : Int), u6) := g6
      have n9 : nn n - 1 ≤ 8 := by
        unfold nn
        split <;> omega
      obtain ⟨u, z1⟩ := un_723 (Ls := Ls) (xs := xs) (δ := ε) 100000 (nn n - 1) u6 f R C _ (by omega) Q6
      refine ⟨u, ε, ?_, DF_mono (by omega) (by omega) t4⟩
      rw [if_pos (by omega), a0', Option.bind_some]
      dsimp only
      rw [if_pos (by omega), if_neg (fun t => t rfl), a2', Option.bind_some]
      dsimp only
      rw [if_pos (by omega), if_neg (fun t => t rfl), a3', Option.bind_some]
      dsimp only
      rw [if_pos (by omega), if_neg (fun t => t rfl), a1', Option.bind_some]
      dsimp only
      rw [g1', Option.bind_some]
      dsimp only
      rw [if_pos (by omega), if_pos (by omega), if_neg (fun t => t rfl), g2', Option.bind_some]
      dsimp only
      rw [g3', Option.bind_some]
      dsimp only
      rw [if_pos (by omega), if_pos (by omega), if_pos rfl, g4, Option.bind_some]
      dsimp only
      rw [if_pos (by omega), if_pos (by omega), ← nn7, if_pos (by omega), if_neg (fun t => t rfl), t1, Option.bind_some]
      dsimp only
      rw [if_pos t2.1, eq, Option.bind_some]
      dsimp only
      rw [if_pos (by omega), if_pos (by omega), g6', Option.bind_some]
      exact z1
    · have hk' : k < 3 := by omega
      obtain ⟨u1, X, x1, Q1, x3⟩ := moved_ (Ls := Ls) (xs := xs) E hk' Q
      have EX := LM_DF x3 m1 m2 E
      obtain ⟨Y, y1, y2, y3, y4⟩ := living_ (Ls := Ls) (xs := xs) u1 EX hk'
      obtain ⟨u2, Q2, z2⟩ := un_594 (Ls := Ls) (xs := xs) (K := dm_236_565 Ls xs q) (m := m) (x14 := n) (x13 := x13) M' h7' A hk' y2 y3 100000 0 u1 (by omega) (by omega) Q1
      have F := DF_tr x3 (DF_mono x3.1.1 (Nat.le_refl _) y4)
      obtain ⟨u, ε, w1, w2⟩ := ih (k + 1) u2 Y (by omega) (by omega) (LM_DF F m1 m2 E) (STR_DF F S.1.2.1 S.2.2.1.2.1 S) Q2
      refine ⟨u, ε, ?_, DF_c (DF_tr (DF_mono (by omega) (Nat.le_refl _) F) w2) (by omega)⟩
      rw [if_neg (by omega), x1, Option.bind_some]
      dsimp only
      rw [if_pos (by omega), if_pos (by omega), y1, Option.bind_some]
      exact z2.trans w1
end
