/-! THE REFERENCE's BALANCED TABLE: fillsUp -/
/-- all but the seen stay -/
def fz (s t : gx_S) : Prop := (∀ k j, k ≠ 235 → t.1 k j = s.1 k j) ∧ t.2 = s.2
theorem fz_tr {s t u : gx_S} (a : fz s t) (b : fz t u) : fz s u := ⟨fun k j h => (b.1 k j h).trans (a.1 k j h), b.2.trans a.2⟩
/-- rows put on until none can go on -/
def GW (s t : gx_S) : Prop := (∀ k j, k ≠ 232 → k ≠ 235 → t.1 k j = s.1 k j) ∧ (∀ k j, k ≠ 230 → k ≠ 231 → t.2 k j = s.2 k j) ∧ (∀ j, j < 72 → t.1 232 j = s.1 232 j ∨ mv_ s j) ∧ (∀ k, k < 8 → or_ t k + t.2 231 k = or_ s k + s.2 231 k) ∧ (∀ k, k < 9 → oc_ t k = oc_ s k) ∧ (∀ k, k < 8 → t.2 231 k ≤ s.2 231 k ∧ (s.2 231 k ≤ 0 → t.2 231 k = s.2 231 k) ∧ (0 ≤ s.2 231 k → 0 ≤ t.2 231 k)) ∧ ∀ k, k < 9 → s.2 230 k ≤ t.2 230 k ∧ (t.2 230 k = s.2 230 k ∨ t.2 230 k ≤ s.2 229 k)
theorem GW_fz {s t : gx_S} (a : fz s t) : GW s t := by
  have o : ∀ k, or_ t k = or_ s k := fun k => sg_eq fun c _ => a.1 232 _ (by omega)
  refine ⟨fun k j _ h => a.1 k j h, fun k j _ _ => by rw [a.2], fun j _ => .inl (a.1 232 j (by omega)), fun k _ => by rw [o, a.2], fun k _ => ?_, fun k _ => ?_, fun k _ => ?_⟩
  · unfold oc_
    rw [a.2, sg_eq (f := fun r => t.1 232 (9 * r + k)) (g := fun r => s.1 232 (9 * r + k)) fun c _ => a.1 232 _ (by omega)]
  · rw [a.2]
    omega
  · rw [a.2]
    omega
theorem GW_tr {s t u : gx_S} (a : GW s t) (b : GW t u) : GW s u := by
  obtain ⟨a1, a2, a3, a4, a5, a6, a7⟩ := a
  obtain ⟨b1, b2, b3, b4, b5, b6, b7⟩ := b
  refine ⟨fun k j h1 h2 => (b1 k j h1 h2).trans (a1 k j h1 h2), fun k j h1 h2 => (b2 k j h1 h2).trans (a2 k j h1 h2), fun j hj => ?_, fun k hk => (b4 k hk).trans (a4 k hk), fun k hk => (b5 k hk).trans (a5 k hk), fun k hk => ?_, fun k hk => ?_⟩
  · rcases a3 j hj with x | x
    · rcases b3 j hj with y | y
      · exact .inl (y.trans x)
      · unfold mv_ at y
        rw [a1 233 j (by omega) (by omega), a2 225 j (by omega) (by omega), a1 215 17 (by omega) (by omega), a1 215 18 (by omega) (by omega)] at y
        exact .inr y
    · exact .inr x
  · obtain ⟨x1, x2, x3⟩ := a6 k hk
    obtain ⟨y1, y2, y3⟩ := b6 k hk
    refine ⟨by omega, fun h => ?_, fun h => y3 (x3 h)⟩
    have := x2 h
    have := y2 (by omega)
    omega
  · have x := a7 k hk
    have y := b7 k hk
    rw [a2 229 k (by omega) (by omega)] at y
    omega
/-- how many are wanted in all -/
def tw (s : gx_S) : Int := sg (fun r => ((s.2 231 r).toNat : Int)) 8
theorem GW_tw {s t : gx_S} (a : GW s t) : tw t ≤ tw s := sg_le fun k hk => by
  have := (a.2.2.2.2.2.1 k hk).1
  show ((t.2 231 k).toNat : Int) ≤ ((s.2 231 k).toNat : Int)
  omega
def WB (s : gx_S) : Prop := ∀ k, k < 8 → -1000 ≤ s.2 231 k ∧ s.2 231 k ≤ 1000
theorem GW_WB {s t : gx_S} (a : GW s t) (h : WB s) : WB t := fun k hk => by
  have x := a.2.2.2.2.2.1 k hk
  have y := h k hk
  omega
/-- row r finds none: the columns that it could use, and so on, are all full -/
def SK (s : gx_S) (r R m : Nat) : Prop := ∃ C : Nat → Prop, (∀ c, c < m → can1 s r c → C c) ∧ ∀ c, c < m → C c → s.2 229 c ≤ s.2 230 c ∧ ∀ r', r' < R → s.1 232 (9 * r' + c) = 1 → s.1 233 (9 * r' + c) = 0 → ∀ d, d < m → can1 s r' d → C d
theorem can1_fz {s t : gx_S} (a : fz s t) (r c : Nat) : can1 t r c ↔ can1 s r c := by
  unfold can1
  rw [a.2, a.1 233 _ (by omega), a.1 232 _ (by omega)]
theorem SK_fz {s t : gx_S} {r R m : Nat} (a : fz s t) (h : SK s r R m) : SK t r R m := by
  obtain ⟨C, h1, h2⟩ := h
  refine ⟨C, fun c hc x => h1 c hc ((can1_fz a r c).mp x), fun c hc x => ?_⟩
  obtain ⟨z1, z2⟩ := h2 c hc x
  rw [a.2]
  refine ⟨z1, fun r' hr' q1 q2 d hd q3 => z2 r' hr' ?_ ?_ d hd ((can1_fz a r' d).mp q3)⟩
  · rw [← a.1 232 _ (by omega)]
    exact q1
  · rw [← a.1 233 _ (by omega)]
    exact q2
theorem SK_FF {s t : gx_S} {r R m : Nat} (hm : m ≤ 9) (h0 : ∀ c, c < 9 → s.1 235 c = 0) (F : FF s t r R m) : SK s r R m :=
  ⟨fun c => t.1 235 c = 1, F.2.2.2, fun c hc x => F.2.2.1 c hc (h0 c (by omega)) x⟩
theorem RK_fz {s t : gx_S} {R m : Nat} (K : RK s R m) (a : fz s t) (h : ∀ c, c < 9 → t.1 235 c = 0 ∨ t.1 235 c = 1) : RK t R m := by
  obtain ⟨k1, k2, k3, k4, k5, k6⟩ := K
  refine ⟨fun j hj => ?_, fun c hc => ⟨h c hc, ?_⟩, ?_, ?_, k5, k6⟩
  · rw [a.1 232 j (by omega), a.1 233 j (by omega), a.2, a.1 215 17 (by omega), a.1 215 18 (by omega)]
    exact k1 j hj
  · rw [a.2]
    exact (k2 c hc).2
  · rw [a.1 215 17 (by omega)]
    exact k3
  · rw [a.1 215 18 (by omega)]
    exact k4
/-- the seen are cleared -/
theorem sl_170_20 (k : Int → Int → gx_S → Option gx_S) (x1 : Int) (r : Nat) : ∀ (n c : Nat) (s : gx_S), 9 < n + c → c ≤ 9 → ∃ (n' : Nat) (u : gx_S), gm_170_20 k n x1 r c s = gm_170_20 k (n' + 1) x1 r 9 u ∧ fz s u ∧ ∀ d, d < 9 → u.1 235 d = if c ≤ d then 0 else s.1 235 d := by
  intro n
  induction n with
  | zero => intro c s h; omega
  | succ n ih =>
    intro c s h hc
    by_cases e : c = 9
    · rw [e]
      exact ⟨n, s, rfl, ⟨fun _ _ _ => rfl, rfl⟩, fun d hd => by rw [if_neg (by omega)]⟩
    · obtain ⟨n', u, w1, w2, w3⟩ := ih (c + 1) (gw1 s 235 c 0) (by omega) (by omega)
      refine ⟨n', u, ?_, fz_tr (t := gw1 s 235 c 0) ⟨fun k j h => by rw [gw1_1, if_neg (fun x => h x.1)], rfl⟩ w2, fun d hd => ?_⟩
      · rw [gm_170_20, ← w1]
        have i5 : ((c : Int)).toNat = c := by omega
        have g0 : gn2 0 = 0 := by decide
        have ce : ((c : Int) + 1) = ((c + 1 : Nat) : Int) := rfl
        simp (disch := omega) only [if_pos, if_neg, i5, g0, ce]
      · rw [w3 d hd, gw1_1]
        by_cases q : d = c
        · rw [if_neg (by omega), if_pos ⟨rfl, q⟩, if_pos (by omega)]
        · by_cases q' : c ≤ d
          · rw [if_pos (by omega), if_pos q']
          · rw [if_neg (by omega), if_neg q', if_neg (fun h => q h.2)]
/-- a row: all stays but the seen, and it is stuck if it wants one; or one is put on -/
theorem sp_170_20 {R m r : Nat} {s : gx_S} (k : Int → Int → gx_S → Option gx_S) (x1 : Int) (hr : r < R) (K : RK s R m) (W : WB s) : ∃ (x : Int) (u : gx_S), gm_170_20 k 100000 x1 r 0 s = k x ((r + 1 : Nat) : Int) u ∧ GW s u ∧ RK u R m ∧ ((x = x1 ∧ fz s u ∧ (0 < u.2 231 r → SK u r R m)) ∨ (x = 1 ∧ tw u + 1 ≤ tw s)) := by
  obtain ⟨n', u, w1, w2, w3⟩ := sl_170_20 k x1 r 100000 0 s (by omega) (by omega)
  have R8 : R ≤ 8 := K.2.2.2.2.1
  have m9 : m ≤ 9 := K.2.2.2.2.2
  have z : ∀ c, c < 9 → u.1 235 c = 0 := fun c hc => (w3 c hc).trans (if_pos (by omega))
  have K' := RK_fz K w2 fun c hc => .inl (z c hc)
  have b := W r (by omega)
  rw [← w2.2] at b
  have i5 : ((r : Int)).toNat = r := by omega
  have ce : ((r : Int) + 1) = ((r + 1 : Nat) : Int) := rfl
  have w1 : gm_170_20 k 100000 x1 r 0 s = gm_170_20 k (n' + 1) x1 r 9 u := w1
  rw [w1, gm_170_20, if_pos (by decide), if_pos (by decide), if_pos (by omega), i5, if_pos (by omega)]
  by_cases v : u.2 231 r ≤ 0
  · rw [if_pos v]
    exact ⟨x1, u, rfl, GW_fz w2, K', .inl ⟨rfl, w2, fun h => absurd v (by omega)⟩⟩
  · rw [if_neg v]
    obtain ⟨f, q, y1, y2, y3⟩ := sp_168 hr K'
    rw [y1, Option.bind_some]
    cases f with
    | false =>
      have F := y3 rfl
      have g := F.1
      have e : fz u q := ⟨g.1, g.2.1⟩
      rw [if_pos (show gb (false, q).1 = 0 from (by decide : gb false = 0))]
      exact ⟨x1, q, rfl, GW_fz (fz_tr w2 e), F.2.1, .inl ⟨rfl, fz_tr w2 e, fun _ => SK_fz e (SK_FF m9 z F)⟩⟩
    | true =>
      obtain ⟨F1, F2, F3, F4, c0, F5, F6, F7⟩ := y2 rfl
      rw [if_neg (show ¬ gb (true, q).1 = 0 from (by decide : ¬ gb true = 0))]
      have q231 : ∀ j, q.2 231 j = u.2 231 j := fun j => F1.2.1 231 j (by omega)
      have y : ∀ j, (gw2 q 231 r (q.2 231 r - 1)).2 231 j = u.2 231 j - if j = r then 1 else 0 := fun j => by
        show (if _ then _ else _) = _
        by_cases e : j = r
        · rw [if_pos ⟨rfl, e⟩, if_pos e, q231, e]
        · rw [if_neg (fun h => e h.2), if_neg e, q231]
          exact (Int.sub_zero _).symm
      have yo : ∀ k j, k ≠ 231 → (gw2 q 231 r (q.2 231 r - 1)).2 k j = q.2 k j := fun k j h => if_neg fun x => h x.1
      have G : GW u (gw2 q 231 r (q.2 231 r - 1)) := by
        refine ⟨fun k j h1 h2 => F1.1 k j h1 h2, fun k j h1 h2 => (yo k j h2).trans (F1.2.1 k j h1), F1.2.2.2, fun k hk => ?_, fun k hk => ?_, fun k hk => ?_, fun k hk => ?_⟩
        · rw [y]
          have a := F3 k hk
          have b : or_ (gw2 q 231 r (q.2 231 r - 1)) k = or_ q k := rfl
          omega
        · have a := F4 k hk
          unfold oc_ at a ⊢
          rw [yo 230 k (by decide)]
          exact a
        · rw [y]
          by_cases e : k = r
          · rw [if_pos e, e]
            omega
          · rw [if_neg e]
            omega
        · rw [yo 230 k (by decide), F7 k hk]
          by_cases e : k = c0
          · rw [if_pos e, e]
            omega
          · rw [if_neg e]
            omega
      refine ⟨1, gw2 q 231 r (q.2 231 r - 1), ?_, GW_tr (GW_fz w2) G, ?_, .inr ⟨rfl, ?_⟩⟩
      · unfold gm_170_70
        rfl
      · obtain ⟨k1, k2, k3⟩ := F2
        exact ⟨fun j hj => by rw [yo 225 j (by decide)]; exact k1 j hj, fun c hc => by rw [yo 229 c (by decide), yo 230 c (by decide)]; exact k2 c hc, k3⟩
      · have a := sg_updn (f := fun r => ((u.2 231 r).toNat : Int)) (g := fun j => (((gw2 q 231 r (q.2 231 r - 1)).2 231 j).toNat : Int)) (i := r) (n := 8) (x := -1) (by omega) (by
          show (((gw2 q 231 r (q.2 231 r - 1)).2 231 r).toNat : Int) = ((u.2 231 r).toNat : Int) + -1
          rw [y, if_pos rfl]
          omega) (fun d h1 h2 => by
          show (((gw2 q 231 r (q.2 231 r - 1)).2 231 d).toNat : Int) = ((u.2 231 d).toNat : Int)
          rw [y, if_neg h2, Int.sub_zero])
        have b : tw u = tw s := by
          unfold tw
          rw [w2.2]
        show sg _ 8 + 1 ≤ _
        rw [a, ← b]
        show tw u + -1 + 1 ≤ tw u
        omega
theorem sl_170_10 {R m : Nat} (k : Int → gx_S → Option gx_S) : ∀ (n r : Nat) (x1 : Int) (s : gx_S), R < n + r → r ≤ R → RK s R m → WB s → (x1 = 0 ∨ x1 = 1) → ∃ (x : Int) (u : gx_S), gm_170_10 k n x1 r s = k x u ∧ GW s u ∧ RK u R m ∧ ((x = x1 ∧ fz s u ∧ ∀ r', r ≤ r' → r' < R → 0 < u.2 231 r' → SK u r' R m) ∨ (x = 1 ∧ tw u + 1 ≤ tw s)) := by
  intro n
  induction n with
  | zero => intro r x1 s h; omega
  | succ n ih =>
    intro r x1 s h hr K W hx
    have R8 : R ≤ 8 := K.2.2.2.2.1
    rw [gm_170_10, K.2.2.1, if_pos (by omega), if_pos (by omega)]
    by_cases e : r = R
    · rw [if_pos (by omega)]
      exact ⟨x1, s, rfl, GW_fz ⟨fun _ _ _ => rfl, rfl⟩, K, .inl ⟨rfl, ⟨fun _ _ _ => rfl, rfl⟩, fun r' h1 h2 => by omega⟩⟩
    · rw [if_neg (by omega)]
      obtain ⟨x, u, w1, w2, w3, w4⟩ := sp_170_20 (gm_170_10 k n) x1 (show r < R by omega) K W
      rw [w1]
      have tu := GW_tw w2
      obtain ⟨x', u', v1, v2, v3, v4⟩ := ih (r + 1) x u (by omega) (by omega) w3 (GW_WB w2 W) (by rcases w4 with a | a <;> omega)
      rw [v1]
      refine ⟨x', u', rfl, GW_tr w2 v2, v3, ?_⟩
      have tv := GW_tw v2
      rcases v4 with ⟨p1, p2, p3⟩ | ⟨p1, p2⟩
      · rcases w4 with ⟨q1, q2, q3⟩ | ⟨q1, q2⟩
        · refine .inl ⟨by omega, fz_tr q2 p2, fun r' h1 h2 h3 => ?_⟩
          by_cases e' : r' = r
          · rw [e'] at h3 ⊢
            rw [p2.2] at h3
            exact SK_fz p2 (q3 h3)
          · exact p3 r' (by omega) h2 h3
        · exact .inr ⟨by omega, by omega⟩
      · exact .inr ⟨p1, by omega⟩
theorem sl_170_2 {R m : Nat} : ∀ (n : Nat) (s : gx_S), tw s + 1 < n → RK s R m → WB s → ∃ u : gx_S, gm_170_2 n 1 s = some u ∧ GW s u ∧ RK u R m ∧ ∀ r, r < R → 0 < u.2 231 r → SK u r R m := by
  intro n
  induction n with
  | zero =>
    intro s h
    have : 0 ≤ tw s := sg_nn fun k _ => by show (0 : Int) ≤ ((s.2 231 k).toNat : Int); omega
    omega
  | succ n ih =>
    intro s h K W
    have R8 : R ≤ 8 := K.2.2.2.2.1
    obtain ⟨x, u, w1, w2, w3, w4⟩ := sl_170_10 (gm_170_2 n) 100000 0 0 s (by omega) (by omega) K W (.inl rfl)
    have w1 : gm_170_10 (gm_170_2 n) 100000 0 0 s = gm_170_2 n x u := w1
    rw [gm_170_2, if_pos (by decide), if_neg (by decide), w1]
    rcases w4 with ⟨p1, p2, p3⟩ | ⟨p1, p2⟩
    · have : 0 ≤ tw s := sg_nn fun k _ => by show (0 : Int) ≤ ((s.2 231 k).toNat : Int); omega
      obtain ⟨n', e⟩ : ∃ n', n = n' + 1 := ⟨n - 1, by omega⟩
      rw [p1, e, gm_170_2, if_pos (by decide), if_pos rfl]
      exact ⟨u, rfl, w2, w3, fun r hr => p3 r (by omega) hr⟩
    · rw [p1]
      obtain ⟨v, v1, v2, v3, v4⟩ := ih u (by omega) w3 (GW_WB w2 W)
      exact ⟨v, v1, GW_tr w2 v2, v3, v4⟩
theorem sp_170 {R m : Nat} {s : gx_S} (K : RK s R m) (W : WB s) : ∃ u : gx_S, gm_170 s = some u ∧ GW s u ∧ RK u R m ∧ ∀ r, r < R → 0 < u.2 231 r → SK u r R m := by
  refine sl_170_2 100000 s ?_ K W
  have a : tw s ≤ 8000 := sg_le (g := fun _ => 1000) fun k hk => by
    have := W k hk
    show ((s.2 231 k).toNat : Int) ≤ 1000
    omega
  show tw s + 1 < 100000
  omega
