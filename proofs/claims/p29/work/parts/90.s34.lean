/-! THE REFERENCE's BALANCED TABLE: makesPlace and finds -/
theorem put_1 (s : gx_S) (r c k j : Nat) (h : k ≠ 232) : (put s r c).1 k j = s.1 k j := if_neg fun x => h x.1
theorem put_2 (s : gx_S) (r c k j : Nat) (h : k ≠ 230) : (put s r c).2 k j = s.2 k j := if_neg fun x => h x.1
theorem put_on (s : gx_S) (r c j : Nat) : (put s r c).1 232 j = if j = 9 * r + c then 1 else s.1 232 j := by
  show (if _ then _ else _) = _
  by_cases e : j = 9 * r + c
  · rw [if_pos ⟨rfl, e⟩, if_pos e]
  · rw [if_neg (fun h => e h.2), if_neg e]
theorem put_fi (s : gx_S) (r c j : Nat) : (put s r c).2 230 j = s.2 230 j + if j = c then 1 else 0 := by
  show (if _ then _ else _) = _
  by_cases e : j = c
  · rw [if_pos ⟨rfl, e⟩, if_pos e, e]
  · rw [if_neg (fun h => e h.2), if_neg e]
    exact (Int.add_zero _).symm
theorem off_1 (s : gx_S) (r c k j : Nat) (h : k ≠ 232) : (off1 s r c).1 k j = s.1 k j := if_neg fun x => h x.1
theorem off_2 (s : gx_S) (r c k j : Nat) (h : k ≠ 230) : (off1 s r c).2 k j = s.2 k j := if_neg fun x => h x.1
theorem off_on (s : gx_S) (r c j : Nat) : (off1 s r c).1 232 j = if j = 9 * r + c then 0 else s.1 232 j := by
  show (if _ then _ else _) = _
  by_cases e : j = 9 * r + c
  · rw [if_pos ⟨rfl, e⟩, if_pos e]
  · rw [if_neg (fun h => e h.2), if_neg e]
theorem off_fi (s : gx_S) (r c j : Nat) : (off1 s r c).2 230 j = s.2 230 j - if j = c then 1 else 0 := by
  show (if _ then _ else _) = _
  by_cases e : j = c
  · rw [if_pos ⟨rfl, e⟩, if_pos e, e]
  · rw [if_neg (fun h => e h.2), if_neg e]
    exact (Int.sub_zero _).symm
theorem RK_put {s : gx_S} {R m r c : Nat} (K : RK s R m) (h : 0 < s.2 225 (9 * r + c)) (hl : s.2 230 c < 1000) : RK (put s r c) R m := by
  obtain ⟨k1, k2, k3, k4, k5, k6⟩ := K
  refine ⟨fun j hj => ?_, fun d hd => ?_, k3, k4, k5, k6⟩
  · obtain ⟨a1, a2, a3, a4⟩ := k1 j hj
    rw [put_on, put_1 s r c 233 j (by decide), put_2 s r c 225 j (by decide), put_1 s r c 215 17 (by decide), put_1 s r c 215 18 (by decide)]
    by_cases e : j = 9 * r + c
    · rw [if_pos e, e]
      rw [e] at a2 a3
      exact ⟨.inr rfl, a2, a3, fun _ _ _ => h⟩
    · rw [if_neg e]
      exact ⟨a1, a2, a3, a4⟩
  · obtain ⟨b1, b2, b3, b4, b5⟩ := k2 d hd
    rw [put_fi, put_1 s r c 235 d (by decide), put_2 s r c 229 d (by decide)]
    refine ⟨b1, b2, b3, ?_, ?_⟩
    · split <;> omega
    · split
      · rename_i e
        rw [e]
        omega
      · omega
theorem RK_off {s : gx_S} {R m r c : Nat} (K : RK s R m) (hl : -1000 < s.2 230 c) : RK (off1 s r c) R m := by
  obtain ⟨k1, k2, k3, k4, k5, k6⟩ := K
  refine ⟨fun j hj => ?_, fun d hd => ?_, k3, k4, k5, k6⟩
  · obtain ⟨a1, a2, a3, a4⟩ := k1 j hj
    rw [off_on, off_1 s r c 233 j (by decide), off_2 s r c 225 j (by decide), off_1 s r c 215 17 (by decide), off_1 s r c 215 18 (by decide)]
    by_cases e : j = 9 * r + c
    · rw [if_pos e]
      exact ⟨.inl rfl, a2, a3, fun h => absurd h (by decide)⟩
    · rw [if_neg e]
      exact ⟨a1, a2, a3, a4⟩
  · obtain ⟨b1, b2, b3, b4, b5⟩ := k2 d hd
    rw [off_fi, off_1 s r c 235 d (by decide), off_2 s r c 229 d (by decide)]
    refine ⟨b1, b2, b3, ?_, ?_⟩
    · split
      · rename_i e
        rw [e]
        omega
      · omega
    · split <;> omega
theorem fs_mark (s : gx_S) (c : Nat) : fs s (gw1 s 235 c 1) := by
  refine ⟨fun k j h => ?_, rfl, fun d _ h => ?_⟩
  · rw [gw1_1, if_neg (fun x => h x.1)]
  · rw [gw1_1]
    split
    · rfl
    · exact h
theorem RK_mark {s : gx_S} {R m : Nat} (K : RK s R m) (c : Nat) : RK (gw1 s 235 c 1) R m := RK_fs K (fs_mark s c) fun d hd => by
  rw [gw1_1]
  split
  · exact .inr rfl
  · exact (K.2.1 d hd).1
theorem fs_or {s t : gx_S} (a : fs s t) (k : Nat) : or_ t k = or_ s k := sg_eq fun c _ => a.1 232 _ (by omega)
theorem fs_oc {s t : gx_S} (a : fs s t) (k : Nat) : oc_ t k = oc_ s k := by
  unfold oc_
  rw [a.2.1, sg_eq (f := fun r => t.1 232 (9 * r + k)) (g := fun r => s.1 232 (9 * r + k)) fun c _ => a.1 232 _ (by omega)]
theorem fs_us {s t : gx_S} (a : fs s t) (h : ∀ c, c < 9 → s.1 235 c = 0 ∨ s.1 235 c = 1) : us t ≤ us s := sg_le fun c hc => by
  show bi (t.1 235 c = 0) ≤ bi (s.1 235 c = 0)
  by_cases e : s.1 235 c = 0
  · rw [show bi (s.1 235 c = 0) = 1 from if_pos e]
    exact (bi_r _).2
  · have x := a.2.2 c hc ((h c hc).resolve_left e)
    rw [show bi (t.1 235 c = 0) = 0 from if_neg (by rw [x]; decide)]
    exact (bi_r _).1
theorem fo_put {s t : gx_S} {r c : Nat} (hc : c < 9) (a : fo s t) (h0 : s.1 235 c = 0) (h1 : mv_ s (9 * r + c)) : fo s (put t r c) := by
  refine ⟨fun k j x y => (put_1 t r c k j x).trans (a.1 k j x y), fun k j x => (put_2 t r c k j x).trans (a.2.1 k j x), fun d hd x => ?_, fun j hj => ?_⟩
  · obtain ⟨a1, a2, a3⟩ := a.2.2.1 d hd x
    have e : d ≠ c := fun e => by rw [e, h0] at x; exact absurd x (by decide)
    refine ⟨(put_1 t r c 235 d (by decide)).trans a1, ?_, fun r' hr' => ?_⟩
    · rw [put_fi, if_neg e, a2]
      exact Int.add_zero _
    · rw [put_on, if_neg (by omega)]
      exact a3 r' hr'
  · rw [put_on]
    by_cases e : j = 9 * r + c
    · rw [e]
      exact .inr h1
    · rw [if_neg e]
      exact a.2.2.2 j hj
theorem fo_off {s t : gx_S} {r c : Nat} (hc : c < 9) (a : fo s t) (h0 : s.1 235 c = 0) (h1 : mv_ s (9 * r + c)) : fo s (off1 t r c) := by
  refine ⟨fun k j x y => (off_1 t r c k j x).trans (a.1 k j x y), fun k j x => (off_2 t r c k j x).trans (a.2.1 k j x), fun d hd x => ?_, fun j hj => ?_⟩
  · obtain ⟨a1, a2, a3⟩ := a.2.2.1 d hd x
    have e : d ≠ c := fun e => by rw [e, h0] at x; exact absurd x (by decide)
    refine ⟨(off_1 t r c 235 d (by decide)).trans a1, ?_, fun r' hr' => ?_⟩
    · rw [off_fi, if_neg e, a2]
      exact Int.sub_zero _
    · rw [off_on, if_neg (by omega)]
      exact a3 r' hr'
  · rw [off_on]
    by_cases e : j = 9 * r + c
    · rw [e]
      exact .inr h1
    · rw [if_neg e]
      exact a.2.2.2 j hj
/-- makesPlace(c): the row found one elsewhere and gives this one up -/
theorem MT_of {s b t q : gx_S} {R m r c : Nat} (hr : r < R) (hc : c < m) (h0 : s.1 235 c = 0) (hf : s.2 229 c ≤ s.2 230 c) (B : fs s b) (B1 : b.1 235 c = 1) (a : fs b t) (T : RK t R m) (x1 : t.1 232 (9 * r + c) = 1) (x3 : t.1 233 (9 * r + c) = 0) (F : FT t q r R m) : MT s (off1 q r c) c R m := by
  obtain ⟨F1, F2, F3, F4, c0, F5, F6, F7⟩ := F
  obtain ⟨k1, k2, k3, k4, k5, k6⟩ := T
  have A := fs_tr B a
  have tc := a.2.2 c (by omega) B1
  obtain ⟨p1, p2, p3⟩ := F1.2.2.1 c (by omega) tc
  have ne : c0 ≠ c := fun e => by
    have := F7 c (by omega)
    rw [if_pos e.symm] at this
    omega
  obtain ⟨y1, y2⟩ := off_s (s := q) (r := r) (c := c) (by omega) (by omega) ((p3 r (by omega)).trans x1)
  have s3 : s.1 233 (9 * r + c) = 0 := (A.1 233 _ (by omega)).symm.trans x3
  have s5 : 0 < s.2 225 (9 * r + c) := by
    rw [← A.2.1]
    exact (k1 (9 * r + c) (by omega)).2.2.2 x1 (by rw [k3]; omega) (by rw [k4]; omega)
  have l1 := (k2 c (by omega)).2
  have l2 : t.2 230 c = s.2 230 c := by rw [A.2.1]
  have l3 : t.2 229 c = s.2 229 c := by rw [A.2.1]
  have sm : mv_ s (9 * r + c) := ⟨s3, s5, by rw [← A.1 215 17 (by omega), k3]; omega, by rw [← A.1 215 18 (by omega), k4]; omega⟩
  refine ⟨fo_off (by omega) (fo_tr (fs_fo A) F1) h0 sm, RK_off F2 (by omega), (off_1 q r c 235 c (by decide)).trans p1, fun k hk => ?_, fun k hk => ?_, fun r' hr' z => ?_, c0, F5, ne, ?_, fun k hk => ?_⟩
  · rw [y1, F3 k hk, fs_or A]
    omega
  · rw [y2 k hk, F4 k hk, fs_oc A]
  · rw [off_on]
    split
    · rfl
    · rw [p3 r' hr', A.1 232 _ (by omega)]
      exact z
  · rw [← A.2.1]
    exact F6
  · rw [off_fi, F7 k hk, A.2.1]
theorem sl_169 {R m c : Nat} {n0 : Int} {s b : gx_S} (k168 k169 : Int → gx_S → Option (Bool × gx_S)) (hc : c < m) (h0 : s.1 235 c = 0) (hf : s.2 229 c ≤ s.2 230 c) (B : fs s b) (B1 : b.1 235 c = 1) (Bk : RK b R m) (hu : us b < n0) (H : ∀ (r : Nat) (t : gx_S), r < R → RK t R m → us t < n0 → ∃ (v : Bool) (q : gx_S), k168 r t = some (v, q) ∧ (v = true → FT t q r R m) ∧ (v = false → FF t q r R m)) : ∀ (n r : Nat) (t : gx_S), R < n + r → r ≤ R → fs b t → RK t R m → CLs b t R m → (∀ r', r' < r → b.1 232 (9 * r' + c) = 1 → b.1 233 (9 * r' + c) = 0 → ∀ d, d < m → can1 b r' d → t.1 235 d = 1) → ∃ (v : Bool) (q : gx_S), gm_169_2 k168 k169 n c r t = some (v, q) ∧ (v = true → MT s q c R m) ∧ (v = false → MN b q c R m) := by
  have hm : m ≤ 9 := Bk.2.2.2.2.2
  intro n
  induction n with
  | zero => intro r t hn; omega
  | succ n ih =>
    intro r t hn hr a T L cl
    by_cases e : r = R
    · rw [e, se_169_end k168 k169 n T]
      exact ⟨false, t, rfl, fun h => Bool.noConfusion h, fun _ => ⟨a, T, L, fun r' h' => cl r' (by omega)⟩⟩
    · have hrR : r < R := by omega
      have ce : ((r : Int) + 1) = ((r + 1 : Nat) : Int) := rfl
      by_cases x : t.1 232 (9 * r + c) = 0 ∨ ¬ t.1 233 (9 * r + c) = 0
      · rw [se_169_skip k168 k169 n T hrR (by omega) x, ce]
        refine ih (r + 1) t (by omega) (by omega) a T L fun r' h' => ?_
        by_cases e' : r' = r
        · intro q1 q2
          rw [e', ← a.1 232 _ (by omega)] at q1
          rw [e', ← a.1 233 _ (by omega)] at q2
          rcases x with x | x
          · rw [x] at q1
            exact absurd q1 (by decide)
          · exact absurd q2 x
        · exact cl r' (by omega)
      · have x2 : ¬ t.1 232 (9 * r + c) = 0 := fun h => x (.inl h)
        have x3 : t.1 233 (9 * r + c) = 0 := Classical.byContradiction fun h => x (.inr h)
        have R8 : R ≤ 8 := T.2.2.2.2.1
        have x1 := (T.1 (9 * r + c) (by omega)).1.resolve_left x2
        obtain ⟨v, q, w1, w2, w3⟩ := H r t hrR T (Int.lt_of_le_of_lt (fs_us a fun d hd => (Bk.2.1 d hd).1) hu)
        rw [se_169_use k168 k169 n T hrR (by omega) x2 x3, w1, Option.bind_some]
        cases v with
        | true =>
          exact ⟨true, off1 q r c, rfl, fun _ => MT_of hrR hc h0 hf B B1 a T x1 x3 (w2 rfl), fun h => Bool.noConfusion h⟩
        | false =>
          obtain ⟨f1, f2, f3, f4⟩ := w3 rfl
          rw [if_neg (show ¬ (false, q).1 = true from Bool.false_ne_true), ce]
          refine ih (r + 1) q (by omega) (by omega) (fs_tr a f1) f2 (CLs_tr hm a f1 (fun d hd => (T.2.1 d hd).1) L f3) fun r' h' q1 q2 d hd q3 => ?_
          by_cases e' : r' = r
          · rw [e'] at q3
            exact f4 d hd ((can1_fs a r d).mpr q3)
          · exact f1.2.2 d (by omega) (cl r' (by omega) q1 q2 d hd q3)
/-- finds(r): a place free -/
theorem FT_a {s t : gx_S} {R m r c : Nat} (a : fs s t) (T : RK t R m) (hr : r < R) (hc : c < m) (h0 : s.1 235 c = 0) (cn : can1 t r c) (hl : t.2 230 c < t.2 229 c) : FT s (put t r c) r R m := by
  obtain ⟨k1, k2, k3, k4, k5, k6⟩ := id T
  obtain ⟨y1, y2⟩ := put_s (s := t) (r := r) (c := c) (by omega) (by omega) cn.2.2
  have l1 := (k2 c (by omega)).2
  refine ⟨fo_put (by omega) (fs_fo a) h0 ?_, RK_put T cn.1 (by omega), fun k hk => ?_, fun k hk => ?_, c, hc, ?_, fun k hk => ?_⟩
  · exact ⟨by rw [← a.1 233 _ (by omega)]; exact cn.2.1, by rw [← a.2.1]; exact cn.1, by rw [← a.1 215 17 (by omega), k3]; omega, by rw [← a.1 215 18 (by omega), k4]; omega⟩
  · rw [y1, fs_or a]
  · rw [y2 k hk, fs_oc a]
  · rw [← a.2.1]
    exact hl
  · rw [put_fi, a.2.1]
/-- finds(r): a place made -/
theorem FT_b {s t q : gx_S} {R m r c : Nat} (a : fs s t) (T : RK t R m) (hr : r < R) (hc : c < m) (h0 : s.1 235 c = 0) (cn : can1 t r c) (M : MT t q c R m) : FT s (put q r c) r R m := by
  obtain ⟨k1, k2, k3, k4, k5, k6⟩ := id T
  obtain ⟨M1, M2, M3, M4, M5, M6, c0, M7, M8, M9, M10⟩ := M
  obtain ⟨y1, y2⟩ := put_s (s := q) (r := r) (c := c) (by omega) (by omega) (M6 r (by omega) cn.2.2)
  have l1 := (k2 c (by omega)).2
  have l2 := M10 c (by omega)
  rw [if_neg (fun h => M8 h.symm), if_pos rfl] at l2
  have c5 : 0 < q.2 225 (9 * r + c) := by
    rw [M1.2.1 225 _ (by omega)]
    exact cn.1
  refine ⟨fo_put (by omega) (fo_tr (fs_fo a) M1) h0 ?_, RK_put M2 c5 (by omega), fun k hk => ?_, fun k hk => ?_, c0, M7, ?_, fun k hk => ?_⟩
  · exact ⟨by rw [← a.1 233 _ (by omega)]; exact cn.2.1, by rw [← a.2.1]; exact cn.1, by rw [← a.1 215 17 (by omega), k3]; omega, by rw [← a.1 215 18 (by omega), k4]; omega⟩
  · rw [y1, M4 k hk, fs_or a]
  · rw [y2 k hk, M5 k hk, fs_oc a]
  · rw [← a.2.1]
    exact M9
  · rw [put_fi, M10 k hk, a.2.1]
    omega
theorem sl_168 {R m r : Nat} {n0 : Int} {s : gx_S} (k168 k169 : Int → gx_S → Option (Bool × gx_S)) (hr : r < R) (S : RK s R m) (hu : us s ≤ n0) (H : ∀ (c : Nat) (t : gx_S), c < m → RK t R m → t.1 235 c = 0 → t.2 229 c ≤ t.2 230 c → us t ≤ n0 → ∃ (v : Bool) (q : gx_S), k169 c (gw1 t 235 c 1) = some (v, q) ∧ (v = true → MT t q c R m) ∧ (v = false → MN (gw1 t 235 c 1) q c R m)) : ∀ (n c : Nat) (t : gx_S), m < n + c → c ≤ m → fs s t → RK t R m → CLs s t R m → (∀ d, d < c → can1 s r d → t.1 235 d = 1) → ∃ (v : Bool) (q : gx_S), gm_168_2 k168 k169 n r c t = some (v, q) ∧ (v = true → FT s q r R m) ∧ (v = false → FF s q r R m) := by
  have hm : m ≤ 9 := S.2.2.2.2.2
  have R8 : R ≤ 8 := S.2.2.2.2.1
  intro n
  induction n with
  | zero => intro c t hn; omega
  | succ n ih =>
    intro c t hn hc a T L cl
    by_cases e : c = m
    · rw [e, se_168_end k168 k169 n T]
      exact ⟨false, t, rfl, fun h => Bool.noConfusion h, fun _ => ⟨a, T, L, fun d hd => cl d (by omega)⟩⟩
    · have hcm : c < m := by omega
      have ce : ((c : Int) + 1) = ((c + 1 : Nat) : Int) := rfl
      by_cases x : can1 t r c ∧ t.1 235 c = 0
      · obtain ⟨cn, x0⟩ := x
        have s0 : s.1 235 c = 0 := by
          rcases (S.2.1 c (by omega)).1 with h | h
          · exact h
          · rw [a.2.2 c (by omega) h] at x0
            exact absurd x0 (by decide)
        rw [se_168_use k168 k169 n T (by omega) hcm cn x0]
        by_cases f : t.2 230 c < t.2 229 c
        · rw [if_pos f]
          exact ⟨true, _, rfl, fun _ => FT_a (fs_tr a (fs_mark t c)) (RK_mark T c) hr hcm s0 ((can1_fs (fs_mark t c) r c).mpr cn) f, fun h => Bool.noConfusion h⟩
        · rw [if_neg f]
          obtain ⟨v, q, w1, w2, w3⟩ := H c t hcm T x0 (by omega) (Int.le_trans (fs_us a fun d hd => (S.2.1 d hd).1) hu)
          rw [w1, Option.bind_some]
          cases v with
          | true =>
            exact ⟨true, put q r c, rfl, fun _ => FT_b a T hr hcm s0 cn (w2 rfl), fun h => Bool.noConfusion h⟩
          | false =>
            obtain ⟨f1, f2, f3, f4⟩ := w3 rfl
            have g1 := fs_mark t c
            have g2 : (gw1 t 235 c 1).1 235 c = 1 := if_pos ⟨rfl, rfl⟩
            have g3 := fs_tr g1 f1
            rw [if_neg (show ¬ (false, q).1 = true from Bool.false_ne_true), ce]
            refine ih (c + 1) q (by omega) (by omega) (fs_tr a g3) f2 (CLs_tr hm a g3 (fun d hd => (T.2.1 d hd).1) L fun d hd h0 h1 => ?_) fun d hd q3 => ?_
            · by_cases e' : d = c
              · rw [e']
                refine ⟨by omega, fun r' hr' q1 q2 d' hd' q3 => f4 r' hr' ?_ ?_ d' hd' ((can1_fs g1 r' d').mpr q3)⟩
                · rw [g1.1 232 _ (by omega)]
                  exact q1
                · rw [g1.1 233 _ (by omega)]
                  exact q2
              · obtain ⟨z1, z2⟩ := f3 d hd (by rw [gw1_1, if_neg (fun h => e' h.2)]; exact h0) h1
                exact ⟨z1, fun r' hr' q1 q2 d' hd' q3 => z2 r' hr' (by rw [g1.1 232 _ (by omega)]; exact q1) (by rw [g1.1 233 _ (by omega)]; exact q2) d' hd' ((can1_fs g1 r' d').mpr q3)⟩
            · by_cases e' : d = c
              · rw [e']
                exact f1.2.2 c (by omega) g2
              · exact g3.2.2 d (by omega) (cl d (by omega) q3)
      · rw [se_168_skip k168 k169 n T (by omega) hcm x, ce]
        refine ih (c + 1) t (by omega) (by omega) a T L fun d hd q3 => ?_
        by_cases e' : d = c
        · rw [e'] at q3 ⊢
          exact (T.2.1 c (by omega)).1.resolve_left fun h => x ⟨(can1_fs a r c).mpr q3, h⟩
        · exact cl d (by omega) q3
theorem sp_168f {R m : Nat} : ∀ (n r : Nat) (s : gx_S), r < R → RK s R m → us s < n → ∃ (v : Bool) (q : gx_S), gm_168f n r s = some (v, q) ∧ (v = true → FT s q r R m) ∧ (v = false → FF s q r R m) := by
  intro n
  induction n with
  | zero =>
    intro r s hr K h
    have : 0 ≤ us s := sg_nn fun k _ => (bi_r _).1
    omega
  | succ n ih =>
    intro r s hr K h
    rw [gm_168f]
    unfold gm_168o
    have R8 : R ≤ 8 := K.2.2.2.2.1
    have m9 : m ≤ 9 := K.2.2.2.2.2
    refine sl_168 (n0 := n) _ _ hr K (by omega) (fun c t hc T h0 hf hu => ?_) 100000 0 s (by omega) (by omega) (fs_rf s) K (fun c _ x y => by rw [x] at y; exact absurd y (by decide)) fun d hd => by omega
    show ∃ (v : Bool) (q : gx_S), gm_169o (gm_168f n) (fun _ _ => none) c (gw1 t 235 c 1) = some (v, q) ∧ _
    unfold gm_169o
    refine sl_169 (n0 := n) _ _ hc h0 hf (fs_mark t c) (if_pos ⟨rfl, rfl⟩) (RK_mark T c) ?_ ih 100000 0 _ (by omega) (by omega) (fs_rf _) (RK_mark T c) (fun c _ x y => by rw [x] at y; exact absurd y (by decide)) fun d hd => by omega
    rw [us_mark (by omega) h0]
    omega
theorem sp_168 {R m r : Nat} {s : gx_S} (hr : r < R) (K : RK s R m) : ∃ (v : Bool) (q : gx_S), gm_168 r s = some (v, q) ∧ (v = true → FT s q r R m) ∧ (v = false → FF s q r R m) := by
  refine sp_168f 12 r s hr K ?_
  have : us s ≤ 9 := sg_le (g := fun _ => 1) fun k _ => (bi_r _).2
  omega
