/-! THE CLASS's TABLE: cut -/
def am (s : gx_S) (t r c : Nat) : Int := if sg (fun c => s.1 (t + 4) (9 * r + c)) 9 = 0 then s.1 (t + 5) (9 * r + c) else s.1 (t + 4) (9 * r + c)
def aw (s : gx_S) (t r : Nat) : Int := sg (fun c => am s t r c) 9
def af (s : gx_S) (t r c : Nat) : Int := if aw s t r ≤ 0 then 0 else s.1 (t + 1) r * am s t r c / aw s t r
def ar (s : gx_S) (t r c : Nat) : Int := if aw s t r ≤ 0 then 0 else s.1 (t + 1) r * am s t r c % aw s t r
theorem sl_70b {a : gx_S} {t r : Nat} {W : Int} (k : Nat → Int → gx_S → Option gx_S) (ht : fx_oc t 7 = true) (hr : r < 8) (hp : 0 ≤ a.1 (t + 1) r ∧ a.1 (t + 1) r ≤ 100000000) (ha : ∀ c, c < 9 → 0 ≤ a.1 (t + 4) (9 * r + c) ∧ a.1 (t + 4) (9 * r + c) ≤ 1000000) (hw : sg (fun c => a.1 (t + 4) (9 * r + c)) 9 = W) : gm_70_57 k t r a = k t ((r : Int) + 1) (cr (gw1 a (t + 2) r W) t r W 9) := by
  have w0 : 0 ≤ W := by rw [← hw]; exact sg_nn fun c hc => (ha c hc).1
  have w1 : W ≤ 9000000 := by
    have := sg_le (f := fun c => a.1 (t + 4) (9 * r + c)) (g := fun _ => 1000000) (n := 9) fun c hc => (ha c hc).2
    rw [hw] at this
    exact this
  have o : ∀ k j, k ≠ t + 2 → (gw1 a (t + 2) r W).1 k j = a.1 k j := fun k j h => by rw [gw1_1, if_neg (fun x => h x.1)]
  have e := sp_71 (s := gw1 a (t + 2) r W) (W := W) ht hr (by rw [o _ _ (by omega)]; exact hp) (fun c hc => by rw [o _ _ (by omega)]; exact ha c hc) (by omega)
  have x : (gw1 a (t + 2) r W).1 (t + 2) r = W := by rw [gw1_1, if_pos ⟨rfl, rfl⟩]
  unfold gm_70_57
  rw [sp_72 (ga_7_3 ht) hr, hw, Option.bind_some, show ((r : Int)).toNat = r by omega]
  simp (disch := omega) only [if_pos, x, e, Option.bind_some]
/-- whether a row has no weight -/
def pl (s : gx_S) (t r : Nat) : Int := if sg (fun c => s.1 (t + 4) (9 * r + c)) 9 = 0 then 1 else 0
theorem sl_70 {s : gx_S} {t r : Nat} (n : Nat) (ht : fx_oc t 7 = true) (hr : r < 8) (hp : 0 ≤ s.1 (t + 1) r ∧ s.1 (t + 1) r ≤ 100000000) (ha : ∀ c, c < 9 → (0 ≤ s.1 (t + 4) (9 * r + c) ∧ s.1 (t + 4) (9 * r + c) ≤ 1000000) ∧ (0 ≤ s.1 (t + 5) (9 * r + c) ∧ s.1 (t + 5) (9 * r + c) ≤ 1000000)) : ∃ u : gx_S, gm_70_2 (n + 1) t r s = gm_70_2 n t ((r : Int) + 1) u ∧ u.2 = s.2 ∧ u.1 (t + 2) r = aw s t r ∧ (∀ c, c < 9 → u.1 (t + 4) (9 * r + c) = am s t r c ∧ u.1 (t + 6) (9 * r + c) = af s t r c ∧ u.1 (t + 7) (9 * r + c) = ar s t r c ∧ u.1 (t + 8) (9 * r + c) = af s t r c) ∧ (∀ k j, ¬ (k = t + 2 ∧ j = r) → ¬ (k = t + 3 ∧ j = r) → ¬ ((k = t + 4 ∨ k = t + 6 ∨ k = t + 7 ∨ k = t + 8) ∧ 9 * r ≤ j ∧ j < 9 * r + 9) → u.1 k j = s.1 k j) ∧ u.1 (t + 3) r = pl s t r := by
  have w0 : 0 ≤ sg (fun c => s.1 (t + 4) (9 * r + c)) 9 := sg_nn fun c hc => (ha c hc).1.1
  have w1 : sg (fun c => s.1 (t + 4) (9 * r + c)) 9 ≤ 9000000 := sg_le (f := fun c => s.1 (t + 4) (9 * r + c)) (g := fun _ => 1000000) (n := 9) fun c hc => (ha c hc).1.2
  have i5 : ((r : Int)).toNat = r := by omega
  have i9 : ((r : Int) * 9).toNat = 9 * r := by omega
  obtain ⟨p3, l3⟩ := gx_a_p (ga_7_2 ht)
  have l3' : ((fx_sh (t + 3)).2 : Int) = 8 := by rw [l3]; rfl
  obtain ⟨a, a1, a2, a3, a5, a4⟩ : ∃ a : gx_S, gm_70_2 (n + 1) t r s = gm_70_57 (gm_70_2 n) t r a ∧ a.2 = s.2 ∧ (∀ c, c < 9 → a.1 (t + 4) (9 * r + c) = am s t r c) ∧ a.1 (t + 3) r = pl s t r ∧ ∀ k j, ¬ (k = t + 3 ∧ j = r) → ¬ (k = t + 4 ∧ 9 * r ≤ j ∧ j < 9 * r + 9) → a.1 k j = s.1 k j := by
    rw [gm_70_2, sp_72 (ga_7_3 ht) hr]
    by_cases z : sg (fun c => s.1 (t + 4) (9 * r + c)) 9 = 0
    · refine ⟨gcp (gw1 s (t + 3) r 1) (t + 5) (9 * r) (t + 4) (9 * r) 9, ?_, rfl, fun c hc => ?_, ?_, fun k j h1 h2 => ?_⟩
      · rw [z]
        simp (disch := first | omega | assumption) only [if_pos, if_neg, Option.bind_some, gm_70_31, l3', i5, i9]
        exact if_neg fun h => h trivial
      · show (if _ then _ else _) = am s t r c
        rw [if_pos (by omega), gw1_1, if_neg (by omega), show 9 * r + (9 * r + c - 9 * r) = 9 * r + c by omega]
        exact (if_pos z).symm
      · show (if t + 3 = t + 4 ∧ _ then _ else (gw1 s (t + 3) r 1).1 (t + 3) r) = pl s t r
        rw [if_neg (by omega), gw1_1, if_pos ⟨rfl, rfl⟩]
        exact (if_pos z).symm
      · show (if _ then _ else _) = s.1 k j
        rw [if_neg h2, gw1_1, if_neg h1]
    · refine ⟨gw1 s (t + 3) r 0, ?_, rfl, fun c hc => ?_, ?_, fun k j h1 h2 => ?_⟩
      · generalize sg (fun c => s.1 (t + 4) (9 * r + c)) 9 = W at *
        simp (disch := first | omega | assumption) only [if_pos, if_neg, Option.bind_some, gm_70_31, l3', i5, i9]
      · rw [gw1_1, if_neg (by omega)]
        exact (if_neg z).symm
      · rw [gw1_1, if_pos ⟨rfl, rfl⟩]
        exact (if_neg z).symm
      · rw [gw1_1, if_neg h1]
  have haw : sg (fun c => a.1 (t + 4) (9 * r + c)) 9 = aw s t r := sg_eq fun c hc => a3 c hc
  have ap : a.1 (t + 1) r = s.1 (t + 1) r := a4 _ _ (by omega) (by omega)
  have e := sl_70b (a := a) (W := aw s t r) (gm_70_2 n) ht hr (by rw [ap]; exact hp) (fun c hc => by
    rw [a3 c hc]
    unfold am
    have := ha c hc
    split <;> omega) haw
  have b1 : (gw1 a (t + 2) r (aw s t r)).1 (t + 1) r = s.1 (t + 1) r := by rw [gw1_1, if_neg (by omega), ap]
  have b4 : ∀ c, c < 9 → (gw1 a (t + 2) r (aw s t r)).1 (t + 4) (9 * r + c) = am s t r c := fun c hc => by rw [gw1_1, if_neg (by omega), a3 c hc]
  have f : ∀ c, c < 9 → fl (gw1 a (t + 2) r (aw s t r)) t r (aw s t r) (9 * r + c) = af s t r c := fun c hc => by
    unfold fl af
    rw [b1, b4 c hc]
  have g : ∀ c, c < 9 → rs (gw1 a (t + 2) r (aw s t r)) t r (aw s t r) (9 * r + c) = ar s t r c := fun c hc => by
    unfold rs ar
    rw [b1, b4 c hc]
  refine ⟨_, a1.trans e, a2, ?_, fun c hc => ⟨?_, ?_, ?_, ?_⟩, fun k j h1 h2 h3 => ?_, ?_⟩
  · show (if _ then _ else if _ then _ else if _ then _ else _) = aw s t r
    rw [if_neg (by omega), if_neg (by omega), if_neg (by omega), gw1_1, if_pos ⟨rfl, rfl⟩]
  · show (if _ then _ else if _ then _ else if _ then _ else _) = am s t r c
    rw [if_neg (by omega), if_neg (by omega), if_neg (by omega), b4 c hc]
  · show (if _ then _ else if _ then _ else if _ then _ else _) = af s t r c
    rw [if_pos (by omega), f c hc]
  · show (if _ then _ else if _ then _ else if _ then _ else _) = ar s t r c
    rw [if_neg (by omega), if_pos (by omega), g c hc]
  · show (if _ then _ else if _ then _ else if _ then _ else _) = af s t r c
    rw [if_neg (by omega), if_neg (by omega), if_pos (by omega), f c hc]
  · show (if _ then _ else if _ then _ else if _ then _ else _) = s.1 k j
    rw [if_neg (by omega), if_neg (by omega), if_neg (by omega), gw1_1, if_neg h1, a4 k j h2 (by omega)]
  · show (if _ then _ else if _ then _ else if _ then _ else _) = pl s t r
    rw [if_neg (by omega), if_neg (by omega), if_neg (by omega), gw1_1, if_neg (by omega), a5]
