/-! the first of all tables that come right; the CLASS's balanced table is it -/
def LG (L O F0 W M : Nat → Int) : Prop := FE L O F0 W M ∧ ∀ T, FE L O F0 W T → ∀ j, j < 72 → (∀ i, i < j → T i = M i) → T j ≤ M j
theorem LG_un {L O F0 W M N : Nat → Int} (a : LG L O F0 W M) (b : LG L O F0 W N) : ∀ j, j < 72 → M j = N j := by
  have h : ∀ k j, j < k → j < 72 → M j = N j := by
    intro k
    induction k with
    | zero => intro j h; omega
    | succ k ih =>
      intro j h1 h2
      have x := b.2 M a.1 j h2 fun i hi => ih i (by omega) (by omega)
      have y := a.2 N b.1 j h2 fun i hi => (ih i (by omega) (by omega)).symm
      omega
  exact fun j hj => h (j + 1) j (by omega) hj
theorem FE_c {L O F0 W L' O' F' W' M N : Nat → Int} (h : FE L O F0 W M) (hL : ∀ c, c < 9 → L' c = L c) (hO : ∀ c, c < 9 → O' c = O c) (hF : ∀ i, i < 72 → F' i = F0 i) (hW : ∀ r, r < 8 → W' r = W r) (hM : ∀ i, i < 72 → N i = M i) : FE L' O' F' W' N := by
  refine ⟨fun i hi => ?_, fun r hr => ?_, fun c hc => ?_⟩
  · rw [hM i hi, hF i hi]
    exact h.1 i hi
  · rw [hW r hr, ← h.2.1 r hr]
    exact sg_eq fun c hc => hM _ (by omega)
  · rw [hL c hc, hO c hc, sg_eq (g := fun r => M (9 * r + c)) fun r hr => hM _ (by omega)]
    exact h.2.2 c hc
theorem LG_c {L O F0 W L' O' F' W' M N : Nat → Int} (h : LG L O F0 W M) (hL : ∀ c, c < 9 → L' c = L c) (hO : ∀ c, c < 9 → O' c = O c) (hF : ∀ i, i < 72 → F' i = F0 i) (hW : ∀ r, r < 8 → W' r = W r) (hM : ∀ i, i < 72 → N i = M i) : LG L' O' F' W' N := by
  refine ⟨FE_c h.1 hL hO hF hW hM, fun T hT j hj hi => ?_⟩
  have a := h.2 T (FE_c hT (fun c hc => (hL c hc).symm) (fun c hc => (hO c hc).symm) (fun c hc => (hF c hc).symm) (fun c hc => (hW c hc).symm) (fun _ _ => rfl)) j hj fun i h => by rw [hi i h, hM i (by omega)]
  rw [hM j hj]
  exact a
theorem FX_LG {L O F0 W : Nat → Int} {s : gx_S} (X : FX L O F0 W s 72) : LG L O F0 W (s.1 8) := by
  obtain ⟨x1, x2, x3, x4, x5, x6, x7⟩ := X
  refine ⟨⟨fun i hi => ⟨(x1.1 i hi).2, x4 i hi⟩, fun r hr => by rw [← x3 r hr, ph_r hr], fun c hc => ?_⟩, fun T hT j hj hi => x7 T hT j hj hj hi⟩
  have a := x1.2.2 c hc
  have b := x2 c hc
  have d := x1.2.1 c hc
  rw [ph_c hc] at a
  omega
/-- how many are left over in a row: 0 to 8 -/
theorem lo_r {s : gx_S} {t : Nat} (h : rv s t) {r : Nat} (hr : r < 8) : 0 ≤ lo s t r ∧ lo s t r ≤ 9 := by
  have v0 := h.1.1 r hr
  by_cases v : s.1 (t + 2) r ≤ 0
  · have : lo s t r = 0 := if_pos v
    omega
  · have a := (h.2 r hr).2
    have b := sg_le (f := fun c => s.1 (t + 7) (9 * r + c)) (g := fun _ => s.1 (t + 2) r) (n := 9) fun c hc => by
      have := h.1.2.2 r c hr hc
      show s.1 (t + 7) (9 * r + c) ≤ s.1 (t + 2) r
      omega
    have e : sg (fun _ => s.1 (t + 2) r) 9 = 9 * s.1 (t + 2) r := by
      show 0 + s.1 (t + 2) r + s.1 (t + 2) r + s.1 (t + 2) r + s.1 (t + 2) r + s.1 (t + 2) r + s.1 (t + 2) r + s.1 (t + 2) r + s.1 (t + 2) r + s.1 (t + 2) r = _
      omega
    have d := sg_nn (f := fun c => s.1 (t + 7) (9 * r + c)) (n := 9) fun c hc => (h.1.2.2 r c hr hc).1
    rw [a] at b d
    rw [e] at b
    refine ⟨?_, Int.le_of_mul_le_mul_right b (by omega)⟩
    exact Int.nonneg_of_mul_nonneg_left d (by omega)
def fr (s : gx_S) (t i : Nat) : Int := if s.1 (t + 7) i ≤ 0 then 0 else 1
def ls (s : gx_S) (t c : Nat) : Int := ro s t c (cm (s.1 (t + 2)) 8 : Nat) / (cm (s.1 (t + 2)) 8 : Nat)
def ms (s : gx_S) (t c : Nat) : Int := ls s t c + if ro s t c (cm (s.1 (t + 2)) 8 : Nat) % (cm (s.1 (t + 2)) 8 : Nat) = 0 then 0 else 1
theorem div8 {x K : Int} (hK : 0 < K) (h0 : 0 ≤ x) (h : x ≤ 8 * K) : 0 ≤ x / K ∧ x / K ≤ 8 :=
  ⟨Int.ediv_nonneg h0 (by omega), Int.le_trans (Int.ediv_le_ediv hK h) (Int.le_of_eq (Int.mul_ediv_cancel 8 (by omega)))⟩
theorem ls_r {s : gx_S} {t c : Nat} (h : tv s t) (hc : c < 9) : 0 ≤ ls s t c ∧ ls s t c ≤ 8 ∧ ls s t c ≤ ms s t c ∧ ms s t c ≤ 9 := by
  have hP := cm_pos (s.1 (t + 2)) 8
  unfold ms ls
  generalize cm (s.1 (t + 2)) 8 = N at *
  have a := ro_B h hc (K := (N : Int)) (by omega)
  have d := div8 (by omega) a.1 a.2
  split <;> omega
/-- open, fillRow, fillColumn and fix together -/
theorem sp_41b {s : gx_S} {t : Nat} (ht : fx_oc t 7 = true) (h : rv s t) (h8 : sg (s.1 (t + 2)) 8 ≤ 864) : ∃ u : gx_S, ((gm_42 t s).bind fun q => gm_41_20 100000 t 0 q) = some u ∧ LG (ls s t) (ms s t) (fr s t) (lo s t) (u.1 8) ∧ scg t s u ∧ (∀ j, j < 72 → u.1 (t + 8) j = s.1 (t + 6) j + u.1 8 j) ∧ ∀ j, 72 ≤ j → u.1 (t + 8) j = s.1 (t + 8) j := by
  have t14 := oc7_14 ht
  obtain ⟨a, a1, a2, a3, a4, a5⟩ := sp_42 ht h.1 h8
  obtain ⟨cA, cB⟩ := cut_42 h (fun i hi => (a4 i hi).1) (fun i hi => ⟨(a5 i hi).1, (a5 i hi).2.1⟩)
  have z : ∀ k j, 14 ≤ k → k ≠ t + 8 → a.1 k j = s.1 k j := fun k j h1 h2 => a2.2 k j (by omega) (by omega) h2
  have zl : lo a t = lo s t := funext fun r => by
    unfold lo
    simp only [z (t + 2) _ (by omega) (by omega), z (t + 1) _ (by omega) (by omega), z (t + 6) _ (by omega) (by omega)]
  have a9 : ∀ c, c < 9 → a.1 9 c = ls s t c := fun c hc => (a5 c hc).1
  have a10 : ∀ c, c < 9 → a.1 10 c = ms s t c := fun c hc => (a5 c hc).2.1
  have p0 : ∀ v, v < 17 → ph a v = 0 := fun v hv => by
    by_cases e : v < 8
    · rw [ph_r e]
      exact sg_0 fun c hc => (a4 _ (by omega)).2
    · obtain ⟨c, rfl⟩ : ∃ c, v = 8 + c := ⟨v - 8, by omega⟩
      rw [ph_c (by omega), (a5 c (by omega)).2.2, sg_0 fun r hr => (a4 _ (by omega)).2]
      rfl
  have F : FL a := by
    refine ⟨fun j hj => ?_, fun c hc => ?_, fun c hc => p0 _ (by omega)⟩
    · rw [(a4 j hj).1, (a4 j hj).2]
      split <;> omega
    · have r := ls_r h.1 hc
      rw [a9 c hc, a10 c hc, (a5 c hc).2.2]
      omega
  have M : MF a := fun j hj => by
    rw [(a4 j hj).1, (a4 j hj).2]
    split <;> omega
  obtain ⟨u, u1, u2, u3, u4, u5⟩ := sl_41r ht 100000 0 a F M (by rw [zl]; exact cA) (by rw [zl]; exact cB) (fun k hk => by
    have := h.1.1 k hk
    rw [z _ _ (by omega) (by omega)]
    unfold i32
    omega) (fun k hk => by rw [zl]; exact lo_r h hk) (fun k hk => by rw [p0 k (by omega), if_neg (by omega)]) (fun k hk => by rw [a9 k hk]; exact (ls_r h.1 hk).2.1) (by omega) (by omega)
  refine ⟨u, ?_, LG_c (FX_LG u2) (fun c hc => (a9 c hc).symm) (fun c hc => (a10 c hc).symm) (fun i hi => (a4 i hi).1.symm) (fun r hr => by rw [zl]) (fun _ _ => rfl), scg_tr a2 u3, fun j hj => ?_, fun j hj => ?_⟩
  · rw [a1, Option.bind_some]
    exact u1
  · rw [u4 j hj, z _ _ (by omega) (by omega)]
  · rw [u5 j hj, a3]
