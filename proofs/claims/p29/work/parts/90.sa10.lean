/-! FIT: cells by zone and land; the class looks -/
def CLn (f : Nat → Int) (C z l n : Nat) : Int := sg (fun k => bi (co f C 0 k = z ∧ co f C 2 k = l)) n
theorem CLn_r (f : Nat → Int) (C z l : Nat) : ∀ n : Nat, 0 ≤ CLn f C z l n ∧ CLn f C z l n ≤ n := by
  intro n
  refine ⟨sg_nn fun k _ => (bi_r _).1, ?_⟩
  rw [← sg_one n]
  exact sg_le fun k _ => (bi_r _).2
def CL (f : Nat → Int) (R C z l : Nat) : Int := CLn f C z l (R * C)
theorem CL_NC {f : Nat → Int} {R C z : Nat} (M : MP f R C) (h7 : f 2 = 7) : sg (fun l => CL f R C z l) 4 = NC f R C 0 z := by
  unfold NC
  rw [if_pos (by rw [h7]; rfl)]
  refine (sg_swap (fun l k => bi (co f C 0 k = z ∧ co f C 2 k = l)) (R * C) 4).trans (sg_eq fun k hk => ?_)
  show sg (fun l => bi (co f C 0 k = z ∧ co f C 2 k = l)) 4 = bi (f (52 + 96 * 0 + 12 * (k / C) + k % C) = (z : Int))
  have cs := co_s M h7 hk
  rw [cs.1.1]
  by_cases q : co f C 0 k = z
  · have e := sg_single (f := fun l => bi (co f C 0 k = z ∧ co f C 2 k = l)) (n := 4) (i := co f C 2 k) (by omega) fun c hc h => by
      show bi (co f C 0 k = z ∧ co f C 2 k = c) = 0
      unfold bi
      rw [if_neg (fun t => h t.2.symm)]
    rw [e]
    unfold bi
    rw [if_pos ⟨q, rfl⟩, if_pos (by rw [q])]
  · have e := sg_0 (f := fun l => bi (co f C 0 k = z ∧ co f C 2 k = l)) (n := 4) fun c hc => by
      show bi (co f C 0 k = z ∧ co f C 2 k = c) = 0
      unfold bi
      rw [if_neg (fun t => q t.1)]
    rw [e]
    unfold bi
    rw [if_neg (fun t => q (by omega))]
theorem CL_KZ {f : Nat → Int} {R C z : Nat} (M : MP f R C) (h7 : f 2 = 7) : KZ (CL f R C) z ↔ 0 < NC f R C 0 z := by
  show 0 < sg (fun l => CL f R C z l) 4 ↔ _
  rw [CL_NC M h7]
theorem CL_z {f : Nat → Int} {R C z : Nat} (M : MP f R C) (h7 : f 2 = 7) (h : ¬ 0 < NC f R C 0 z) {l : Nat} (hl : l < 4) : CL f R C z l = 0 := by
  have a := sg_at (f := fun l => CL f R C z l) (n := 4) (fun k _ => (CLn_r f C z k (R * C)).1) l hl
  have b := (CLn_r f C z l (R * C)).1
  have a : CL f R C z l ≤ sg (fun l => CL f R C z l) 4 := a
  have b : 0 ≤ CL f R C z l := b
  rw [CL_NC M h7] at a
  omega
/-- who was counted, all of them -/
def Cc (f : Nat → Int) (g z : Nat) : Int := f (5 + 9 * g + z)
def CP (f : Nat → Int) (R C g : Nat) : Int := sg (L0 f R C g) 8
theorem CL_XB {f : Nat → Int} {R C g : Nat} (M : MP f R C) (hg : g < 3) : XB (CL f R C) (Cc f g) (CP f R C g) := by
  have hRC := RC_96 M.1.2.2.1 M.1.2.2.2
  obtain ⟨a, b⟩ := M.2.2.2.2.1 g hg
  obtain ⟨l1, l2⟩ := L0_r M hg
  have u := UN_r M hg
  refine ⟨fun z l _ _ => ?_, fun z hz => ?_, sg_nn l1, ?_⟩
  · have := CLn_r f C z l (R * C)
    show 0 ≤ CLn f C z l (R * C) ∧ CLn f C z l (R * C) ≤ 96
    omega
  · have := sg_at a z (by omega)
    have := a z (by omega)
    show 0 ≤ f (5 + 9 * g + z) ∧ f (5 + 9 * g + z) ≤ 89991
    omega
  · show sg (L0 f R C g) 8 ≤ 89991
    omega
theorem sl_11 {f : Nat → Int} {R C z ρ : Nat} {A : Nat → Int} (M : MP f R C) (h7 : f 2 = 7) (hz : z < 8) (hρ : ρ < 8) : ∀ (n k : Nat) (t : gx_S), R * C < n + k → k ≤ R * C → MR t 1 f R C → t.1 62 2 = ρ → (∀ l, l < 4 → t.1 65 (4 * ρ + l) = CLn f C z l k) → (∀ l, l < 4 → t.1 66 l = A l + CLn f C z l k) → ∃ u : gx_S, gm_11_8 n 1 z ((R * C : Nat) : Int) k t = some u ∧ u.2 = t.2 ∧ (∀ a i, a ≠ 65 → a ≠ 66 → u.1 a i = t.1 a i) ∧ (∀ l, l < 4 → u.1 65 (4 * ρ + l) = CLn f C z l (R * C)) ∧ (∀ l, l < 4 → u.1 66 l = A l + CLn f C z l (R * C)) ∧ ∀ i, ¬ (4 * ρ ≤ i ∧ i < 4 * ρ + 4) → u.1 65 i = t.1 65 i := by
  intro n
  induction n with
  | zero => intro k t h; omega
  | succ n ih =>
    intro k t h hk m e2 e65 e66
    have hRC := RC_96 M.1.2.2.1 M.1.2.2.2
    rw [gm_11_8, if_pos (by omega), if_pos (by omega)]
    by_cases q : k = R * C
    · rw [if_pos (by omega)]
      rw [q] at e65 e66
      exact ⟨t, rfl, rfl, fun _ _ _ _ => rfl, e65, e66, fun _ _ => rfl⟩
    · have hkk : k < R * C := by omega
      have cs := co_s M h7 hkk
      obtain ⟨g0, g1, g2⟩ := sp_60g m M h7 hkk
      have ce : ((k : Int) + 1) = ((k + 1 : Nat) : Int) := rfl
      have st : ∀ l, CLn f C z l (k + 1) = CLn f C z l k + bi (co f C 0 k = z ∧ co f C 2 k = l) := fun l => rfl
      rw [if_neg (by omega), g0, Option.bind_some]
      dsimp only
      rw [if_pos (by omega), if_pos (by omega)]
      by_cases y : co f C 0 k = z
      · rw [if_neg (show ¬ ¬ (co f C 0 k : Int) = (z : Int) by omega), g2, Option.bind_some]
        dsimp only
        have i1 : ((ρ : Int) * 4 + (co f C 2 k : Int)).toNat = 4 * ρ + co f C 2 k := by omega
        have i2 : ((co f C 2 k : Int)).toNat = co f C 2 k := by omega
        rw [e2, if_pos (by omega), if_pos (by omega), i1, i2]
        unfold gm_11_63
        rw [ce]
        have l4 : co f C 2 k < 4 := by omega
        generalize co f C 2 k = l0 at st l4
        obtain ⟨v, hv⟩ : ∃ v, v = gw1 (gw1 t 65 (4 * ρ + l0) (t.1 65 (4 * ρ + l0) + 1)) 66 l0 ((gw1 t 65 (4 * ρ + l0) (t.1 65 (4 * ρ + l0) + 1)).1 66 l0 + 1) := ⟨_, rfl⟩
        have vo : ∀ a i, a ≠ 65 → a ≠ 66 → v.1 a i = t.1 a i := fun a i h1 h2 => by rw [hv, gw1_1, if_neg (fun x => h2 x.1), gw1_1, if_neg (fun x => h1 x.1)]
        have v65 : ∀ i, v.1 65 i = if i = 4 * ρ + l0 then t.1 65 (4 * ρ + l0) + 1 else t.1 65 i := fun i => by
          rw [hv, gw1_1, if_neg (by omega), gw1_1]
          by_cases p : i = 4 * ρ + l0
          · rw [if_pos ⟨rfl, p⟩, if_pos p]
          · rw [if_neg (fun x => p x.2), if_neg p]
        have v66 : ∀ i, v.1 66 i = if i = l0 then t.1 66 l0 + 1 else t.1 66 i := fun i => by
          rw [hv, gw1_1]
          by_cases p : i = l0
          · rw [if_pos ⟨rfl, p⟩, if_pos p, gw1_1, if_neg (by omega)]
          · rw [if_neg (fun x => p x.2), if_neg p, gw1_1, if_neg (by omega)]
        have v2 : v.2 = t.2 := by rw [hv]; rfl
        rw [← hv]
        have bl : ∀ l, bi (co f C 0 k = z ∧ l0 = l) = if l = l0 then 1 else 0 := fun l => by
          unfold bi
          by_cases p : l = l0
          · rw [if_pos p, if_pos ⟨y, p.symm⟩]
          · rw [if_neg p, if_neg (fun x => p x.2.symm)]
        obtain ⟨u, u1, u2, u3, u4, u5, u6⟩ := ih (k + 1) v (by omega) (by omega) (MR_o (fun a i h1 h2 => vo a i (by omega) (by omega)) m) (by rw [vo _ _ (by decide) (by decide)]; exact e2) (fun l hl => by
          rw [v65, st, bl]
          by_cases p : l = l0
          · rw [if_pos (by omega), if_pos p, ← p, e65 l hl]
          · rw [if_neg (by omega), if_neg p, e65 l hl, Int.add_zero]) (fun l hl => by
          rw [v66, st, bl]
          by_cases p : l = l0
          · rw [if_pos p, if_pos p, ← p, e66 l hl, Int.add_assoc]
          · rw [if_neg p, if_neg p, e66 l hl, Int.add_zero])
        refine ⟨u, u1, u2.trans v2, fun a i h1 h2 => (u3 a i h1 h2).trans (vo a i h1 h2), u4, u5, fun i hi => ?_⟩
        rw [u6 i hi, v65, if_neg (by omega)]
      · rw [if_pos (show ¬ (co f C 0 k : Int) = (z : Int) by omega)]
        unfold gm_11_63
        rw [ce]
        have bl : ∀ l, bi (co f C 0 k = z ∧ co f C 2 k = l) = 0 := fun l => by
          unfold bi
          rw [if_neg (fun x => y x.1)]
        exact ih (k + 1) t (by omega) (by omega) m e2 (fun l hl => by rw [st, bl, Int.add_zero]; exact e65 l hl) (fun l hl => by rw [st, bl, Int.add_zero]; exact e66 l hl)
/-- what is seen of the zones below j -/
def LK (t : gx_S) (f : Nat → Int) (R C g j : Nat) : Prop := t.1 62 2 = (rk (CL f R C) j : Nat) ∧ (∀ z, z < j → KZ (CL f R C) z → t.1 64 (rk (CL f R C) z) = Cc f g z ∧ ∀ l, l < 4 → t.1 65 (4 * rk (CL f R C) z + l) = CL f R C z l) ∧ (∀ i, 4 * rk (CL f R C) j ≤ i → i < 32 → t.1 65 i = 0) ∧ (∀ l, l < 4 → t.1 66 l = sg (fun z => CL f R C z l) j) ∧ t.2 62 1 = sg (L0 f R C g) j
theorem sl_10 {f : Nat → Int} {R C g : Nat} (M : MP f R C) (h7 : f 2 = 7) (hg : g < 3) : ∀ (n j : Nat) (t : gx_S), 8 < n + j → j ≤ 8 → MR t 1 f R C → LK t f R C g j → ∃ u : gx_S, gm_10_28 n 1 g j t = some (gcp u 4 (4 * g) 63 0 4) ∧ LK u f R C g 8 ∧ (∀ a i, ¬ (62 ≤ a ∧ a ≤ 66) → u.1 a i = t.1 a i) ∧ ∀ a i, a ≠ 62 → u.2 a i = t.2 a i := by
  intro n
  induction n with
  | zero => intro j t h; omega
  | succ n ih =>
    intro j t h hj m lk
    have hRC := RC_96 M.1.2.2.1 M.1.2.2.2
    rw [gm_10_28, if_pos (by omega)]
    by_cases q : j = 8
    · have i1 : ((g : Int) * 4).toNat = 4 * g := by omega
      rw [if_pos (by omega), if_pos (by omega), i1]
      rw [q] at lk
      exact ⟨t, rfl, lk, fun _ _ _ => rfl, fun _ _ _ => rfl⟩
    · have ce : ((j : Int) + 1) = ((j + 1 : Nat) : Int) := rfl
      have c62 := sp_62g m M 0 j (by omega) (by omega)
      have c62 : gm_62 1 0 j t = some (NC f R C 0 j, t) := c62
      have nn := NC_nn f R C 0 j
      rw [← Int.natCast_mul] at nn
      obtain ⟨k1, k2, k3, k4, k5⟩ := lk
      rw [if_neg (by omega), c62, Option.bind_some]
      dsimp only
      rw [if_pos (by omega)]
      by_cases y : 0 < NC f R C 0 j
      · have kz := (CL_KZ M h7).mpr y
        have rj : rk (CL f R C) (j + 1) = rk (CL f R C) j + 1 := by
          show rk (CL f R C) j + (if KZ (CL f R C) j then 1 else 0) = _
          rw [if_pos kz]
        have r8 := rk_le (CL f R C) j
        obtain ⟨u, u1, u2, u3, u4, u5, u6⟩ := sl_11 (A := fun l => sg (fun z => CL f R C z l) j) M h7 (show j < 8 by omega) (show rk (CL f R C) j < 8 by omega) 100000 0 t (by omega) (by omega) m k1 (fun l hl => k3 _ (by omega) (by omega)) (fun l hl => by rw [k4 l hl]; exact (Int.add_zero _).symm)
        have u1 : gm_11_8 100000 1 j ((R * C : Nat) : Int) 0 t = some u := u1
        have s11 : gm_11 1 j t = some u := by
          unfold gm_11
          rw [if_pos (by decide +kernel), sp_58 (MR_cz m M), Option.bind_some, u1]
        have mu : MR u 1 f R C := MR_o (fun a i h1 h2 => u3 a i (by omega) (by omega)) m
        have e2 : u.1 62 2 = (rk (CL f R C) j : Nat) := (u3 _ _ (by decide) (by decide)).trans k1
        have i1 : (((rk (CL f R C) j : Nat) : Int)).toNat = rk (CL f R C) j := by omega
        have i2 : ((g : Int) * 9 + (j : Int)).toNat = 9 * g + j := by omega
        have ec : u.1 (1 + 2) (9 * g + j) = Cc f g j := by
          rw [mu.2.2.2.2.2.1 (9 * g + j) (by omega)]
          unfold Cc
          rw [Nat.add_assoc]
        have cb := (CL_XB M hg).2.1 j (by omega)
        rw [if_neg (by omega), s11, Option.bind_some, if_pos (by omega), e2, if_pos (by omega), i1, i2, ec]
        obtain ⟨a, ha⟩ : ∃ a, a = gw1 u 64 (rk (CL f R C) j) (Cc f g j) := ⟨_, rfl⟩
        have a1 : ∀ b i, ¬ (b = 64 ∧ i = rk (CL f R C) j) → a.1 b i = u.1 b i := fun b i h => by rw [ha, gw1_1, if_neg h]
        have a2 : a.1 64 (rk (CL f R C) j) = Cc f g j := by rw [ha, gw1_1, if_pos ⟨rfl, rfl⟩]
        have a3 : a.2 = t.2 := by rw [ha]; exact u2
        have a62 : a.1 62 2 = (rk (CL f R C) j : Nat) := (a1 _ _ (by omega)).trans e2
        rw [← ha, a62, if_pos (by omega), i1, a2, if_pos (by omega)]
        unfold gm_10_98
        obtain ⟨b, hb⟩ : ∃ b, b = gw1 (gw2 a 62 1 (a.2 62 1 + Cc f g j)) 62 2 ((gw2 a 62 1 (a.2 62 1 + Cc f g j)).1 62 2 + 1) := ⟨_, rfl⟩
        have b1 : ∀ d i, ¬ (d = 62 ∧ i = 2) → b.1 d i = a.1 d i := fun d i h => by rw [hb, gw1_1, if_neg h]; rfl
        have b2 : b.1 62 2 = (rk (CL f R C) (j + 1) : Nat) := by
          rw [hb, gw1_1, if_pos ⟨rfl, rfl⟩, rj]
          show a.1 62 2 + 1 = _
          rw [a62]
          rfl
        have b3 : b.2 62 1 = sg (L0 f R C g) (j + 1) := by
          rw [hb, gw1_2, gw2_2, if_pos ⟨rfl, rfl⟩, a3, k5]
          show _ = sg (L0 f R C g) j + L0 f R C g j
          unfold L0
          rw [if_pos y]
          rfl
        have b4 : ∀ d i, d ≠ 62 → b.2 d i = t.2 d i := fun d i h => by rw [hb, gw1_2, gw2_2, if_neg (fun x => h x.1), a3]
        have bo : ∀ d i, ¬ (62 ≤ d ∧ d ≤ 66) → b.1 d i = t.1 d i := fun d i h => by rw [b1 d i (by omega), a1 d i (by omega), u3 d i (by omega) (by omega)]
        have b65 : ∀ i, b.1 65 i = u.1 65 i := fun i => by rw [b1 _ _ (by omega), a1 _ _ (by omega)]
        rw [← hb, ce]
        have lk' : LK b f R C g (j + 1) := by
          refine ⟨b2, fun z hz kz' => ?_, fun i h1 h2 => ?_, fun l hl => ?_, b3⟩
          · by_cases p : z = j
            · rw [p]
              exact ⟨by rw [b1 _ _ (by omega)]; exact a2, fun l hl => by rw [b65]; exact u4 l hl⟩
            · have rl := rk_lt (CL f R C) (show z < j by omega) kz'
              obtain ⟨x1, x2⟩ := k2 z (by omega) kz'
              refine ⟨?_, fun l hl => ?_⟩
              · rw [b1 _ _ (by omega), a1 _ _ (by omega), u3 _ _ (by decide) (by decide), x1]
              · rw [b65, u6 _ (by omega), x2 l hl]
          · rw [rj] at h1
            rw [b65, u6 _ (by omega)]
            exact k3 i (by omega) h2
          · rw [b1 _ _ (by omega), a1 _ _ (by omega), u5 l hl]
            rfl
        obtain ⟨w, w1, w2, w3, w4⟩ := ih (j + 1) b (by omega) (by omega) (MR_o (fun d i h1 h2 => bo d i (by omega)) m) lk'
        exact ⟨w, w1, w2, fun d i h => (w3 d i h).trans (bo d i h), fun d i h => (w4 d i h).trans (b4 d i h)⟩
      · have kz : ¬ KZ (CL f R C) j := fun k => y ((CL_KZ M h7).mp k)
        have rj : rk (CL f R C) (j + 1) = rk (CL f R C) j := by
          show rk (CL f R C) j + (if KZ (CL f R C) j then 1 else 0) = _
          rw [if_neg kz, Nat.add_zero]
        rw [if_pos (by omega)]
        unfold gm_10_98
        rw [ce]
        refine ih (j + 1) t (by omega) (by omega) m ⟨by rw [rj]; exact k1, fun z hz kz' => ?_, fun i h1 h2 => k3 i (by omega) h2, fun l hl => ?_, ?_⟩
        · by_cases p : z = j
          · rw [p] at kz'
            exact absurd kz' kz
          · exact k2 z (by omega) kz'
        · show _ = sg (fun z => CL f R C z l) j + CL f R C j l
          rw [CL_z M h7 y hl, Int.add_zero]
          exact k4 l hl
        · show _ = sg (L0 f R C g) j + L0 f R C g j
          rw [k5]
          unfold L0
          rw [if_neg y, Int.add_zero]
theorem sp_10 {s : gx_S} {f : Nat → Int} {R C g : Nat} (m : MR s 1 f R C) (M : MP f R C) (h7 : f 2 = 7) (hg : g < 3) : ∃ u : gx_S, gm_10 1 g s = some u ∧ FS u (CL f R C) (Cc f g) (CP f R C g) ∧ (∀ l, l < 4 → u.1 63 l = f (32 + 4 * g + l)) ∧ (∀ a i, ¬ (62 ≤ a ∧ a ≤ 66) → u.1 a i = s.1 a i) ∧ ∀ a i, a ≠ 62 → u.2 a i = s.2 a i := by
  obtain ⟨t, t1, t2, t3, t4⟩ := sp_235g (k := 65) (n := 32) 0 s (by decide +kernel) (by omega) (by omega)
  obtain ⟨v, v1, v2, v3, v4⟩ := sp_235g (k := 66) (n := 4) 0 t (by decide +kernel) (by omega) (by omega)
  obtain ⟨b, hb⟩ : ∃ b, b = gw2 (gw1 v 62 2 0) 62 1 0 := ⟨_, rfl⟩
  have bo : ∀ d i, ¬ (62 ≤ d ∧ d ≤ 66) → b.1 d i = s.1 d i := fun d i h => by
    rw [hb]
    show (gw1 v 62 2 0).1 d i = _
    rw [gw1_1, if_neg (by omega), v3 d i (by omega), t3 d i (by omega)]
  have b2 : ∀ d i, d ≠ 62 → b.2 d i = s.2 d i := fun d i h => by
    rw [hb, gw2_2, if_neg (fun x => h x.1), gw1_2, v2, t2]
  have mb : MR b 1 f R C := MR_o (fun d i h1 h2 => bo d i (by omega)) m
  obtain ⟨u, u1, u2, u3, u4⟩ := sl_10 M h7 hg 100000 0 b (by omega) (by omega) mb ⟨by
    rw [hb]
    show (gw1 v 62 2 0).1 62 2 = _
    rw [gw1_1, if_pos ⟨rfl, rfl⟩]
    rfl, fun z hz => absurd hz (Nat.not_lt_zero z), fun i h1 h2 => by
    rw [hb]
    show (gw1 v 62 2 0).1 65 i = _
    rw [gw1_1, if_neg (by omega), v3 _ _ (by omega), t4, if_pos h2], fun l hl => by
    rw [hb]
    show (gw1 v 62 2 0).1 66 l = _
    rw [gw1_1, if_neg (by omega), v4, if_pos hl]
    rfl, by rw [hb, gw2_2, if_pos ⟨rfl, rfl⟩]; rfl⟩
  have u1 : gm_10_28 100000 1 g 0 b = _ := u1
  obtain ⟨w, hw⟩ : ∃ w, w = gcp u 4 (4 * g) 63 0 4 := ⟨_, rfl⟩
  have w1 : ∀ d i, d ≠ 63 → w.1 d i = u.1 d i := fun d i h => by rw [hw, gcp_1, if_neg (fun x => h x.1)]
  have w2 : w.2 = u.2 := by rw [hw]; rfl
  refine ⟨w, ?_, ⟨(w1 _ _ (by decide)).trans u2.1, fun z hz k => ⟨(w1 _ _ (by decide)).trans (u2.2.1 z hz k).1, fun l hl => (w1 _ _ (by decide)).trans ((u2.2.1 z hz k).2 l hl)⟩, fun l hl => (w1 _ _ (by decide)).trans (u2.2.2.2.1 l hl), by rw [w2]; exact u2.2.2.2.2⟩, fun l hl => ?_, fun d i h => by rw [w1 d i (by omega), u3 d i h, bo d i h], fun d i h => by rw [w2, u4 d i h, b2 d i h]⟩
  · unfold gm_10
    rw [if_pos (by decide +kernel), t1, Option.bind_some, v1, Option.bind_some, ← hb, u1, hw]
  · rw [hw, gcp_1, if_pos ⟨rfl, by omega, by omega⟩, u3 4 _ (by omega), bo 4 _ (by omega)]
    have := m.2.2.2.2.2.2.1 (4 * g + l) (by omega)
    rw [show (1 : Nat) + 3 = 4 from rfl] at this
    rw [show 4 * g + (l - 0) = 4 * g + l by omega, this, Nat.add_assoc]
/-- whether weights can be fitted -/
theorem sp_121 {s : gx_S} {f : Nat → Int} {R C : Nat} {x : Int} (m : MR s 1 f R C) (M : MP f R C) (hx : i32 x) : (¬ ((0 ≤ x ∧ x < 3) ∧ f 2 = 7) → gm_121 x s = some (false, s)) ∧ ∀ g : Nat, x = g → g < 3 → f 2 = 7 → ∃ u : gx_S, gm_121 x s = some (decide (0 < CP f R C g), u) ∧ FS u (CL f R C) (Cc f g) (CP f R C g) ∧ (∀ l, l < 4 → u.1 63 l = f (32 + 4 * g + l)) ∧ (∀ a i, ¬ (62 ≤ a ∧ a ≤ 66) → u.1 a i = s.1 a i) ∧ ∀ a i, a ≠ 62 → u.2 a i = s.2 a i := by
  have e6 : s.1 1 6 = f 2 := m.2.2.1
  have c57 := sp_57 (s := s) (a := 1) (by decide +kernel) (by rw [e6]; exact M.2.1)
  rw [e6] at c57
  constructor
  · intro h
    unfold gm_121
    rw [sp_114 s hx, Option.bind_some]
    by_cases a : 0 ≤ x ∧ x < 3
    · rw [if_neg (fun q => (gbD s).mp q a)]
      show ((gm_57 1 s).bind _) = _
      rw [c57, Option.bind_some, if_neg (fun q => q ((gbD s).mpr fun b => h ⟨a, b⟩))]
    · rw [if_pos ((gbD s).mpr a)]
  · intro g e hg h7
    obtain ⟨u, u1, u2, u3, u4, u5⟩ := sp_10 m M h7 hg
    have B := CL_XB M hg
    refine ⟨u, ?_, u2, u3, u4, u5⟩
    unfold gm_121
    rw [sp_114 s hx, Option.bind_some, if_neg (fun q => (gbD s).mp q (by omega))]
    show ((gm_57 1 s).bind _) = _
    rw [c57, Option.bind_some, if_pos (fun q => (gbD s).mp q h7), e]
    show ((gm_10 1 g s).bind _) = _
    rw [u1, Option.bind_some, u2.2.2.2, if_pos (by have := B.2.2; omega)]
    by_cases z : CP f R C g ≤ 0
    · rw [if_pos z, decide_eq_false (by omega)]
    · rw [if_neg z, decide_eq_true (by omega)]
