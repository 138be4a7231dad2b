/-! THE LAW: districts; what goes -/
section
variable {Ls : Nat} {xs : Nat → Int32} {f : Nat → Int} {R C : Nat} {m a g p n L : Nat} {pf : Nat → Nat → Int} {tb : Nat → Int} {δ : dS}
theorem cos_all (M : MP f R C) : sg (fun d => cos_ f R C g (d : Nat) 8) 4 + sg (fun x => GV f R C g x 8) 8 = sg (fun x => sg (fun y => GV f R C g x y) 9) 8 := by
  rw [sg_swap (fun x y => GV f R C g x y) 9 8]
  show _ = sg (fun y => sg (fun x => GV f R C g x y) 8) 8 + sg (fun x => GV f R C g x 8) 8
  have e : sg (fun d => cos_ f R C g (d : Nat) 8) 4 = sg (fun y => sg (fun x => GV f R C g x y) 8) 8 := by
    unfold cos_
    rw [sg_swap (fun d y => if dsc f y = (d : Nat) then sg (fun x => GV f R C g x y) 8 else 0) 8 4]
    refine sg_eq fun y hy => ?_
    have r := M.2.2.2.2.2.2.1 y hy
    have ds : dsc f y = f (44 + y) := if_neg (by omega)
    have s := sg_single (f := fun d : Nat => if dsc f y = (d : Nat) then sg (fun x => GV f R C g x y) 8 else 0) (n := 4) (i := (f (44 + y)).toNat) (by omega) (fun c hc hn => if_neg (by rw [ds]; omega))
    rw [s]
    exact if_pos (by rw [ds]; omega)
  rw [e]
theorem cos_r (M : MP f R C) (h7 : f 2 = 7) (hg : g < 3) (d : Int) {y : Nat} (hy : y ≤ 8) : 0 ≤ cos_ f R C g d y ∧ cos_ f R C g d y ≤ 719928 := by
  have b := sg_bd (f := fun y => if dsc f y = d then sg (fun x => GV f R C g x y) 8 else 0) (B := 89991) (n := y) (fun k hk => by
    have gr := (GV_r M h7 hg).2.2 k (by omega)
    split <;> omega)
  have b' : 0 ≤ cos_ f R C g d y ∧ cos_ f R C g d y ≤ y * 89991 := b
  omega
theorem ds_182 {K : Nat → Int → Int → Int → gx_S → dS → Option (Int × DS)} {x5 : Int} {d : Nat} (E : LM δ m a f R C) (hg : g < 3) (hd : d < 4) : ∀ (q y : Nat) (s : gx_S), 8 < q + y → y ≤ 8 → QS f R C n pf L tb s → ∃ u : gx_S, QS f R C n pf L tb u ∧ dm_236_182 Ls xs K q m g x5 d (cos_ f R C g d y) y s δ = K m g (x5 + cos_ f R C g d 8) ((d + 1 : Nat) : Int) u δ := by
  obtain ⟨⟨⟨-, o1, -, -, -, d9, -, -, -, -, -, h9⟩, -, -, -, -, -, -, v6⟩, M, h7⟩ := E
  intro q
  induction q with
  | zero => intro y s h; omega
  | succ q ih =>
    intro y s h hy Q
    rw [dm_236_182, if_pos (by omega)]
    by_cases e : y = 8
    · obtain ⟨u1, g1, Q1⟩ := qs_coarse Q h7 (g := g) hg hd
      have r := cos_r M h7 hg d (y := 8) (Nat.le_refl _)
      refine ⟨u1, Q1, ?_⟩
      rw [if_pos (by omega), g1, Option.bind_some]
      dsimp only
      rw [e, if_pos (by omega), if_pos (by omega), if_pos rfl]
      rfl
    · have hy' : y < 8 := by omega
      have ds : dsc f y = f (44 + y) := if_neg (by omega)
      have r := M.2.2.2.2.2.2.1 y hy'
      have cs : cos_ f R C g d (y + 1) = cos_ f R C g d y + if dsc f y = d then sg (fun x => GV f R C g x y) 8 else 0 := rfl
      rw [ds] at cs
      rw [if_neg (by omega), if_pos o1, h9, Option.bind_some, if_pos (AR_A d9), if_pos (AR_I d9 hy'), Int.toNat_natCast, v6 y hy', if_pos (by omega), if_pos (by omega)]
      by_cases q0 : f (44 + y) = d
      · obtain ⟨u1, g1, Q1⟩ := qs_moved Q h7 (g := g) (o := -1) (z := (y : Int)) hg (by omega) (by omega)
        rw [MVs_c] at g1
        obtain ⟨u, z1, z2⟩ := ih (y + 1) u1 (by omega) (by omega) Q1
        refine ⟨u, z1, ?_⟩
        rw [cs, if_pos q0] at z2
        rw [if_neg (fun t => t q0), g1, Option.bind_some, ← z2]
        rfl
      · obtain ⟨u, z1, z2⟩ := ih (y + 1) s (by omega) (by omega) Q
        refine ⟨u, z1, ?_⟩
        rw [cs, if_neg q0, Int.add_zero] at z2
        rw [if_pos q0, ← z2]
        rfl
theorem ds_170 (E : LM δ m a f R C) (hg : g < 3) : ∀ (q d : Nat) (s : gx_S), 4 < q + d → d ≤ 4 → QS f R C n pf L tb s → ∃ u : gx_S, QS f R C n pf L tb u ∧ dm_236_170 Ls xs q m g (sg (fun d => cos_ f R C g (d : Nat) 8) d) d s δ = dm_236_317 Ls xs 100000 m 0 0 δ.n 0 0 u (δ.al 1 27) := by
  have M := E.2.1
  have h7 := E.2.2
  intro q
  induction q with
  | zero => intro d s h; omega
  | succ q ih =>
    intro d s h hd Q
    rw [dm_236_170, if_pos (by omega)]
    by_cases e : d = 4
    · obtain ⟨u1, g1, Q1⟩ := qs_moved Q h7 (g := g) (o := -1) (z := ((8 : Nat) : Int)) hg (by omega) (by omega)
      obtain ⟨u2, g2, Q2⟩ := qs_moved Q1 h7 (g := g) (o := -1) (z := -1) hg (by omega) (by omega)
      have g3 := qs_coarse0 Q2 (g := g) (d := 4) (t := 0) hg (by unfold i32; omega) (by unfold i32; omega) (by omega)
      have g4 := qs_coarse0 Q2 (g := g) (d := 0) (t := 2) hg (by unfold i32; omega) (by unfold i32; omega) (by omega)
      rw [MVs_c] at g1
      rw [MVs_a, ← cos_all M] at g2
      have g1' : gm_99 g (-1) 8 s = some (sg (fun x => GV f R C g x 8) 8, u1) := g1
      have r1 := (GV_r M h7 hg).2.2 8 (by omega)
      have r2 := sg_bd (f := fun d => cos_ f R C g (d : Nat) 8) (B := 719928) (n := 4) (fun k _ => cos_r M h7 hg k (Nat.le_refl _))
      refine ⟨u2, Q2, ?_⟩
      rw [if_pos (by omega), g1', Option.bind_some]
      dsimp only
      rw [g2, Option.bind_some]
      dsimp only
      rw [e, if_pos (by omega), if_pos (by omega), if_neg (fun t => t rfl), g3, Option.bind_some]
      dsimp only
      rw [if_pos (by omega), if_neg (fun t => t rfl), g4, Option.bind_some]
      dsimp only
      rw [if_pos (by omega), if_pos rfl, if_pos (by decide), Option.bind_some]
      rfl
    · obtain ⟨u1, Q1, z1⟩ := ds_182 (Ls := Ls) (xs := xs) (K := dm_236_170 Ls xs q) (x5 := sg (fun d => cos_ f R C g (d : Nat) 8) d) E hg (show d < 4 by omega) 100000 0 s (by omega) (by omega) Q
      obtain ⟨u, Q2, z2⟩ := ih (d + 1) u1 (by omega) (by omega) Q1
      refine ⟨u, Q2, ?_⟩
      rw [sg] at z2
      rw [if_neg (by omega), ← z2]
      exact z1
/-- the people who stay, a group's columns -/
theorem gs_406 {K : Nat → Int → Int → Nat → Int → Int → gx_S → dS → Option (Int × DS)} {x6 x8 x11 : Int} {k : Nat} (h7 : f 2 = 7) (hk : k < 3) (M : MP f R C) : ∀ (q z : Nat) (s : gx_S), 8 < q + z → z ≤ 8 → QS f R C n pf L tb s → ∃ u : gx_S, QS f R C n pf L tb u ∧ dm_236_406 Ls xs K q m x6 x8 p (x11 + sg (fun z => sg (fun x => GV f R C k x z) 8) z) k z s δ = K m x6 x8 p (x11 + inz f R C k) ((k + 1 : Nat) : Int) u δ := by
  intro q
  induction q with
  | zero => intro z s h; omega
  | succ q ih =>
    intro z s h hz Q
    rw [dm_236_406, if_pos (by omega)]
    by_cases e : z = 8
    · rw [if_pos (by omega), e]
      exact ⟨s, Q, rfl⟩
    · obtain ⟨u1, g1, Q1⟩ := qs_moved Q h7 (g := k) (o := -1) (z := (z : Int)) hk (by omega) (by omega)
      rw [MVs_c] at g1
      have gr := (GV_r M h7 hk).2.2 z (by omega)
      obtain ⟨u, Q2, z2⟩ := ih (z + 1) u1 (by omega) (by omega) Q1
      refine ⟨u, Q2, ?_⟩
      rw [sg, ← Int.add_assoc] at z2
      rw [if_neg (by omega), g1, Option.bind_some]
      dsimp only
      rw [if_pos (by omega), ← z2]
      rfl
theorem gs_351 {K : Nat → Int → Int → Nat → Int → Int → gx_S → dS → Option (Int × DS)} {x6 x8 x11 : Int} {k : Nat} (hk : k < 3) (hm : m + 12 < p) (ha : a < p) : ∀ (q c : Nat) (s : gx_S) (δ : dS), 9 < q + c → c ≤ 9 → LM δ m a f R C → AR δ 1 p 27 → QS f R C n pf L tb s → ∃ (u : gx_S) (ε : dS), QS f R C n pf L tb u ∧ WM δ ε p (p + 1) ∧ (∀ j, c ≤ j → j < 9 → ε.I p (9 * k + j) = cn f R C k j) ∧ (∀ i, i < 9 * k + c → ε.I p i = δ.I p i) ∧ dm_236_351 Ls xs K q m x6 x8 p x11 k c s δ = dm_236_406 Ls xs K 100000 m x6 x8 p x11 k 0 u ε := by
  intro q
  induction q with
  | zero => intro c s δ h; omega
  | succ q ih =>
    intro c s δ h hc E A Q
    have M := E.2.1
    have h7 := E.2.2
    rw [dm_236_351, if_pos (by omega)]
    by_cases e : c = 9
    · rw [if_pos (by omega)]
      exact ⟨s, δ, Q, WM_rf _ _ _, fun j h1 h2 => by omega, fun _ _ => rfl, rfl⟩
    · obtain ⟨u1, g1, Q1⟩ := qs_moved Q h7 (g := k) (o := -1) (z := (c : Int)) hk (by omega) (by omega)
      rw [MVs_c] at g1
      have gr := (GV_r M h7 hk).2.2 c (by omega)
      obtain ⟨X, hX⟩ : ∃ X, X = δ.w p (9 * k + c) (cn f R C k c) := ⟨_, rfl⟩
      have wX : WM δ X p (p + 1) := by rw [hX]; exact WM_w δ _ _ (by omega)
      obtain ⟨u, ε, z1, z2, z3, z4, z5⟩ := ih (c + 1) u1 X (by omega) (by omega) (LM_DF (DF_WM (Nat.le_refl _) wX) (by omega) (by omega) E) (by rw [hX]; exact A) Q1
      have n9 : 9 * (k : Int) + (c : Int) = ((9 * k + c : Nat) : Int) := by omega
      have st : ∀ y : Int, sg (fun x => GV f R C k x c) 8 + y = cn f R C k c → dm_236_395 Ls xs (dm_236_351 Ls xs K q) m x6 x8 p x11 k c p (9 * (k : Int) + (c : Int)) (sg (fun x => GV f R C k x c) 8) y u1 δ = dm_236_406 Ls xs K 100000 m x6 x8 p x11 k 0 u ε := fun y hy => by
        unfold dm_236_395
        rw [n9, if_pos (AR_A A), if_pos (AR_I A (by omega)), hy, Int.toNat_natCast, Option.bind_some, ← hX]
        exact z5
      refine ⟨u, ε, z1, WM_tr wX z2, fun j h1 h2 => ?_, fun i hi => ?_, ?_⟩
      · by_cases q1 : j = c
        · rw [z4 _ (by omega), hX, dw_I, if_pos ⟨rfl, by omega⟩, q1]
        · exact z3 j (by omega) h2
      · rw [z4 i (by omega), hX, dw_I, if_neg (by omega)]
      · rw [if_neg (by omega), g1, Option.bind_some]
        dsimp only
        rw [if_pos (by omega)]
        by_cases q8 : (c : Int) = 8
        · rw [if_neg (fun t => t q8), aside_ u1 E hk, Option.bind_some]
          exact st _ (by unfold cn; rw [if_pos (show c = 8 by omega)])
        · rw [if_pos q8]
          exact st 0 (by unfold cn; rw [if_neg (show ¬ c = 8 by omega)])
/-- people, asides, what goes, who stays -/
theorem gs_317 (hm : m + 12 < p) (ha : a < p) : ∀ (q k : Nat) (s : gx_S) (δ : dS), 3 < q + k → k ≤ 3 → LM δ m a f R C → AR δ 1 p 27 → (∀ i, i < 9 * k → δ.I p i = cn f R C (i / 9) (i % 9)) → QS f R C n pf L tb s → ∃ (u : gx_S) (ε : dS) (q' : Nat), QS f R C n pf L tb u ∧ WM δ ε p (p + 1) ∧ (∀ i, i < 27 → ε.I p i = cn f R C (i / 9) (i % 9)) ∧ dm_236_317 Ls xs q m (mva f R C k) (asa f R C k) p (sg (inz f R C) k) k s δ = dm_236_317 Ls xs (q' + 1) m (mva f R C 3) (asa f R C 3) p (sg (inz f R C) 3) 3 u ε := by
  intro q
  induction q with
  | zero => intro k s δ h; omega
  | succ q ih =>
    intro k s δ h hk E A V Q
    have M := E.2.1
    have h7 := E.2.2
    by_cases e : k = 3
    · rw [e] at V ⊢
      exact ⟨s, δ, q, Q, WM_rf _ _ _, V, rfl⟩
    · have hk' : k < 3 := by omega
      obtain ⟨u1, g1, Q1⟩ := qs_moved Q h7 (g := k) (o := -1) (z := -1) hk' (by omega) (by omega)
      rw [MVs_a, GV_all M h7 hk'] at g1
      have cb := M.2.2.2.2.1 k hk'
      have la := LV_all M hk'
      have l0 := sg_nn (LV_r M hk').1
      have c0 := sg_nn (f := fun z => f (5 + 9 * k + z)) (n := 9) (fun z hz => cb.1 z hz)
      have as0 : 0 ≤ ASf f R C k := by
        have ur := UN_r M hk'
        unfold ASf
        split <;> omega
      obtain ⟨u2, X, Q2, w2, v2, o2, z2⟩ := gs_351 (Ls := Ls) (xs := xs) (K := dm_236_317 Ls xs q) (x6 := mva f R C k + (sg (fun z => f (5 + 9 * k + z)) 9 - ASf f R C k)) (x8 := asa f R C k + ASf f R C k) (x11 := sg (inz f R C) k) hk' hm ha 100000 0 u1 δ (by omega) (by omega) E A Q1
      obtain ⟨u3, Q3, z3⟩ := gs_406 (Ls := Ls) (xs := xs) (K := dm_236_317 Ls xs q) (m := m) (p := p) (δ := X) (x6 := mva f R C k + (sg (fun z => f (5 + 9 * k + z)) 9 - ASf f R C k)) (x8 := asa f R C k + ASf f R C k) (x11 := sg (inz f R C) k) h7 hk' M 100000 0 u2 (by omega) (by omega) Q2
      have EX := LM_DF (DF_WM (Nat.le_refl _) w2) (by omega) (by omega) E
      have AX : AR X 1 p 27 := AR_DF (DF_WM (B := p) (Nat.le_refl _) w2) A
      obtain ⟨u, ε, q', Q4, w4, v4, z4⟩ := ih (k + 1) u3 X (by omega) (by omega) EX AX (fun i hi => by
        by_cases q1 : i < 9 * k
        · rw [o2 i (by omega), V i q1]
        · have t := v2 (i - 9 * k) (by omega) (by omega)
          rw [show 9 * k + (i - 9 * k) = i by omega] at t
          rw [t, show i / 9 = k by omega, show i % 9 = i - 9 * k by omega]) Q3
      refine ⟨u, ε, q', Q4, WM_tr w2 w4, v4, ?_⟩
      have m1 : mva f R C (k + 1) = mva f R C k + (sg (fun z => f (5 + 9 * k + z)) 9 - ASf f R C k) := rfl
      have m2 : asa f R C (k + 1) = asa f R C k + ASf f R C k := rfl
      have s1 : sg (inz f R C) (k + 1) = sg (inz f R C) k + inz f R C k := rfl
      rw [m1, m2, s1] at z4
      rw [← z4, dm_236_317, if_pos (by omega), if_neg (by omega), g1, Option.bind_some]
      dsimp only
      rw [if_pos (by omega), aside_ u1 E hk', Option.bind_some]
      dsimp only
      have z2' : dm_236_351 Ls xs (dm_236_317 Ls xs q) 100000 m (mva f R C k + (sg (fun z => f (5 + 9 * k + z)) 9 - ASf f R C k)) (asa f R C k + ASf f R C k) p (sg (inz f R C) k) k 0 u1 δ = _ := z2
      rw [z2', ← z3]
      show dm_236_406 Ls xs (dm_236_317 Ls xs q) 100000 m _ _ p (sg (inz f R C) k) k 0 u2 X = dm_236_406 Ls xs (dm_236_317 Ls xs q) 100000 m _ _ p (sg (inz f R C) k + 0) k ((0 : Nat) : Int) u2 X
      rw [Int.add_zero]
      rfl
end
