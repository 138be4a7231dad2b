/-! THE START; the law on the interpreter -/
theorem qs_start : QS (gs0.1 216) 0 0 0 (fun _ _ => 0) 0 (fun _ => 0) gs0 := by
  refine ⟨⟨⟨rfl, rfl, rfl, rfl, rfl, ?_, ?_, ?_, fun l _ _ k hk => absurd hk (by omega)⟩, fun g hg => ⟨0, by decide, ?_, ?_, fun h => absurd h (by decide), fun h => absurd h (by decide), fun h => absurd h (by decide), fun h => absurd h (by decide), fun h => absurd h (by decide), fun h => absurd h (by decide)⟩, ⟨by decide, 0, by decide, rfl, rfl, fun k hk => absurd hk (Nat.not_lt_zero _)⟩, rfl, fun i hi => absurd hi (Nat.not_lt_zero _)⟩, ⟨⟨⟨rfl, rfl, by decide, by decide⟩, by decide +kernel, .inl rfl, .inl rfl, by decide +kernel, by decide +kernel, by decide +kernel, fun l _ _ k hk => absurd hk (by omega), fun h => absurd rfl h⟩, by decide, fun i hi => absurd hi (Nat.not_lt_zero _)⟩⟩
  · decide +kernel
  · decide +kernel
  · decide +kernel
  · have q : ∀ g, g < 3 → gs0.1 (71 + 48 * g) 8 = ((0 : Nat) : Int) := by decide +kernel
    exact q g hg
  · have q : ∀ g, g < 3 → gs0.1 (71 + 48 * g) 9 = (g : Int) := by decide +kernel
    exact q g hg
theorem st_start : ST (gs0.1 216) := by
  have q1 : ∀ i, i < 32 → 5 ≤ i → gs0.1 216 i = 0 := by decide +kernel
  have q2 : ∀ i, i < 44 → 32 ≤ i → gs0.1 216 i = 1 := by decide +kernel
  have q3 : ∀ i, i < 52 → 44 ≤ i → gs0.1 216 i = 0 := by decide +kernel
  exact ⟨rfl, rfl, rfl, fun i h1 h2 => q1 i h2 h1, fun i h1 h2 => q2 i h2 h1, fun i h1 h2 => q3 i h2 h1⟩
theorem iv_run_d : ∀ (n : Nat) (z : iv_Z) (d mi : Nat) (S : iv_S) (r : Option Value × iv_H), iv_run z n d mi S = some r → iv_run z n (d + 1) mi S = some r := by
  intro n
  induction n with
  | zero => intro z d mi S r h; cases h
  | succ n ih =>
    intro z d mi S r h
    unfold iv_run at h ⊢
    cases hcd : iv_cd mi S.1 with
    | none => rw [hcd] at h; cases h
    | some op =>
      rw [hcd] at h
      dsimp only at h ⊢
      by_cases hr : iv_isr op = true
      · rw [if_pos hr] at h ⊢
        exact h
      · rw [if_neg hr] at h ⊢
        cases hca : iv_ca z mi op S.2.2.1 S.2.2.2 with
        | some c =>
          rw [hca] at h
          dsimp only at h ⊢
          cases d with
          | zero => cases h
          | succ d' =>
            dsimp only at h ⊢
            cases hq : iv_run z n d' c.1 (0, iv_en c.1 c.2.1, [], S.2.2.2) with
            | none => rw [hq] at h; cases h
            | some q =>
              rw [hq] at h
              rw [ih _ _ _ _ _ hq]
              exact ih _ _ _ _ _ h
        | none =>
          rw [hca] at h
          dsimp only at h ⊢
          cases hmu : iv_mu mi op S.2.2.1 S.2.2.2 with
          | some c =>
            rw [hmu] at h
            exact ih _ _ _ _ _ h
          | none =>
            rw [hmu] at h
            dsimp only at h ⊢
            cases ho : iv_op z mi S.1 op S.2.1 S.2.2.1 S.2.2.2 with
            | none => rw [ho] at h; cases h
            | some o =>
              rw [ho] at h
              dsimp only at h ⊢
              cases he : iv_ef S.2.2.2 o.2.2.2 with
              | none => rw [he] at h; cases h
              | some h' =>
                rw [he] at h
                exact ih _ _ _ _ _ h
theorem iv_rc1 {z : iv_Z} {n d mi pc : Nat} {al : iv_L} {st : List Value} {h : iv_H} {op : Jvm.ClassFile.Instr} {c : Nat × List Value × List Value} {q r : Option Value × iv_H} (hcd : iv_cd mi pc = some op) (hr : iv_isr op = false) (hca : iv_ca z mi op st h = some c) (hq : iv_run z n d c.1 (0, iv_en c.1 c.2.1, [], h) = some q) (k : iv_run z n (d + 1) mi (pc + 3, al, q.1.toList ++ c.2.2, q.2) = some r) : iv_run z (n + 1) (d + 1) mi (pc, al, st, h) = some r := by
  unfold iv_run
  dsimp only
  rw [hcd]
  dsimp only
  rw [if_neg (by rw [hr]; decide), hca]
  dsimp only
  rw [hq]
  exact k
theorem iv_caI {z : iv_Z} {mi idx mj ci b : Nat} {rest : List Value} {h : iv_H} (k1 : iv_mt (iv_kf mi) idx = some mj) (k2 : iv_na mj = 0) (k3 : iv_rc mj = some ci) (k4 : iv_kk_ mi idx mj 1 = true) (k5 : 1 ≤ iv_mx mj) (ho : iv_oc h b ci = true) (hs : (rest.map fun v => v.category).sum ≤ 8) : iv_ca z mi (.invokespecial idx) (.ref b :: rest) h = some (mj, [.ref b], rest) := by
  unfold iv_ca
  show (match iv_mt (iv_kf mi) idx with
    | none => none
    | some mj => _) = _
  rw [k1]
  dsimp only
  rw [k2, if_pos ⟨rfl, by rw [iv_rx_s k3]; show 0 + 1 ≤ _; omega⟩, if_neg (show ¬ (1 : Nat) = 2 by decide)]
  show (match iv_rc mj with
    | none => none
    | some ci => _) = _
  rw [k3]
  dsimp only
  show (if iv_oc h b ci = true ∧ (rest.map fun v => v.category).sum ≤ 8 ∧ iv_kk_ mi idx mj 1 = true then _ else _) = _
  rw [if_pos ⟨ho, hs, k4⟩]
  rfl
theorem iv_new1 {z : iv_Z} {n d mi pc idx ci q : Nat} {al : iv_L} {st : List Value} {h : iv_H} {r : Option Value × iv_H} (hcd : iv_cd mi pc = some (.new idx)) (hc : iv_nc (iv_kf mi) idx = some ci) (hq : h.length = q) (k : iv_run z n d mi (pc + 3, al, .ref q :: st, h ++ [.inl (ci, iv_df ci)]) = some r) : iv_run z (n + 1) d mi (pc, al, st, h) = some r := by
  subst hq
  refine iv_rs (o := (pc + 3, al, .ref h.length :: st, some (none, .inl (ci, iv_df ci)))) hcd rfl rfl ?_ rfl k
  show (iv_nc (iv_kf mi) idx).bind _ = _
  rw [hc]
  rfl
/-- room: of each cell a bound -/
def fsum (g : Nat → Nat) : Nat → Nat → Nat
  | _, 0 => 0
  | k, n + 1 => g k + fsum g (k + 1) n
theorem iv_szf {g : Nat → Nat} : ∀ {h : iv_H} (k : Nat), (∀ (i : Nat) (c : iv_C), h[i]? = some c → iv_cz c ≤ g (k + i)) → iv_sz h ≤ fsum g k h.length
  | [], _, _ => Nat.zero_le _
  | c :: h, k, e => by
    have a := e 0 c rfl
    have b := iv_szf (h := h) (k + 1) fun i d hd => by
      have := e (i + 1) d (by simpa using hd)
      rw [show k + 1 + i = k + (i + 1) by omega]
      exact this
    show iv_cz c + iv_sz h ≤ g k + fsum g (k + 1) h.length
    rw [Nat.add_zero] at a
    omega
theorem fsum_add (g : Nat → Nat) : ∀ a k b : Nat, fsum g k (a + b) = fsum g k a + fsum g (k + a) b
  | 0, k, b => by rw [Nat.zero_add, Nat.add_zero]; exact (Nat.zero_add _).symm
  | a + 1, k, b => by
    rw [show a + 1 + b = (a + b) + 1 by omega]
    show g k + fsum g (k + 1) (a + b) = g k + fsum g (k + 1) a + fsum g (k + (a + 1)) b
    rw [fsum_add g a (k + 1) b, show k + 1 + a = k + (a + 1) by omega]
    omega
theorem fsum_le {g : Nat → Nat} {B m : Nat} (h : ∀ i, m ≤ i → g i ≤ B) : ∀ n k : Nat, m ≤ k → fsum g k n ≤ B * n
  | 0, _, _ => Nat.zero_le _
  | n + 1, k, hk => by
    have a := h k hk
    have b := fsum_le h n (k + 1) (by omega)
    show g k + fsum g (k + 1) n ≤ B * (n + 1)
    rw [Nat.mul_succ]
    omega
def gbd (k : Nat) : Nat := bif Nat.blt k 215 then (fx_sh k).2 else 3100
theorem gbd_215 : fsum gbd 0 215 ≤ 300000 := by decide +kernel
theorem gbd_h {k : Nat} (h : 215 ≤ k) : gbd k = 3100 := by
  unfold gbd
  have e : Nat.blt k 215 = false := by
    cases q : Nat.blt k 215 with
    | false => rfl
    | true => have := Nat.blt_eq.mp q; omega
  rw [e]
  rfl
theorem gbd_l {k : Nat} (h : k < 215) : gbd k = (fx_sh k).2 := by
  unfold gbd
  rw [Nat.blt_eq.mpr h]
  rfl
theorem dR_sz {S : DS} {h : iv_H} (R : dR S h) (hn : S.2.n ≤ 2470) (hb : ∀ k, 215 ≤ k → k < S.2.n → (S.2.sh k).2 ≤ 3100) : h.length ≤ 600000 ∧ iv_sz h ≤ 7302250 := by
  obtain ⟨r1, r2, r3, r4⟩ := R
  have cz : ∀ (k : Nat) (c : iv_C), h[k]? = some c → iv_cz c ≤ gbd (0 + k) := fun k c hk => by
    rw [Nat.zero_add]
    have kl : k < h.length := (List.getElem?_eq_some_iff.mp hk).1
    by_cases q : k < 215
    · have n1 : fx_N = 215 := rfl
      obtain ⟨c', e1, e2⟩ := r3.2 k (by omega)
      rw [List.getElem?_take_of_lt q, hk] at e1
      cases e1
      rw [gbd_l q]
      match c, e2 with
      | .inl o, e2 => rw [e2.1]; exact Nat.le_refl _
      | .inr (t, n, .inl f), e2 => rw [e2.1]; exact Nat.le_refl _
      | .inr (t, n, .inr (.inl f)), e2 => rw [e2.1]; exact Nat.le_refl _
      | .inr (t, n, .inr (.inr (.inl f))), e2 => exact absurd e2 id
      | .inr (t, n, .inr (.inr (.inr (.inl f)))), e2 => exact absurd e2 id
      | .inr (t, n, .inr (.inr (.inr (.inr f)))), e2 => rw [e2.1]; exact Nat.le_refl _
    · rw [gbd_h (by omega)]
      obtain ⟨-, c', e1, e2⟩ := r4 k (by omega) (by omega)
      have b := hb k (by omega) (by omega)
      rw [hk] at e1
      cases e1
      match c, e2 with
      | .inl o, e2 => rw [e2.1] at b; exact b
      | .inr (t, n, .inl f), e2 => rw [e2.1] at b; exact b
      | .inr (t, n, .inr (.inl f)), e2 => rw [e2.1] at b; exact b
      | .inr (t, n, .inr (.inr (.inl f))), e2 => exact absurd e2 id
      | .inr (t, n, .inr (.inr (.inr (.inl f)))), e2 => exact absurd e2 id
      | .inr (t, n, .inr (.inr (.inr (.inr f)))), e2 => rw [e2.1] at b; exact b
  have a := iv_szf 0 cz
  have g1 := gbd_215
  have g2 := fsum_le (g := gbd) (B := 3100) (m := 215) (fun i hi => by rw [gbd_h hi]; exact Nat.le_refl _) (h.length - 215) 215 (Nat.le_refl _)
  have g3 := fsum_add gbd 215 0 (h.length - 215)
  rw [show 215 + (h.length - 215) = h.length by omega, Nat.zero_add] at g3
  have l1 : h.length - 215 ≤ 2255 := by omega
  have l2 := Nat.mul_le_mul_left 3100 l1
  exact ⟨by omega, by omega⟩
set_option maxRecDepth 100000 in
theorem lw_run {z : iv_Z} {L : Nat} {xs : Nat → Int32} (hz : dZ z L xs) (hL : L ≤ 1000) : ∃ (n : Nat) (h' : iv_H), iv_run z n 103 236 (0, iv_en 236 [.retAddr 0], [], []) = some (some (.int 1), h') ∧ h'.length ≤ 600000 ∧ iv_sz h' ≤ 7302250 := by
  obtain ⟨h1, r1, R1⟩ := fx_new z
  have r1 := iv_run_d _ _ _ _ _ _ (iv_run_d _ _ _ _ _ _ (iv_run_d _ _ _ _ _ _ r1))
  have l1 : h1.length = 215 := R1.1
  obtain ⟨δ, hδ⟩ : ∃ δ : dS, δ = (fun _ _ => 0, fun _ _ => none, fun _ => (0, 0), 215) := ⟨_, rfl⟩
  have δn : δ.n = 215 := by rw [hδ]; rfl
  obtain ⟨u, ε, e1, e2⟩ := law_ (Ls := L) (xs := xs) (δ := δ) hL st_start qs_start (by omega)
  have R0 : dR (gs0, δ) h1 := ⟨by show h1.length = δ.n; omega, by show 215 ≤ δ.n; omega, by
    show fx_R (gx gs0) (h1.take 215)
    rw [List.take_of_length_le (by omega)]
    exact R1, fun k h2 h3 => by
    have h3' : k < δ.n := h3
    omega⟩
  obtain ⟨m, h', r3, R'⟩ := de_236 hz (d := 103) (Nat.le_refl _) e1 h1 R0
  have ea : iv_en 236 [.retAddr 0] = [some (.retAddr 0), none, none, none, none, none, none, none, none, none, none, none, none, none, none, none, none, none] := by decide +kernel
  have q1 : Int32.ofInt 1 = 1 := by decide +kernel
  have r3 : iv_run z m 103 236 (8, [some (.retAddr 0), some (.ref 0), none, none, none, none, none, none, none, none, none, none, none, none, none, none, none, none], [], h1) = some (some (.int (Int32.ofInt 1)), h') := r3
  rw [q1] at r3
  have e2n := e2.1
  refine ⟨max 20000 m + 1 + 1 + 1 + 1, h', ?_, dR_sz R' (by show ε.n ≤ 2470; omega) (fun k k1 k2 => e2.2.2.2 k (by omega) k2)⟩
  rw [ea]
  refine iv_new1 (ci := 9) (idx := 18) (q := 0) (by decide +kernel) (by decide +kernel) rfl ?_
  refine iv_rs (op := .dup) (o := (4, [some (.retAddr 0), none, none, none, none, none, none, none, none, none, none, none, none, none, none, none, none, none], [.ref 0, .ref 0], none)) (by decide +kernel) rfl rfl rfl rfl ?_
  refine iv_rc1 (op := .invokespecial 208) (c := (84, [.ref 0], [.ref 0])) (q := (none, h1)) (by decide +kernel) rfl (iv_caI (ci := 9) (by decide +kernel) (by decide +kernel) (by decide +kernel) (by decide +kernel) (by decide +kernel) (by decide +kernel) (by decide)) (iv_run_up r1 (by omega)) ?_
  refine iv_rs (op := .astore_n 1) (o := (8, [some (.retAddr 0), some (.ref 0), none, none, none, none, none, none, none, none, none, none, none, none, none, none, none, none], [], none)) (by decide +kernel) rfl rfl (by show iv_sl 236 1 0 _ = _; unfold iv_sl; rw [mx_236]; rfl) rfl ?_
  exact iv_run_up r3 (by omega)
