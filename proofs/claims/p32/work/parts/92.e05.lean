/-! A LAYER's text: made, and read -/
/-- the text of cells with signs S, C to a row -/
def lt_ (C : Nat) (S : Nat → Int) (p : Nat) : Int := if p % (C + 1) = C then 47 else S (p / (C + 1) * C + p % (C + 1))
theorem lt_c {C i j : Nat} {S : Nat → Int} (h : j < C) : lt_ C S (i * (C + 1) + j) = S (i * C + j) := by
  have d : (i * (C + 1) + j) / (C + 1) = i := by
    rw [Nat.mul_comm, Nat.mul_add_div (by omega), Nat.div_eq_of_lt (by omega), Nat.add_zero]
  have m : (i * (C + 1) + j) % (C + 1) = j := by
    rw [Nat.mul_comm, Nat.mul_add_mod, Nat.mod_eq_of_lt (by omega)]
  unfold lt_
  rw [m, d, if_neg (by omega)]
theorem lt_sep {C i : Nat} {S : Nat → Int} : lt_ C S (i * (C + 1) + C) = 47 := by
  have m : (i * (C + 1) + C) % (C + 1) = C := by
    rw [Nat.mul_comm, Nat.mul_add_mod, Nat.mod_eq_of_lt (by omega)]
  unfold lt_
  rw [if_pos m]
theorem lt_r {C : Nat} {S : Nat → Int} (h : ∀ k, 0 ≤ S k ∧ S k < 128) (p : Nat) : 0 ≤ lt_ C S p ∧ lt_ C S p < 128 := by
  unfold lt_
  split
  · omega
  · exact h _
/-- how many bytes k cells have -/
def ln_ (C k : Nat) : Nat := if k = 0 then 0 else k + (k - 1) / C
theorem ln_2 {C k : Nat} {S : Nat → Int} (hC : 0 < C) (h0 : 0 < k) (h : k % C = 0) : lt_ C S (ln_ C k) = 47 ∧ lt_ C S (ln_ C k + 1) = S k ∧ ln_ C (k + 1) = ln_ C k + 2 := by
  obtain ⟨q, hq⟩ : ∃ q, q = k / C := ⟨_, rfl⟩
  have e : C * q + k % C = k := by rw [hq]; exact Nat.div_add_mod k C
  rw [h, Nat.add_zero] at e
  have q0 : 0 < q := Nat.pos_of_ne_zero fun z => by rw [z, Nat.mul_zero] at e; omega
  obtain ⟨p, rfl⟩ : ∃ p, q = p + 1 := ⟨q - 1, by omega⟩
  have e1 : C * (p + 1) = C * p + C := Nat.mul_succ C p
  have d1 : (k - 1) / C = p := by
    rw [show k - 1 = C * p + (C - 1) by omega, Nat.mul_add_div hC, Nat.div_eq_of_lt (by omega), Nat.add_zero]
  have l1 : ln_ C k = p * (C + 1) + C := by
    unfold ln_
    rw [if_neg (by omega), d1, Nat.mul_succ, Nat.mul_comm p C]
    omega
  have l2 : ln_ C (k + 1) = ln_ C k + 2 := by
    rw [l1]
    unfold ln_
    rw [if_neg (by omega), show k + 1 - 1 = k from rfl, ← hq, Nat.mul_succ, Nat.mul_comm p C]
    omega
  refine ⟨by rw [l1]; exact lt_sep, ?_, l2⟩
  have := lt_c (C := C) (i := p + 1) (j := 0) (S := S) hC
  rw [Nat.add_zero, Nat.add_zero, Nat.mul_comm (p + 1) C, e] at this
  rw [l1, show p * (C + 1) + C + 1 = (p + 1) * (C + 1) by rw [Nat.succ_mul]; omega]
  exact this
theorem ln_1 {C k : Nat} {S : Nat → Int} (hC : 0 < C) (h : k = 0 ∨ ¬ k % C = 0) : lt_ C S (ln_ C k) = S k ∧ ln_ C (k + 1) = ln_ C k + 1 := by
  obtain ⟨q, hq⟩ : ∃ q, q = k / C := ⟨_, rfl⟩
  obtain ⟨r, hr⟩ : ∃ r, r = k % C := ⟨_, rfl⟩
  have e : C * q + r = k := by rw [hq, hr]; exact Nat.div_add_mod k C
  have rC : r < C := by rw [hr]; exact Nat.mod_lt _ hC
  have l1 : ln_ C k = q * (C + 1) + r := by
    unfold ln_
    by_cases z : k = 0
    · rw [if_pos z, hq, hr, z, Nat.zero_div, Nat.zero_mod, Nat.zero_mul]
    · have r0 : 0 < r := by
        rcases h with h | h
        · exact absurd h z
        · omega
      rw [if_neg z, show k - 1 = C * q + (r - 1) by omega, Nat.mul_add_div hC, Nat.div_eq_of_lt (by omega), Nat.mul_succ, Nat.mul_comm q C]
      omega
  refine ⟨?_, ?_⟩
  · rw [l1, lt_c rC, Nat.mul_comm q C, e]
  · rw [l1]
    unfold ln_
    rw [if_neg (by omega), show k + 1 - 1 = k from rfl, ← hq, Nat.mul_succ, Nat.mul_comm q C]
    omega
theorem ln_R {R C : Nat} (hR : 0 < R) (hC : 0 < C) : ln_ C (R * C) = (R - 1) * (C + 1) + C := by
  obtain ⟨r, rfl⟩ : ∃ r, R = r + 1 := ⟨R - 1, by omega⟩
  have e1 : (r + 1) * C = r * C + C := Nat.succ_mul r C
  unfold ln_
  rw [if_neg (by omega), show (r + 1) * C - 1 = C * r + (C - 1) by rw [Nat.mul_comm C r]; omega, Nat.mul_add_div hC, Nat.div_eq_of_lt (by omega), show r + 1 - 1 = r from rfl, Nat.mul_succ]
  omega
theorem SBv_bs {δ : dS} {b v n : Nat} {bs bs' : Nat → Int} (h : ∀ i, i < n → bs i = bs' i) (S : SBv δ b v n bs) : SBv δ b v n bs' := ⟨S.1, S.2.1, S.2.2.1, S.2.2.2.1, S.2.2.2.2.1, S.2.2.2.2.2.1, S.2.2.2.2.2.2.1, fun i hi => (S.2.2.2.2.2.2.2 i hi).trans (h i hi)⟩
/-- one byte more of a row of bytes that is known -/
theorem sb_c' {m b v n : Nat} {x : Int} {bs : Nat → Int} {δ : dS} (s : gx_S) (S : SBv δ b v n bs) (hb : m ≤ b) (hv : m ≤ v) (hn : n + 1 ≤ 1500) (hx : 0 ≤ x ∧ x < 128) (e : bs n = x) : ∃ (ε : dS) (w : Nat), dm_258 b x s δ = some (b, s, ε) ∧ SBv ε b w (n + 1) bs ∧ DF m 1 δ ε ∧ m ≤ w := by
  obtain ⟨ε, w, e1, e2, e3, e4⟩ := sb_c s S hb hv hn hx
  refine ⟨ε, w, e1, SBv_bs (fun i hi => ?_) e2, e3, e4⟩
  unfold ap_
  by_cases q : i = n
  · rw [if_pos q, q, e]
  · rw [if_neg q]
/-- a cell's sign -/
def sgl (l : Int) (x : Int) : Int := if ¬ l = 0 then (if ¬ x = 8 then 97 + x else 46) else 48 + x
theorem sgl_r {l x : Int} (h : 0 ≤ x ∧ x ≤ 8) : 0 ≤ sgl l x ∧ sgl l x < 128 := by
  unfold sgl
  (repeat' split) <;> omega
section
variable {L0 : Nat} {xs : Nat → Int32}
theorem ly_37 {K : Nat → Int → Int → Nat → Int → gx_S → dS → Option (Nat × DS)} {a b v n k m N : Nat} {C l : Int} {S : Nat → Int} {cv : Nat → Int} {δ : dS} (s : gx_S) (hA : AR δ 0 a n) (hk : k < n) (hc : δ.I a k = cv k) (hr : 0 ≤ cv k ∧ cv k ≤ 8) (hl : l = 0 ∨ l = 1) (B : SBv δ b v N S) (hb : m ≤ b) (hv : m ≤ v) (hN : N + 1 ≤ 1500) (e : S N = sgl l (cv k)) : ∃ (ε : dS) (w : Nat), dm_239_37 L0 xs K a C l b k s δ = K a C l b ((k + 1 : Nat) : Int) s ε ∧ SBv ε b w (N + 1) S ∧ DF m 1 δ ε ∧ m ≤ w := by
  have sr := sgl_r (l := l) hr
  obtain ⟨ε, w, e1, e2, e3, e4⟩ := sb_c' s B hb hv hN sr e
  refine ⟨ε, w, ?_, e2, e3, e4⟩
  have st : ∀ x, x = sgl l (cv k) → dm_239_75 L0 xs K a C l b k b x s δ = K a C l b ((k + 1 : Nat) : Int) s ε := fun x hx => by
    unfold dm_239_75
    rw [if_pos B.1, hx, e1, Option.bind_some]
    rfl
  unfold dm_239_37
  rw [if_pos (by omega)]
  by_cases q : l = 0
  · rw [if_neg (fun t => t q), if_pos (AR_A hA), if_pos (AR_I hA hk), show ((k : Int)).toNat = k by omega, hc, c16_i (by omega)]
    exact st _ (by unfold sgl; rw [if_neg (fun t => t q)])
  · rw [if_pos q, if_pos (AR_A hA), if_pos (AR_I hA hk), show ((k : Int)).toNat = k by omega, hc, if_pos (by omega)]
    by_cases q8 : cv k = 8
    · rw [if_neg (fun t => t q8)]
      exact st _ (by unfold sgl; rw [if_pos q, if_neg (fun t => t q8)])
    · rw [if_pos q8, c16_i (by omega)]
      exact st _ (by unfold sgl; rw [if_pos q, if_pos q8])
theorem ly_11 {a b n m C : Nat} {l : Int} {cv : Nat → Int} (hC : 0 < C ∧ C ≤ 12) (hn : n ≤ 96) (hr : ∀ k, k < n → 0 ≤ cv k ∧ cv k ≤ 8) (hl : l = 0 ∨ l = 1) (ha : a < m) (hb : m ≤ b) : ∀ (q k v : Nat) (s : gx_S) (δ : dS), n < q + k → k ≤ n → AR δ 0 a n → (∀ k, k < n → δ.I a k = cv k) → SBv δ b v (ln_ C k) (lt_ C fun k => sgl l (cv k)) → m ≤ v → ∃ (ε : dS) (x : Nat), dm_239_11 L0 xs q a C l b k s δ = some (x, s, ε) ∧ STR ε x (x + 1) (ln_ C n) (lt_ C fun k => sgl l (cv k)) ∧ m ≤ x ∧ DF m (2 * (n - k) + 2) δ ε := by
  intro q
  induction q with
  | zero => intro k v s δ h; omega
  | succ q ih =>
    intro k v s δ h hk hA hc B hv
    rw [dm_239_11, if_pos (AR_A hA), if_pos (by omega), if_pos (by rw [AR_2 hA]; omega)]
    by_cases e : k = n
    · obtain ⟨ε, e1, e2, e3⟩ := sb_str s B
      have bn : b < δ.n := B.1.2.1
      rw [if_pos (by rw [AR_2 hA]; omega), if_pos B.1, e1, Option.bind_some]
      rw [e] at e2
      exact ⟨ε, δ.n, rfl, e2, by omega, DF_mono (by omega) (by omega) e3⟩
    · have lk : ln_ C k ≤ 2 * k := by
        unfold ln_
        have := Nat.div_le_self (k - 1) C
        split <;> omega
      rw [if_neg (by rw [AR_2 hA]; omega)]
      by_cases z : k = 0 ∨ ¬ k % C = 0
      · obtain ⟨t1, t2⟩ := ln_1 (S := fun k => sgl l (cv k)) hC.1 z
        obtain ⟨ε, w, e1, e2, e3, e4⟩ := ly_37 (L0 := L0) (xs := xs) (K := dm_239_11 L0 xs q) (C := (C : Int)) s hA (show k < n by omega) (hc k (by omega)) (hr k (by omega)) hl B hb hv (by omega) t1
        rw [← t2] at e2
        obtain ⟨ζ, x, z1, z2, z3, z4⟩ := ih (k + 1) w s ε (by omega) (by omega) (AR_DF e3 hA) (fun k hk => ((e3.2.1 a ha).1 k).trans (hc k hk)) e2 e4
        refine ⟨ζ, x, ?_, z2, z3, DF_c (DF_tr e3 z4) (by omega)⟩
        by_cases k0 : k = 0
        · rw [if_pos (by omega), e1, z1]
        · have zm : ¬ ((k : Int) % (C : Int)) = 0 := fun t => by
            rw [← Int.natCast_emod] at t
            rcases z with z | z
            · exact k0 z
            · exact z (by omega)
          have mr := Nat.mod_lt k hC.1
          rw [if_neg (by omega), if_pos (by omega), if_pos (by rw [← Int.natCast_emod]; omega), if_pos zm, e1, z1]
      · have k0 : 0 < k := Nat.pos_of_ne_zero fun t => z (.inl t)
        have km : k % C = 0 := Decidable.not_not.mp fun t => z (.inr t)
        obtain ⟨t1, t2, t3⟩ := ln_2 (S := fun k => sgl l (cv k)) hC.1 k0 km
        obtain ⟨ε, w, e1, e2, e3, e4⟩ := sb_c' s B hb hv (by omega) (show 0 ≤ (47 : Int) ∧ (47 : Int) < 128 by omega) t1
        obtain ⟨ζ, w2, z1, z2, z3, z4⟩ := ly_37 (L0 := L0) (xs := xs) (K := dm_239_11 L0 xs q) (C := (C : Int)) s (AR_DF e3 hA) (show k < n by omega) (((e3.2.1 a ha).1 k).trans (hc k (by omega))) (hr k (by omega)) hl e2 hb e4 (by omega) t2
        rw [show ln_ C k + 1 + 1 = ln_ C (k + 1) by omega] at z2
        obtain ⟨η, x, y1, y2, y3, y4⟩ := ih (k + 1) w2 s ζ (by omega) (by omega) (AR_DF z3 (AR_DF e3 hA)) (fun k hk => ((z3.2.1 a ha).1 k).trans (((e3.2.1 a ha).1 k).trans (hc k hk))) z2 z4
        refine ⟨η, x, ?_, y2, y3, DF_c (DF_tr e3 (DF_tr z3 y4)) (by omega)⟩
        have zm : ((k : Int) % (C : Int)) = 0 := by
          rw [← Int.natCast_emod, km]
          rfl
        rw [if_neg (by omega), if_pos (by omega), if_pos (by rw [zm]; omega), if_neg (fun t => t zm), if_pos B.1, e1, Option.bind_some]
        dsimp only
        rw [z1, y1]
theorem ly_ {a n C : Nat} {l : Int} {cv : Nat → Int} (hC : 0 < C ∧ C ≤ 12) (hn : n ≤ 96) (hr : ∀ k, k < n → 0 ≤ cv k ∧ cv k ≤ 8) (hl : l = 0 ∨ l = 1) {s : gx_S} {δ : dS} (hA : AR δ 0 a n) (hc : ∀ k, k < n → δ.I a k = cv k) : ∃ (ε : dS) (x : Nat), dm_239 L0 xs a C l s δ = some (x, s, ε) ∧ STR ε x (x + 1) (ln_ C n) (lt_ C fun k => sgl l (cv k)) ∧ δ.n ≤ x ∧ DF δ.n (2 * n + 4) δ ε := by
  have an := hA.2.1
  have a0 := hA.1
  obtain ⟨ε, e1, e2, e3, e4⟩ := sb_new s (show 215 ≤ δ.n by omega)
  obtain ⟨ζ, x, z1, z2, z3, z4⟩ := ly_11 (L0 := L0) (xs := xs) (m := δ.n) (b := δ.n) hC hn hr hl an (Nat.le_refl _) 100000 0 (δ.n + 1) s ε (by omega) (by omega) (AR_DF e3 hA) (fun k hk => ((e3.2.1 a an).1 k).trans (hc k hk)) (show SBv ε δ.n (δ.n + 1) 0 _ from SBv_bs (fun i hi => absurd hi (Nat.not_lt_zero i)) e2) (by omega)
  refine ⟨ζ, x, ?_, z2, z3, DF_c (DF_tr e3 z4) (by omega)⟩
  unfold dm_239
  rw [Option.bind_some, if_pos e4, e1, Option.bind_some]
  exact z1
end
/-! the class reads it -/
theorem lyt_ok {tb S cv : Nat → Int} {l M R C N w0 : Nat} (hR : 0 < R) (hC : 0 < C) (hN : N = (R - 1) * (C + 1) + C) (htb : ∀ i, i < N → tb i = lt_ C S i) (hS : ∀ k, k < R * C → lv_ l (S k) = cv k ∧ 0 ≤ cv k) (hM : R ≤ M ∧ (¬ l = 0 → M = R)) (hw : C ≤ w0) : ∀ (k r c K w : Nat) (h : Nat → Nat → Int), N < r * (C + 1) + c + k → r < R → c ≤ C → ((K = 0 ∧ w = w0) ∨ (K = 1 ∧ w = C)) → (∀ i j, (i < r ∧ j < C) ∨ (i = r ∧ j < c) → h i j = cv (i * C + j)) → ∃ h' : Nat → Nat → Int, lyt tb N l M k (r * (C + 1) + c) r c K w h = (-1, R, C, h') ∧ ∀ i j, i < R → j < C → h' i j = cv (i * C + j) := by
  have l47 : lv_ l 47 = -1 := by
    unfold lv_
    (repeat' split) <;> omega
  have l1 : lv_ l (-1) = -1 := by
    unfold lv_
    (repeat' split) <;> omega
  have rows : ∀ r, r < R → r * (C + 1) + C ≤ N ∧ (r + 1 < R → r * (C + 1) + C < N) ∧ (r + 1 = R → r * (C + 1) + C = N) := fun r hr => by
    have a := Nat.mul_le_mul_right (C + 1) (show r ≤ R - 1 by omega)
    refine ⟨by omega, fun h => ?_, fun h => by rw [hN, show R - 1 = r by omega]⟩
    have b := Nat.mul_le_mul_right (C + 1) (show r + 1 ≤ R - 1 by omega)
    rw [Nat.succ_mul] at b
    omega
  intro k
  induction k with
  | zero =>
    intro r c K w h hk hr hc
    have := (rows r hr).1
    omega
  | succ k ih =>
    intro r c K w h hk hr hc hK hh
    obtain ⟨r1, r2, r3⟩ := rows r hr
    rw [lyt]
    by_cases e : c < C
    · have hp : r * (C + 1) + c < N := by omega
      have hkk : r * C + c < R * C := by
        have := Nat.mul_le_mul_right C (show r + 1 ≤ R by omega)
        rw [Nat.succ_mul] at this
        omega
      have sg : sgn tb N (r * (C + 1) + c) = S (r * C + c) := by
        unfold sgn
        rw [if_pos hp, htb _ hp, lt_c e]
      obtain ⟨s1, s2⟩ := hS _ hkk
      rw [sg, s1, if_pos (by omega), if_neg (by omega)]
      refine ih r (c + 1) K w _ (by omega) hr (by omega) hK fun i j hij => ?_
      unfold up2
      by_cases q : i = r ∧ j = c
      · rw [if_pos q, q.1, q.2]
      · rw [if_neg q]
        exact hh i j (by omega)
    · have ec : c = C := by omega
      subst ec
      by_cases e2 : r + 1 < R
      · have hp := r2 e2
        have sg : sgn tb N (r * (c + 1) + c) = 47 := by
          unfold sgn
          rw [if_pos hp, htb _ hp, lt_sep]
        rw [sg, l47, if_neg (by omega), if_neg (by omega), if_neg (by omega), if_pos rfl, if_neg (by omega), show r * (c + 1) + c + 1 = (r + 1) * (c + 1) + 0 by rw [Nat.succ_mul]; omega]
        refine ih (r + 1) 0 1 c h (by rw [Nat.succ_mul]; omega) e2 (by omega) (.inr ⟨rfl, rfl⟩) fun i j hij => ?_
        rcases hij with ⟨h1, h2⟩ | ⟨h1, h2⟩
        · by_cases z : i = r
          · exact hh i j (.inr ⟨z, h2⟩)
          · exact hh i j (.inl ⟨by omega, h2⟩)
        · omega
      · have eR : r + 1 = R := by omega
        have hp := r3 eR
        have sg : sgn tb N (r * (c + 1) + c) = -1 := by
          unfold sgn
          rw [if_neg (by omega)]
        rw [sg, l1, if_neg (by omega), if_neg (by omega), if_neg (by omega), if_neg (by omega), if_neg (by omega), eR]
        refine ⟨h, rfl, fun i j hi hj => ?_⟩
        by_cases z : i = r
        · exact hh i j (.inr ⟨z, hj⟩)
        · exact hh i j (.inl ⟨by omega, hj⟩)
/-- of the signs, the class's numbers -/
theorem sgl_0 {x : Int} : sgl 0 x = 48 + x := if_neg fun t => t rfl
theorem sgl_1 {x : Int} (h : ¬ x = 8) : sgl 1 x = 97 + x := (if_pos (by omega)).trans (if_pos h)
theorem sgl_8 : sgl 1 8 = 46 := (if_pos (by omega)).trans (if_neg fun t => t rfl)
theorem lv_sgl {l : Nat} {x : Int} (hl : l < 3) (hx : 0 ≤ x ∧ x ≤ if l = 2 then 3 else 8) (h8 : ¬ l = 2 → x ≤ 8) : lv_ l (sgl (if l = 2 then 0 else 1) x) = x := by
  by_cases q : l = 2
  · rw [if_pos q] at hx ⊢
    rw [sgl_0]
    unfold lv_
    (repeat' split) <;> omega
  · rw [if_neg q] at hx ⊢
    by_cases q8 : x = 8
    · rw [q8, sgl_8]
      unfold lv_
      (repeat' split) <;> omega
    · rw [sgl_1 q8]
      unfold lv_
      (repeat' split) <;> omega
theorem lyw_ok {tb cv : Nat → Int} {l R0 C0 R C N : Nat} (hl : l < 3) (hR : 0 < R ∧ R ≤ 8) (hC : 0 < C ∧ C ≤ 12) (hN : N = ln_ C (R * C)) (htb : ∀ i, i < N → tb i = lt_ C (fun k => sgl (if l = 2 then 0 else 1) (cv k)) i) (hv : ∀ k, k < R * C → 0 ≤ cv k ∧ cv k ≤ if l = 2 then 3 else 8) (h0 : ¬ l = 0 → R0 = R ∧ C0 = C) : ∃ h' : Nat → Nat → Int, lyw tb N l R0 C0 = (-1, R, C, h') ∧ ∀ i j, i < R → j < C → h' i j = cv (i * C + j) := by
  rw [ln_R hR.1 hC.1] at hN
  unfold lyw
  have g := lyt_ok (tb := tb) (l := l) (M := if l = 0 then 8 else R0) (w0 := if l = 0 then 12 else C) hR.1 hC.1 hN htb (fun k hk => by
    have := hv k hk
    exact ⟨lv_sgl hl this (fun q => by rw [if_neg q] at this; omega), this.1⟩) (by
    by_cases q : l = 0
    · rw [if_pos q]; exact ⟨hR.2, fun t => absurd q t⟩
    · rw [if_neg q]; have := h0 q; omega) (by
    by_cases q : l = 0
    · rw [if_pos q]; exact hC.2
    · rw [if_neg q]; exact Nat.le_refl _) (N + 1) 0 0 (if l = 0 then 0 else 1) (if l = 0 then 12 else C) (fun _ _ => 0) (by omega) hR.1 (by omega) (by
    by_cases q : l = 0
    · rw [if_pos q, if_pos q]; exact .inl ⟨rfl, rfl⟩
    · rw [if_neg q, if_neg q]; exact .inr ⟨rfl, rfl⟩) fun i j hij => by omega
  rw [Nat.zero_mul, Nat.add_zero] at g
  by_cases q : l = 0
  · rw [if_pos q, if_pos q, if_pos q] at g ⊢
    exact g
  · rw [if_neg q, if_neg q, if_neg q] at g ⊢
    rw [(h0 q).2]
    exact g
