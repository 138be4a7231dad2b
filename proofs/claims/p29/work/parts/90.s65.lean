/-! THE CLASS: states copied, history, tables forgotten -/
theorem gcp_1 (s : gx_S) (a sp b dp n k j : Nat) : (gcp s a sp b dp n).1 k j = if k = b ∧ dp ≤ j ∧ j < dp + n then s.1 a (sp + (j - dp)) else s.1 k j := rfl
/-- x0 becomes a copy of x1; the rest stays -/
theorem sp_54 {s : gx_S} {x0 x1 : Nat} (h0 : fx_oc x0 6 = true) (h1 : fx_oc x1 6 = true) (hd : x0 + 5 ≤ x1 ∨ x1 + 5 ≤ x0) : ∃ u : gx_S, gm_54 x0 x1 s = some u ∧ u.2 = s.2 ∧ (∀ k j, ¬ (x0 ≤ k ∧ k < x0 + 5) → u.1 k j = s.1 k j) ∧ (∀ j, 4 ≤ j → j ≤ 8 → u.1 x0 j = s.1 x1 j) ∧ (∀ j, j < 288 → u.1 (x0 + 1) j = s.1 (x1 + 1) j) ∧ (∀ j, j < 27 → u.1 (x0 + 2) j = s.1 (x1 + 2) j) ∧ (∀ j, j < 12 → u.1 (x0 + 3) j = s.1 (x1 + 3) j) ∧ ∀ j, j < 8 → u.1 (x0 + 4) j = s.1 (x1 + 4) j := by
  obtain ⟨b, hb⟩ : ∃ b, b = gcp (gcp (gcp (gcp s (x1 + 1) 0 (x0 + 1) 0 288) (x1 + 2) 0 (x0 + 2) 0 27) (x1 + 3) 0 (x0 + 3) 0 12) (x1 + 4) 0 (x0 + 4) 0 8 := ⟨_, rfl⟩
  obtain ⟨c, hc⟩ : ∃ c, c = gw1 b x0 4 (b.1 x1 4) := ⟨_, rfl⟩
  obtain ⟨d, hd'⟩ : ∃ d, d = gw1 c x0 5 (c.1 x1 5) := ⟨_, rfl⟩
  obtain ⟨e, he⟩ : ∃ e, e = gw1 d x0 6 (d.1 x1 6) := ⟨_, rfl⟩
  obtain ⟨g, hg⟩ : ∃ g, g = gw1 e x0 7 (e.1 x1 7) := ⟨_, rfl⟩
  obtain ⟨h, hh⟩ : ∃ h, h = gw1 g x0 8 (g.1 x1 8) := ⟨_, rfl⟩
  have st : gm_54 x0 x1 s = some h := by
    unfold gm_54
    rw [if_pos ⟨h0, h1⟩, ← hb, ← hc, ← hd', ← he, ← hg, ← hh]
  have h2 : h.2 = s.2 := by rw [hh, hg, he, hd', hc, hb]; rfl
  have bo : ∀ k j, ¬ (x0 < k ∧ k < x0 + 5) → b.1 k j = s.1 k j := fun k j q => by
    rw [hb, gcp_1, if_neg (by omega), gcp_1, if_neg (by omega), gcp_1, if_neg (by omega), gcp_1, if_neg (by omega)]
  have ho : ∀ k j, k ≠ x0 → h.1 k j = b.1 k j := fun k j q => by
    rw [hh, gw1_1, if_neg (fun x => q x.1), hg, gw1_1, if_neg (fun x => q x.1), he, gw1_1, if_neg (fun x => q x.1), hd', gw1_1, if_neg (fun x => q x.1), hc, gw1_1, if_neg (fun x => q x.1)]
  have x1c : ∀ j, c.1 x1 j = s.1 x1 j ∧ d.1 x1 j = s.1 x1 j ∧ e.1 x1 j = s.1 x1 j ∧ g.1 x1 j = s.1 x1 j ∧ b.1 x1 j = s.1 x1 j := fun j => by
    have b0 := bo x1 j (by omega)
    have c0 : c.1 x1 j = s.1 x1 j := by rw [hc, gw1_1, if_neg (by omega), b0]
    have d0 : d.1 x1 j = s.1 x1 j := by rw [hd', gw1_1, if_neg (by omega), c0]
    have e0 : e.1 x1 j = s.1 x1 j := by rw [he, gw1_1, if_neg (by omega), d0]
    have g0 : g.1 x1 j = s.1 x1 j := by rw [hg, gw1_1, if_neg (by omega), e0]
    exact ⟨c0, d0, e0, g0, b0⟩
  refine ⟨h, st, h2, fun k j q => by rw [ho k j (by omega), bo k j (by omega)], fun j q1 q2 => ?_, fun j q => ?_, fun j q => ?_, fun j q => ?_, fun j q => ?_⟩
  · rcases (show j = 4 ∨ j = 5 ∨ j = 6 ∨ j = 7 ∨ j = 8 by omega) with z | z | z | z | z
    · rw [z, hh, gw1_1, if_neg (by omega), hg, gw1_1, if_neg (by omega), he, gw1_1, if_neg (by omega), hd', gw1_1, if_neg (by omega), hc, gw1_1, if_pos ⟨rfl, rfl⟩, (x1c 4).2.2.2.2]
    · rw [z, hh, gw1_1, if_neg (by omega), hg, gw1_1, if_neg (by omega), he, gw1_1, if_neg (by omega), hd', gw1_1, if_pos ⟨rfl, rfl⟩, (x1c 5).1]
    · rw [z, hh, gw1_1, if_neg (by omega), hg, gw1_1, if_neg (by omega), he, gw1_1, if_pos ⟨rfl, rfl⟩, (x1c 6).2.1]
    · rw [z, hh, gw1_1, if_neg (by omega), hg, gw1_1, if_pos ⟨rfl, rfl⟩, (x1c 7).2.2.1]
    · rw [z, hh, gw1_1, if_pos ⟨rfl, rfl⟩, (x1c 8).2.2.2.1]
  · rw [ho _ _ (by omega), hb, gcp_1, if_neg (by omega), gcp_1, if_neg (by omega), gcp_1, if_neg (by omega), gcp_1, if_pos (by omega)]
    rw [show 0 + (j - 0) = j by omega]
  · rw [ho _ _ (by omega), hb, gcp_1, if_neg (by omega), gcp_1, if_neg (by omega), gcp_1, if_pos (by omega), gcp_1, if_neg (by omega)]
    rw [show 0 + (j - 0) = j by omega]
  · rw [ho _ _ (by omega), hb, gcp_1, if_neg (by omega), gcp_1, if_pos (by omega), gcp_1, if_neg (by omega), gcp_1, if_neg (by omega)]
    rw [show 0 + (j - 0) = j by omega]
  · rw [ho _ _ (by omega), hb, gcp_1, if_pos (by omega), gcp_1, if_neg (by omega), gcp_1, if_neg (by omega), gcp_1, if_neg (by omega)]
    rw [show 0 + (j - 0) = j by omega]
theorem kC {R C k l : Nat} (hR : R ≤ 8) (hC : C ≤ 12) (hk : k < R * C) (hl : l < 3) : 52 + 96 * l + 12 * (k / C) + k % C < 340 ∧ 96 * l + k < 288 := by
  have h0 : 0 < C := Nat.pos_of_ne_zero fun h => by rw [h, Nat.mul_zero] at hk; omega
  have a : k / C < R := (Nat.div_lt_iff_lt_mul h0).mpr hk
  have b := Nat.mod_lt k h0
  have := RC_96 hR hC
  omega
theorem MP_c {f f' : Nat → Int} {R C : Nat} (h : ∀ i, i < 340 → f' i = f i) (M : MP f R C) : MP f' R C := by
  obtain ⟨m1, m2, m3, m4, m5, m6, m7, m8, m10⟩ := M
  refine ⟨by rw [h 0 (by omega), h 1 (by omega)]; exact m1, by rw [h 2 (by omega)]; exact m2, by rw [h 3 (by omega)]; exact m3, by rw [h 4 (by omega)]; exact m4, fun g hg => ⟨fun z hz => by rw [h _ (by omega)]; exact (m5 g hg).1 z hz, ?_⟩, fun i hi => by rw [h _ (by omega)]; exact m6 i hi, fun z hz => by rw [h _ (by omega)]; exact m7 z hz, fun l hl b k hk => ?_, by rw [h 2 (by omega)]; exact m10⟩
  · rw [sg_eq (g := fun z => f (5 + 9 * g + z)) fun z hz => h _ (by omega)]
    exact (m5 g hg).2
  · rw [h _ (kC m1.2.2.1 m1.2.2.2 hk hl).1]
    rw [h 2 (by omega)] at b
    exact m8 l hl b k hk
theorem MR_c {s : gx_S} {a : Nat} {f f' : Nat → Int} {R C : Nat} (hR : R ≤ 8) (hC : C ≤ 12) (h : ∀ i, i < 340 → f' i = f i) (m : MR s a f R C) : MR s a f' R C := by
  obtain ⟨m1, m2, m3, m4, m5, m6, m7, m8, m9⟩ := m
  refine ⟨by rw [h 0 (by omega)]; exact m1, by rw [h 1 (by omega)]; exact m2, by rw [h 2 (by omega)]; exact m3, by rw [h 3 (by omega)]; exact m4, by rw [h 4 (by omega)]; exact m5, fun i hi => by rw [h _ (by omega)]; exact m6 i hi, fun i hi => by rw [h _ (by omega)]; exact m7 i hi, fun i hi => by rw [h _ (by omega)]; exact m8 i hi, fun l hl b k hk => ?_⟩
  rw [h _ (kC hR hC hk hl).1]
  rw [h 2 (by omega)] at b
  exact m9 l hl b k hk
theorem MR_54 {s u : gx_S} {x0 x1 : Nat} {f : Nat → Int} {R C : Nat} (hR : R ≤ 8) (hC : C ≤ 12) (c1 : ∀ j, 4 ≤ j → j ≤ 8 → u.1 x0 j = s.1 x1 j) (c2 : ∀ j, j < 288 → u.1 (x0 + 1) j = s.1 (x1 + 1) j) (c3 : ∀ j, j < 27 → u.1 (x0 + 2) j = s.1 (x1 + 2) j) (c4 : ∀ j, j < 12 → u.1 (x0 + 3) j = s.1 (x1 + 3) j) (c5 : ∀ j, j < 8 → u.1 (x0 + 4) j = s.1 (x1 + 4) j) (m : MR s x1 f R C) : MR u x0 f R C := by
  obtain ⟨m1, m2, m3, m4, m5, m6, m7, m8, m9⟩ := m
  exact ⟨by rw [c1 4 (by omega) (by omega)]; exact m1, by rw [c1 5 (by omega) (by omega)]; exact m2, by rw [c1 6 (by omega) (by omega)]; exact m3, by rw [c1 7 (by omega) (by omega)]; exact m4, by rw [c1 8 (by omega) (by omega)]; exact m5, fun i hi => by rw [c3 i hi]; exact m6 i hi, fun i hi => by rw [c4 i hi]; exact m7 i hi, fun i hi => by rw [c5 i hi]; exact m8 i hi, fun l hl b k hk => by rw [c2 _ (kC hR hC hk hl).2]; exact m9 l hl b k hk⟩
/-- what is kept of the past: pf k is the k-th of n maps -/
def HC (s : gx_S) (n : Nat) (pf : Nat → Nat → Int) : Prop := n ≤ 8 ∧ ∃ p : Nat, p < 8 ∧ s.1 16 1 = p ∧ s.1 16 2 = n ∧ ∀ k, k < n → ∃ R C : Nat, MP (pf k) R C ∧ MR s (18 + 5 * ((p + 8 - n + k) % 8)) (pf k) R C
/-- the past with one map more -/
def pn (n : Nat) (pf : Nat → Nat → Int) (f : Nat → Int) (k : Nat) : Nat → Int := if n < 8 then (if k = n then f else pf k) else (if k = 7 then f else pf (k + 1))
def nn (n : Nat) : Nat := if n < 8 then n + 1 else 8
theorem rf17 : ∀ p : Nat, p < 8 → fx_rf 17 p = 18 + 5 * p ∧ fx_oc (18 + 5 * p) 6 = true := by decide +kernel
theorem sp_31 {s : gx_S} {f : Nat → Int} {R C n : Nat} {pf : Nat → Nat → Int} (m : MR s 1 f R C) (M : MP f R C) (H : HC s n pf) : ∃ u : gx_S, gm_31 1 s = some u ∧ u.2 = s.2 ∧ (∀ k j, ¬ (16 ≤ k ∧ k ≤ 57) → u.1 k j = s.1 k j) ∧ HC u (nn n) (pn n pf f) := by
  obtain ⟨hn, p, hp, e1, e2, hk⟩ := H
  obtain ⟨r1, r2⟩ := rf17 p hp
  obtain ⟨b, b1, b2, b3, b4, b5, b6, b7, b8⟩ := sp_54 (s := s) (x0 := 18 + 5 * p) (x1 := 1) r2 (by decide +kernel) (by omega)
  have mb : MR b (18 + 5 * p) f R C := MR_54 M.1.2.2.1 M.1.2.2.2 b4 b5 b6 b7 b8 m
  have be1 : b.1 16 1 = p := (b3 16 1 (by omega)).trans e1
  have be2 : b.1 16 2 = n := (b3 16 2 (by omega)).trans e2
  obtain ⟨c, hc⟩ : ∃ c, c = gw1 b 16 1 (((p : Int) + 1) % 8) := ⟨_, rfl⟩
  have c2 : c.1 16 2 = n := by rw [hc, gw1_1, if_neg (by omega), be2]
  obtain ⟨d, hd⟩ : ∃ d, d = gw1 c 16 2 (if (n : Int) + 1 < 8 then (n : Int) + 1 else 8) := ⟨_, rfl⟩
  have st : gm_31 1 s = some d := by
    unfold gm_31
    rw [if_pos (by decide +kernel), if_pos (by omega), e1, show ((p : Int)).toNat = p by omega, r1, Option.bind_some, b1, Option.bind_some, be1, if_pos (by omega), ← hc, c2, if_pos (by omega), ← hd]
  have d1 : d.1 16 1 = (((p + 1) % 8 : Nat) : Int) := by rw [hd, gw1_1, if_neg (by omega), hc, gw1_1, if_pos ⟨rfl, rfl⟩]; omega
  have d2 : d.1 16 2 = ((nn n : Nat) : Int) := by
    rw [hd, gw1_1, if_pos ⟨rfl, rfl⟩]
    unfold nn
    by_cases z : n < 8
    · rw [if_pos z]
      split <;> omega
    · rw [if_neg z, if_neg (by omega)]
      rfl
  have dk : ∀ k j, k ≠ 16 → d.1 k j = b.1 k j := fun k j q => by rw [hd, gw1_1, if_neg (fun x => q x.1), hc, gw1_1, if_neg (fun x => q x.1)]
  refine ⟨d, st, by rw [hd, hc]; exact b2, fun k j q => by rw [dk k j (by omega), b3 k j (by omega)], ?_, (p + 1) % 8, by omega, d1, d2, fun k hk' => ?_⟩
  · unfold nn
    split <;> omega
  · have keep : ∀ q : Nat, q < 8 → q ≠ p → ∀ (g : Nat → Int) (R C : Nat), MR s (18 + 5 * q) g R C → MR d (18 + 5 * q) g R C := fun q hq hqp g R C mm => MR_o (fun k j h1 h2 => by rw [dk k j (by omega), b3 k j (by omega)]) mm
    have new : MR d (18 + 5 * p) f R C := MR_o (fun k j h1 h2 => dk k j (by omega)) mb
    unfold nn at hk' ⊢
    unfold pn
    by_cases z : n < 8
    · rw [if_pos z] at hk' ⊢
      rw [if_pos z]
      by_cases q : k = n
      · rw [if_pos q, show ((p + 1) % 8 + 8 - (n + 1) + k) % 8 = p by omega]
        exact ⟨R, C, M, new⟩
      · rw [if_neg q, show ((p + 1) % 8 + 8 - (n + 1) + k) % 8 = (p + 8 - n + k) % 8 by omega]
        obtain ⟨R', C', x1, x2⟩ := hk k (by omega)
        exact ⟨R', C', x1, keep _ (by omega) (by omega) _ _ _ x2⟩
    · rw [if_neg z] at hk' ⊢
      rw [if_neg z]
      by_cases q : k = 7
      · rw [if_pos q, show ((p + 1) % 8 + 8 - 8 + k) % 8 = p by omega]
        exact ⟨R, C, M, new⟩
      · rw [if_neg q, show ((p + 1) % 8 + 8 - 8 + k) % 8 = (p + 8 - n + (k + 1)) % 8 by omega]
        obtain ⟨R', C', x1, x2⟩ := hk (k + 1) (by omega)
        exact ⟨R', C', x1, keep _ (by omega) (by omega) _ _ _ x2⟩
theorem sp_32 {s : gx_S} {n : Nat} {pf : Nat → Nat → Int} (hn0 : 0 < n) (H : HC s n pf) : ∃ (u : gx_S) (R C : Nat), gm_32 1 s = some u ∧ u.2 = s.2 ∧ (∀ k j, ¬ (1 ≤ k ∧ k ≤ 5) → k ≠ 16 → u.1 k j = s.1 k j) ∧ HC u (n - 1) pf ∧ MP (pf (n - 1)) R C ∧ MR u 1 (pf (n - 1)) R C := by
  obtain ⟨hn, p, hp, e1, e2, hk⟩ := H
  obtain ⟨r1, r2⟩ := rf17 ((p + 7) % 8) (by omega)
  obtain ⟨R, C, x1, x2⟩ := hk (n - 1) (by omega)
  rw [show (p + 8 - n + (n - 1)) % 8 = (p + 7) % 8 by omega] at x2
  obtain ⟨a, ha⟩ : ∃ a, a = gw1 s 16 1 (((p + 7) % 8 : Nat) : Int) := ⟨_, rfl⟩
  have ak : ∀ k j, k ≠ 16 → a.1 k j = s.1 k j := fun k j q => by rw [ha, gw1_1, if_neg (fun x => q x.1)]
  have a1 : a.1 16 1 = (((p + 7) % 8 : Nat) : Int) := by rw [ha, gw1_1, if_pos ⟨rfl, rfl⟩]
  have a2 : a.1 16 2 = n := by rw [ha, gw1_1, if_neg (by omega), e2]
  obtain ⟨b, b1, b2, b3, b4, b5, b6, b7, b8⟩ := sp_54 (s := a) (x0 := 1) (x1 := 18 + 5 * ((p + 7) % 8)) (by decide +kernel) r2 (by omega)
  have ma : MR a (18 + 5 * ((p + 7) % 8)) (pf (n - 1)) R C := MR_o (fun k j h1 h2 => ak k j (by omega)) x2
  have mb : MR b 1 (pf (n - 1)) R C := MR_54 x1.1.2.2.1 x1.1.2.2.2 b4 b5 b6 b7 b8 ma
  have e3 : (((p : Int) + 8) - 1) % 8 = (((p + 7) % 8 : Nat) : Int) := by omega
  have st : gm_32 1 s = some (gw1 b 16 2 ((n : Int) - 1)) := by
    unfold gm_32
    rw [if_pos (by decide +kernel), e1, if_pos (by omega), e3, ← ha, a1, if_pos (by omega), show ((((p + 7) % 8 : Nat) : Int)).toNat = (p + 7) % 8 by omega, r1, Option.bind_some, b1, Option.bind_some, b3 16 2 (by omega), a2]
  have ck : ∀ k j, ¬ (k = 16 ∧ j = 2) → (gw1 b 16 2 ((n : Int) - 1)).1 k j = b.1 k j := fun k j q => by rw [gw1_1, if_neg q]
  refine ⟨_, R, C, st, by rw [gw1_2, b2, ha]; rfl, fun k j q1 q2 => by rw [ck k j (by omega), b3 k j (by omega), ak k j q2], ⟨by omega, (p + 7) % 8, by omega, ?_, ?_, fun k hk' => ?_⟩, x1, MR_o (fun k j h1 h2 => ck k j (by omega)) mb⟩
  · rw [ck 16 1 (by omega), b3 16 1 (by omega), a1]
  · rw [gw1_1, if_pos ⟨rfl, rfl⟩]
    omega
  · obtain ⟨R', C', y1, y2⟩ := hk k (by omega)
    rw [show ((p + 7) % 8 + 8 - (n - 1) + k) % 8 = (p + 8 - n + k) % 8 by omega]
    exact ⟨R', C', y1, MR_o (fun k j h1 h2 => by rw [ck k j (by omega), b3 k j (by omega), ak k j (by omega)]) y2⟩
theorem rf70 : ∀ g : Nat, g < 3 → fx_rf 70 g = 71 + 48 * g := by decide +kernel
/-- nothing is made -/
def G0 (s : gx_S) : Prop := ∀ g, g < 3 → s.1 (71 + 48 * g) 8 = 0 ∧ s.1 (71 + 48 * g) 9 = g
theorem sp_120 (s : gx_S) : ∃ u : gx_S, gm_120 s = some u ∧ u.2 = s.2 ∧ (∀ k j, ¬ ((k = 71 ∨ k = 119 ∨ k = 167) ∧ j = 8) → u.1 k j = s.1 k j) ∧ u.1 71 8 = 0 ∧ u.1 119 8 = 0 ∧ u.1 167 8 = 0 := by
  refine ⟨gw1 (gw1 (gw1 s 71 8 0) 119 8 0) 167 8 0, ?_, rfl, fun k j q => by rw [gw1_1, if_neg (by omega), gw1_1, if_neg (by omega), gw1_1, if_neg (by omega)], ?_, ?_, ?_⟩
  · have r0 := rf70 0 (by omega)
    have r1 := rf70 1 (by omega)
    have r2 := rf70 2 (by omega)
    unfold gm_120
    rw [gm_120_2, if_pos (by decide), if_neg (by decide), if_pos (by decide)]
    show ((some (fx_rf 70 0)).bind _) = _
    rw [r0, Option.bind_some, gm_120_2, if_pos (by decide), if_neg (by decide), if_pos (by decide)]
    show ((some (fx_rf 70 1)).bind _) = _
    rw [r1, Option.bind_some, gm_120_2, if_pos (by decide), if_neg (by decide), if_pos (by decide)]
    show ((some (fx_rf 70 2)).bind _) = _
    rw [r2, Option.bind_some, gm_120_2, if_pos (by decide), if_pos (by decide)]
  · rw [gw1_1, if_neg (by omega), gw1_1, if_neg (by omega), gw1_1, if_pos ⟨rfl, rfl⟩]
  · rw [gw1_1, if_neg (by omega), gw1_1, if_pos ⟨rfl, rfl⟩]
  · rw [gw1_1, if_pos ⟨rfl, rfl⟩]
