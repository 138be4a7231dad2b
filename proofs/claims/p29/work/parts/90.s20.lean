/-! THE CLASS's BALANCED TABLE: round's loops -/
theorem oc7_14 {t : Nat} (ht : fx_oc t 7 = true) : 14 ≤ t := by
  have h : ∀ k, k < 14 → fx_oc k 7 = false := by decide
  rcases Nat.lt_or_ge t 14 with a | a
  · rw [h t a] at ht
    exact absurd ht (by decide)
  · exact a
theorem sp_73 {s : gx_S} {t r : Nat} (ht : fx_oc t 7 = true) (hr : r < 8) (h2 : i32 (s.1 (t + 2) r)) : gm_73 t r s = some (if s.1 (t + 2) r ≤ 0 then 0 else s.1 (t + 1) r - sg (fun c => s.1 (t + 6) (9 * r + c)) 9, s) := by
  unfold i32 at h2
  unfold gm_73
  rw [show ((r : Int)).toNat = r by omega, if_pos ht]
  by_cases h : s.1 (t + 2) r ≤ 0
  · simp (disch := omega) only [if_pos]
  · rw [sp_72 (ga_7_5 ht) hr]
    simp (disch := omega) only [if_pos, if_neg, Option.bind_some]
/-- all but the rounder's cells and the table's given stay -/
def scg (t : Nat) (s u : gx_S) : Prop := u.2 = s.2 ∧ ∀ k j, (k < 7 ∨ 13 < k) → ¬ (k = 6 ∧ j = 7) → ¬ k = t + 8 → u.1 k j = s.1 k j
theorem scg_rf (t : Nat) (s : gx_S) : scg t s s := ⟨rfl, fun _ _ _ _ _ => rfl⟩
theorem scg_tr {t : Nat} {s u v : gx_S} (a : scg t s u) (b : scg t u v) : scg t s v := ⟨b.1.trans a.1, fun k j h1 h2 h3 => (b.2 k j h1 h2 h3).trans (a.2 k j h1 h2 h3)⟩
theorem scr_scg (t : Nat) {s u : gx_S} (a : scr s u) : scg t s u := ⟨a.1, fun k j h1 h2 _ => a.2 k j (by omega) (by omega) (by omega) (by omega) h2⟩
theorem sc7_scg (t : Nat) {s u : gx_S} (a : sc7 s u) : scg t s u := ⟨a.1, fun k j h1 h2 _ => a.2 k j (by omega) (by omega) (by omega) (by omega) (by omega) h2⟩
theorem FX_same {L O F0 W : Nat → Int} {s u : gx_S} {e : Nat} (h : ∀ k j, 7 ≤ k → k ≤ 11 → u.1 k j = s.1 k j) (X : FX L O F0 W s e) : FX L O F0 W u e := by
  have z7 : ∀ j, u.1 7 j = s.1 7 j := fun j => h 7 j (by omega) (by omega)
  have z8 : ∀ j, u.1 8 j = s.1 8 j := fun j => h 8 j (by omega) (by omega)
  have z9 : ∀ j, u.1 9 j = s.1 9 j := fun j => h 9 j (by omega) (by omega)
  have z10 : ∀ j, u.1 10 j = s.1 10 j := fun j => h 10 j (by omega) (by omega)
  have z11 : ∀ j, u.1 11 j = s.1 11 j := fun j => h 11 j (by omega) (by omega)
  have zp : ∀ v, ph u v = ph s v := fun v => ph_eq z8 z11 v
  unfold FX FL at *
  simp only [z7, z8, z9, z10, z11, zp]
  exact X
theorem sl_63 {L O F0 W : Nat → Int} {t : Nat} (ht : fx_oc t 7 = true) : ∀ (n e : Nat) (s : gx_S), FX L O F0 W s e → e ≤ 72 → 72 < n + e → ∃ u : gx_S, gm_41_63 n t e s = some u ∧ FX L O F0 W u 72 ∧ scg t s u ∧ (∀ j, e ≤ j → j < 72 → u.1 (t + 8) j = s.1 (t + 6) j + u.1 8 j) ∧ (∀ j, j < e ∨ 72 ≤ j → u.1 (t + 8) j = s.1 (t + 8) j) ∧ ∀ j, j < e → u.1 8 j = s.1 8 j := by
  have t14 := oc7_14 ht
  intro n
  induction n with
  | zero => intro e s X he hn; omega
  | succ n ih =>
    intro e s X he hn
    by_cases q : e = 72
    · subst q
      refine ⟨s, ?_, X, scg_rf t s, fun j h1 h2 => by omega, fun _ _ => rfl, fun _ _ => rfl⟩
      rw [gm_41_63]
      simp (disch := omega) only [if_pos]
    · have i5 : ((e : Int)).toNat = e := by omega
      have i3 : ((e : Int) + 1) = ((e + 1 : Nat) : Int) := by omega
      have f01 := (X.1.1 e (by omega)).1
      obtain ⟨v, v1, v2, v3, v4⟩ : ∃ v : gx_S, (if ¬ s.1 7 e = 1 then some s else gm_45 e s) = some v ∧ FX L O F0 W v (e + 1) ∧ sc7 s v ∧ ∀ i, i < e → v.1 8 i = s.1 8 i := by
        by_cases h : s.1 7 e = 1
        · obtain ⟨v, v1, v2, v3, v4⟩ := sp_45 X (by omega) h
          exact ⟨v, by rw [if_neg (fun x => x h)]; exact v1, v2, v3, v4⟩
        · exact ⟨s, if_pos h, FX_skip X (by omega) (by omega), sc7_rf s, fun _ _ => rfl⟩
      have g : ∀ k j, k ≠ t + 8 → (gw1 v (t + 8) e (v.1 (t + 6) e + v.1 8 e)).1 k j = v.1 k j := fun k j h => by rw [gw1_1, if_neg (fun x => h x.1)]
      have g8 : ∀ j, j ≠ e → (gw1 v (t + 8) e (v.1 (t + 6) e + v.1 8 e)).1 (t + 8) j = v.1 (t + 8) j := fun j h => by rw [gw1_1, if_neg (fun x => h x.2)]
      have ge : (gw1 v (t + 8) e (v.1 (t + 6) e + v.1 8 e)).1 (t + 8) e = v.1 (t + 6) e + v.1 8 e := by rw [gw1_1, if_pos ⟨rfl, rfl⟩]
      have y6 : ∀ j, v.1 (t + 6) j = s.1 (t + 6) j := fun j => v3.2 _ j (by omega) (by omega) (by omega) (by omega) (by omega) (by omega)
      have y8 : ∀ j, v.1 (t + 8) j = s.1 (t + 8) j := fun j => v3.2 _ j (by omega) (by omega) (by omega) (by omega) (by omega) (by omega)
      have og : scg t v (gw1 v (t + 8) e (v.1 (t + 6) e + v.1 8 e)) := ⟨rfl, fun k j _ _ h => g k j h⟩
      obtain ⟨u, u1, u2, u3, u4, u5, u6⟩ := ih (e + 1) (gw1 v (t + 8) e (v.1 (t + 6) e + v.1 8 e)) (FX_same (fun k j h1 h2 => g k j (by omega)) v2) (by omega) (by omega)
      refine ⟨u, ?_, u2, scg_tr (sc7_scg t v3) (scg_tr og u3), fun j h1 h2 => ?_, fun j h => ?_, fun j h => ?_⟩
      · rw [gm_41_63, i5]
        by_cases h : s.1 7 e = 1
        · rw [if_neg (fun x => x h)] at v1
          simp (disch := omega) only [if_pos, if_neg, Option.bind_some, v1, gm_41_84, i5, i3]
          exact u1
        · rw [if_pos h] at v1
          have v1 := Option.some.inj v1
          subst v1
          simp (disch := omega) only [if_pos, if_neg, gm_41_84, i5, i3]
          exact u1
      · by_cases ej : j = e
        · rw [ej, u5 e (by omega), ge, u6 e (by omega), g 8 e (by omega), y6]
        · rw [u4 j (by omega) h2, g (t + 6) j (by omega), y6]
      · rw [u5 j (by omega), g8 j (by omega), y8]
      · rw [u6 j (by omega), g 8 j (by omega), v4 j h]
theorem sl_41c {t : Nat} {W : Nat → Int} (ht : fx_oc t 7 = true) : ∀ (n c : Nat) (s : gx_S), FL s → MF s → CB s W → (∀ r, r < 8 → ph s r = W r) → (∀ k, k < 9 → s.1 9 k ≤ 8) → (∀ k, k < 9 → k < c → s.1 9 k ≤ s.1 11 k) → c ≤ 9 → 9 < n + c → ∃ u : gx_S, gm_41_44 n t c s = some u ∧ FX (s.1 9) (s.1 10) (s.1 7) W u 72 ∧ scg t s u ∧ (∀ j, j < 72 → u.1 (t + 8) j = s.1 (t + 6) j + u.1 8 j) ∧ ∀ j, 72 ≤ j → u.1 (t + 8) j = s.1 (t + 8) j := by
  have t14 := oc7_14 ht
  intro n
  induction n with
  | zero => intro c s F M hB hW h8 hd hc hn; omega
  | succ n ih =>
    intro c s F M hB hW h8 hd hc hn
    by_cases q : c = 9
    · subst q
      have X : FX (s.1 9) (s.1 10) (s.1 7) W s 0 := ⟨F, fun c h => ⟨rfl, rfl, hd c h h⟩, hW, M, fun _ _ _ => rfl, fun _ _ h => by omega, fun _ _ _ _ h => by omega⟩
      obtain ⟨u, u1, u2, u3, u4, u5, u6⟩ := sl_63 ht 100000 0 s X (by omega) (by omega)
      refine ⟨u, ?_, u2, u3, fun j h => u4 j (by omega) h, fun j h => u5 j (.inr h)⟩
      rw [gm_41_44]
      simp (disch := omega) only [if_pos]
      exact u1
    · obtain ⟨v, v1, v2, v3, v4, v5, v6, v7⟩ := sp_44 F M hB hW (col := c) (by omega) (h8 c (by omega))
      have z9 : v.1 9 = s.1 9 := funext fun k => v4.2 9 k (by omega) (by omega) (by omega) (by omega) (by omega)
      have z10 : v.1 10 = s.1 10 := funext fun k => v4.2 10 k (by omega) (by omega) (by omega) (by omega) (by omega)
      have z7 : v.1 7 = s.1 7 := funext fun k => v4.2 7 k (by omega) (by omega) (by omega) (by omega) (by omega)
      obtain ⟨u, u1, u2, u3, u4, u5⟩ := ih (c + 1) v v2 v3 (CB_scr v4 hB) v5 (fun k h => by rw [z9]; exact h8 k h) (fun k h h' => by
        rw [z9]
        by_cases e : k = c
        · rw [e]; exact v6
        · exact v7 k h (hd k h (by omega))) (by omega) (by omega)
      rw [z9, z10, z7] at u2
      refine ⟨u, ?_, u2, scg_tr (scr_scg t v4) u3, fun j h => by rw [u4 j h, v4.2 (t + 6) j (by omega) (by omega) (by omega) (by omega) (by omega)], fun j h => by rw [u5 j h, v4.2 (t + 8) j (by omega) (by omega) (by omega) (by omega) (by omega)]⟩
      have i3 : ((c : Int) + 1) = ((c + 1 : Nat) : Int) := by omega
      rw [gm_41_44, v1]
      simp (disch := omega) only [if_pos, if_neg, Option.bind_some, i3]
      exact u1
/-- the rows' numbers: those left over -/
def lo (s : gx_S) (t r : Nat) : Int := if s.1 (t + 2) r ≤ 0 then 0 else s.1 (t + 1) r - sg (fun c => s.1 (t + 6) (9 * r + c)) 9
theorem lo_scr {s u : gx_S} {t : Nat} (h14 : 14 ≤ t) (o : scr s u) (r : Nat) : lo u t r = lo s t r := by
  unfold lo
  have z : ∀ k j, 14 ≤ k → u.1 k j = s.1 k j := fun k j h => o.2 k j (by omega) (by omega) (by omega) (by omega) (by omega)
  simp only [z (t + 2) _ (by omega), z (t + 1) _ (by omega), z (t + 6) _ (by omega)]
theorem sl_41r {t : Nat} (ht : fx_oc t 7 = true) : ∀ (n r : Nat) (s : gx_S), FL s → MF s → CA s (lo s t) → CB s (lo s t) → (∀ k, k < 8 → i32 (s.1 (t + 2) k)) → (∀ k, k < 8 → 0 ≤ lo s t k ∧ lo s t k ≤ 9) → (∀ k, k < 8 → ph s k = if k < r then lo s t k else 0) → (∀ k, k < 9 → s.1 9 k ≤ 8) → r ≤ 8 → 8 < n + r → ∃ u : gx_S, gm_41_20 n t r s = some u ∧ FX (s.1 9) (s.1 10) (s.1 7) (lo s t) u 72 ∧ scg t s u ∧ (∀ j, j < 72 → u.1 (t + 8) j = s.1 (t + 6) j + u.1 8 j) ∧ ∀ j, 72 ≤ j → u.1 (t + 8) j = s.1 (t + 8) j := by
  have t14 := oc7_14 ht
  intro n
  induction n with
  | zero => intro r s F M hA hB h2 hl hp h8 hr hn; omega
  | succ n ih =>
    intro r s F M hA hB h2 hl hp h8 hr hn
    by_cases q : r = 8
    · subst q
      obtain ⟨u, u1, u2, u3, u4, u5⟩ := sl_41c ht 100000 0 s F M hB (fun k h => by rw [hp k h, if_pos h]) h8 (fun _ _ h => by omega) (by omega) (by omega)
      refine ⟨u, ?_, u2, u3, u4, u5⟩
      rw [gm_41_20]
      simp (disch := omega) only [if_pos]
      exact u1
    · have hlr := hl r (by omega)
      obtain ⟨w, hw⟩ : ∃ w : Nat, lo s t r = w := ⟨(lo s t r).toNat, by omega⟩
      obtain ⟨v, v1, v2, v3, v4, v5, v6⟩ := sp_43 (w := w) F M hA (fun k h => by
        rw [hp k h]
        have := hl k h
        split <;> omega) (row := r) (by omega) hw (by omega) (by rw [hp r (by omega), if_neg (by omega)])
      have zl : lo v t = lo s t := funext fun k => lo_scr t14 v4 k
      have z : ∀ k j, 14 ≤ k → v.1 k j = s.1 k j := fun k j h => v4.2 k j (by omega) (by omega) (by omega) (by omega) (by omega)
      have z9 : v.1 9 = s.1 9 := funext fun k => v4.2 9 k (by omega) (by omega) (by omega) (by omega) (by omega)
      have z10 : v.1 10 = s.1 10 := funext fun k => v4.2 10 k (by omega) (by omega) (by omega) (by omega) (by omega)
      have z7 : v.1 7 = s.1 7 := funext fun k => v4.2 7 k (by omega) (by omega) (by omega) (by omega) (by omega)
      obtain ⟨u, u1, u2, u3, u4, u5⟩ := ih (r + 1) v v2 v3 (by rw [zl]; exact CA_scr v4 hA) (by rw [zl]; exact CB_scr v4 hB) (fun k h => by rw [z _ _ (by omega)]; exact h2 k h) (fun k h => by rw [zl]; exact hl k h) (fun k h => by
        rw [zl]
        by_cases e : k = r
        · rw [e, if_pos (by omega), v5, hw]
        · rw [v6 k h e, hp k h]
          by_cases e2 : k < r
          · rw [if_pos e2, if_pos (by omega)]
          · rw [if_neg e2, if_neg (by omega)]) (fun k h => by rw [z9]; exact h8 k h) (by omega) (by omega)
      rw [z9, z10, z7, zl] at u2
      refine ⟨u, ?_, u2, scg_tr (scr_scg t v4) u3, fun j h => by rw [u4 j h, z _ _ (by omega)], fun j h => by rw [u5 j h, z _ _ (by omega)]⟩
      have i3 : ((r : Int) + 1) = ((r + 1 : Nat) : Int) := by omega
      have e73 : gm_73 t r s = some ((w : Int), s) := by rw [sp_73 ht (by omega) (h2 r (by omega)), ← hw]; rfl
      rw [gm_41_20, e73]
      simp (disch := omega) only [if_pos, if_neg, Option.bind_some]
      rw [v1]
      simp only [Option.bind_some, i3]
      exact u1
