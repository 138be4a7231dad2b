/-! FIT: the reference finds the best row -/
section
variable {X : Nat → Nat → Int} {c : Nat → Int} {P : Int} {o : Nat → Int} {g : Nat}
def CRf (t : gx_S) (X : Nat → Nat → Int) (c : Nat → Int) (P : Int) (o : Nat → Int) (e : Nat) : Prop := (BI X c P o e = none → t.1 215 43 = 0) ∧ ∀ i, BI X c P o e = some i → t.1 215 43 = 1 ∧ t.2 215 44 = MS X c P (RE X o i) ∧ t.2 215 45 = SA X (RE X o i) ∧ ∀ l, l < 4 → t.1 244 l = RE X o i l
def RBf (t : gx_S) (X : Nat → Nat → Int) (c : Nat → Int) (P : Int) (o : Nat → Int) (g : Nat) : Prop := (∀ z l, z < 8 → l < 4 → t.1 242 (4 * z + l) = X z l) ∧ t.1 215 42 = P ∧ (∀ z, z < 8 → t.1 216 (5 + 9 * g + z) = c z) ∧ ∀ l, l < 4 → ¬ 0 < LC X l → t.1 243 l = o l
def KF1 (s u : gx_S) : Prop := (∀ a i, a ≠ 243 → a ≠ 244 → ¬ (a = 215 ∧ i = 43) → u.1 a i = s.1 a i) ∧ ∀ a i, ¬ (a = 215 ∧ 40 ≤ i) → u.2 a i = s.2 a i
theorem KF1_tr {s t u : gx_S} (x : KF1 s t) (y : KF1 t u) : KF1 s u := ⟨fun a i h1 h2 h3 => (y.1 a i h1 h2 h3).trans (x.1 a i h1 h2 h3), fun a i h => (y.2 a i h).trans (x.2 a i h)⟩
theorem KF1_rf (s : gx_S) : KF1 s s := ⟨fun _ _ _ _ _ => rfl, fun _ _ _ => rfl⟩
theorem RBf_o {s u : gx_S} (k : KF1 s u) (h : ∀ l, l < 4 → ¬ 0 < LC X l → u.1 243 l = s.1 243 l) (R : RBf s X c P o g) : RBf u X c P o g := ⟨fun z l hz hl => (k.1 _ _ (by decide) (by decide) (by omega)).trans (R.1 z l hz hl), (k.1 _ _ (by decide) (by decide) (by omega)).trans R.2.1, fun z hz => (k.1 _ _ (by decide) (by decide) (by omega)).trans (R.2.2.1 z hz), fun l hl q => (h l hl q).trans (R.2.2.2 l hl q)⟩
theorem sl_211_113 (k : Int → Int → gx_S → Option gx_S) : ∀ (n j : Nat) (t : gx_S), 4 < n + j → j ≤ 4 → ∃ u : gx_S, gm_211_113 k n j t = some u ∧ u.2 = t.2 ∧ (∀ a i, a ≠ 244 → u.1 a i = t.1 a i) ∧ ∀ i, u.1 244 i = if j ≤ i ∧ i < 4 then t.1 243 i else t.1 244 i := by
  intro n
  induction n with
  | zero => intro j t h; omega
  | succ n ih =>
    intro j t h hj
    rw [gm_211_113, if_pos (by omega)]
    by_cases q : j = 4
    · rw [if_pos (by omega)]
      exact ⟨t, rfl, rfl, fun _ _ _ => rfl, fun i => by rw [if_neg (by omega)]⟩
    · have ce : ((j : Int) + 1) = ((j + 1 : Nat) : Int) := rfl
      have i1 : ((j : Int)).toNat = j := by omega
      rw [if_neg (by omega), if_pos (by omega), i1, ce]
      obtain ⟨u, u1, u2, u3, u4⟩ := ih (j + 1) (gw1 t 244 j (t.1 243 j)) (by omega) (by omega)
      refine ⟨u, u1, u2, fun a i h => by rw [u3 a i h, gw1_1, if_neg (fun x => h x.1)], fun i => ?_⟩
      rw [u4, gw1_1 t 244 j _ 243, if_neg (show ¬ ((243 : Nat) = 244 ∧ i = j) by omega), gw1_1]
      by_cases z : i = j
      · rw [if_neg (show ¬ (j + 1 ≤ i ∧ i < 4) by omega), if_pos (show (244 : Nat) = 244 ∧ i = j from ⟨rfl, z⟩), if_pos (show j ≤ i ∧ i < 4 by omega), z]
      · rw [if_neg (show ¬ ((244 : Nat) = 244 ∧ i = j) from fun x => z x.2)]
        by_cases y : j + 1 ≤ i ∧ i < 4
        · rw [if_pos y, if_pos (show j ≤ i ∧ i < 4 by omega)]
        · rw [if_neg y, if_neg (show ¬ (j ≤ i ∧ i < 4) by omega)]
theorem sp_211L {e : Nat} {t : gx_S} (k : Int → Int → gx_S → Option gx_S) (B : XB X c P) (ho : wB9 o) (hg : g < 3) (R : RBf t X c P o g) (er : ∀ l, l < 4 → t.1 243 l = RE X o e l) (C : CRf t X c P o e) : ∃ u : gx_S, gm_211o k g 4 t = some u ∧ CRf u X c P o (e + 1) ∧ RBf u X c P o g ∧ (∀ l, l < 4 → u.1 243 l = t.1 243 l) ∧ KF1 t u := by
  have We := RE_B X ho e
  have sr := SA_r B We
  have mr := MS_r B We
  obtain ⟨v, v1, v2, v3, v4, v5⟩ := sp_209 hg B We ⟨R.1, er⟩ R.2.1 R.2.2.1
  have kv : KF1 t v := ⟨fun a i _ _ _ => by rw [v2], fun a i h => v5 a i (by omega)⟩
  have rv : RBf v X c P o g := RBf_o kv (fun l hl _ => by rw [v2]) R
  have st : BI X c P o (e + 1) = some e → ∃ u : gx_S, gm_211_90 k v = some u ∧ CRf u X c P o (e + 1) ∧ RBf u X c P o g ∧ (∀ l, l < 4 → u.1 243 l = t.1 243 l) ∧ KF1 t u := fun hb => by
    unfold gm_211_90
    obtain ⟨a, ha⟩ : ∃ a, a = gw2 (gw2 (gw1 v 215 43 1) 215 44 ((gw1 v 215 43 1).2 215 40)) 215 45 ((gw2 (gw1 v 215 43 1) 215 44 ((gw1 v 215 43 1).2 215 40)).2 215 41) := ⟨_, rfl⟩
    have a1 : a.1 = (gw1 v 215 43 1).1 := by rw [ha]; rfl
    have a2 : a.2 = (gw2 (gw2 v 215 44 (v.2 215 40)) 215 45 ((gw2 v 215 44 (v.2 215 40)).2 215 41)).2 := by rw [ha]; rfl
    have ao : ∀ b i, ¬ (b = 215 ∧ i = 43) → a.1 b i = t.1 b i := fun b i h => by rw [a1, gw1_1, if_neg h, v2]
    have a44 : a.2 215 44 = MS X c P (RE X o e) := by rw [a2, gw2_2, if_neg (by omega), gw2_2, if_pos ⟨rfl, rfl⟩, v3]
    have a45 : a.2 215 45 = SA X (RE X o e) := by rw [a2, gw2_2, if_pos ⟨rfl, rfl⟩, gw2_2, if_neg (by omega), v4]
    have a43 : a.1 215 43 = 1 := by rw [a1, gw1_1, if_pos ⟨rfl, rfl⟩]
    have ap : ∀ b i, ¬ (b = 215 ∧ 40 ≤ i) → a.2 b i = t.2 b i := fun b i h => by rw [a2, gw2_2, if_neg (by omega), gw2_2, if_neg (by omega), v5 b i (by omega)]
    rw [← ha]
    obtain ⟨u, u1, u2, u3, u4⟩ := sl_211_113 k 100000 0 a (by omega) (by omega)
    have u1 : gm_211_113 k 100000 0 a = some u := u1
    have ku : KF1 t u := ⟨fun b i _ h2 h3 => by rw [u3 b i h2, ao b i h3], fun b i h => by rw [u2, ap b i h]⟩
    have e243 : ∀ l, u.1 243 l = t.1 243 l := fun l => by rw [u3 _ _ (by decide), ao _ _ (by omega)]
    refine ⟨u, u1, ⟨fun q => ?_, fun i q => ?_⟩, RBf_o ku (fun l _ _ => e243 l) R, fun l _ => e243 l, ku⟩
    · rw [hb] at q; cases q
    · rw [hb] at q
      cases q
      exact ⟨by rw [u3 _ _ (by decide)]; exact a43, by rw [u2]; exact a44, by rw [u2]; exact a45, fun l hl => by rw [u4, if_pos (by omega), ao _ _ (by omega)]; exact er l hl⟩
  unfold gm_211o
  rw [if_pos (by decide), if_pos (by decide), v1, Option.bind_some]
  by_cases q : 0 < SA X (RE X o e)
  · rw [if_neg (fun y => (gbD v).mp y q)]
    show ∃ u : gx_S, (if (-2147483648 ≤ (v.1 215 43) ∧ (v.1 215 43) ≤ 2147483647) then (if (v.1 215 43) = 0 then gm_211_90 k v else (if (-9223372036854775808 ≤ ((v.2 215 40) * (v.2 215 45)) ∧ ((v.2 215 40) * (v.2 215 45)) ≤ 9223372036854775807) then (if (-9223372036854775808 ≤ ((v.2 215 44) * (v.2 215 41)) ∧ ((v.2 215 44) * (v.2 215 41)) ≤ 9223372036854775807) then (if ((v.2 215 40) * (v.2 215 45)) < ((v.2 215 44) * (v.2 215 41)) then gm_211_90 k v else some v) else none) else none)) else none) = some u ∧ _
    rw [v2]
    cases p : BI X c P o e with
    | none =>
      rw [C.1 p, if_pos (by decide), if_pos rfl]
      exact st (by rw [BI_n p, if_pos q])
    | some i =>
      obtain ⟨b1, b2, b3, b4⟩ := C.2 i p
      have m1 := MS_r B (RE_B X ho i)
      have s1 := SA_r B (RE_B X ho i)
      have p1 := mul_r mr s1
      have p2 := mul_r m1 sr
      rw [b1, if_pos (by decide), if_neg (by decide), v3, v4, v5 215 45 (by omega), v5 215 44 (by omega), b2, b3, if_pos (by omega), if_pos (by omega)]
      by_cases y : MS X c P (RE X o e) * SA X (RE X o i) < MS X c P (RE X o i) * SA X (RE X o e)
      · rw [if_pos y]
        exact st (by rw [BI_s p, if_pos ⟨q, y⟩])
      · rw [if_neg y]
        have hb : BI X c P o (e + 1) = some i := by rw [BI_s p, if_neg fun x => y x.2]
        refine ⟨v, rfl, ⟨fun x => ?_, fun j x => ?_⟩, rv, fun l _ => by rw [v2], kv⟩
        · rw [hb] at x; cases x
        · rw [hb] at x
          cases x
          exact ⟨by rw [v2]; exact b1, by rw [v5 _ _ (by omega)]; exact b2, by rw [v5 _ _ (by omega)]; exact b3, fun l hl => by rw [v2]; exact b4 l hl⟩
  · rw [if_pos ((gbD v).mpr q)]
    refine ⟨v, rfl, ?_, rv, fun l _ => by rw [v2], kv⟩
    unfold CRf
    rw [BI_0 q, v2]
    refine ⟨C.1, fun i p => ?_⟩
    obtain ⟨b1, b2, b3, b4⟩ := C.2 i p
    exact ⟨b1, by rw [v5 _ _ (by omega)]; exact b2, by rw [v5 _ _ (by omega)]; exact b3, b4⟩
theorem sl_211 (B : XB X c P) (ho : wB9 o) (hg : g < 3) : ∀ (d n : Nat) (t : gx_S) (e : Nat), d < n → d ≤ 4 → RBf t X c P o g → (∀ j, j < 4 - d → t.1 243 j = RE X o e j) → zq X d ∣ e → CRf t X c P o e → ∃ u : gx_S, gm_211f n g ((4 - d : Nat) : Int) t = some u ∧ CRf u X c P o (e + zq X d) ∧ RBf u X c P o g ∧ (∀ j, j < 4 - d → u.1 243 j = t.1 243 j) ∧ KF1 t u := by
  intro d
  induction d with
  | zero =>
    intro n t e hn _ R er hz C
    obtain ⟨n, rfl⟩ : ∃ k, n = k + 1 := ⟨n - 1, by omega⟩
    rw [gm_211f]
    exact sp_211L (gm_211f n) B ho hg R er C
  | succ d ih =>
    intro n t e hn hd R er hz C
    obtain ⟨n, rfl⟩ : ∃ k, n = k + 1 := ⟨n - 1, by omega⟩
    have el : 4 - (d + 1) = 3 - d := by omega
    rw [el] at er ⊢
    have l4 : 3 - d < 4 := by omega
    have lr := LC_r B l4
    have ce : (((3 - d : Nat) : Int) + 1) = ((4 - d : Nat) : Int) := by omega
    have hz0 := (zq_r X d).1
    have zs : zq X (d + 1) = bsz X (3 - d) * zq X d := rfl
    rw [gm_211f]
    unfold gm_211o
    rw [if_pos (by omega), if_neg (by omega), sp_207 R.1 l4, Option.bind_some]
    dsimp only
    rw [if_pos (by omega)]
    by_cases q : LC X (3 - d) = 0
    · have z1 : zq X (d + 1) = zq X d := by
        rw [zs]
        unfold bsz
        rw [if_neg (by omega), Nat.one_mul]
      rw [z1] at hz ⊢
      rw [if_neg (fun y => y q), ce]
      obtain ⟨u, u1, u2, u3, u4, u5⟩ := ih n t e (by omega) (by omega) R (fun j hj => by
        by_cases p : j = 3 - d
        · rw [p, RE_z (by omega)]
          exact R.2.2.2 (3 - d) l4 (by omega)
        · exact er j (by omega)) hz C
      rw [u1, Option.bind_some]
      exact ⟨u, rfl, u2, u3, fun j hj => u4 j (by omega), u5⟩
    · have z10 : zq X (d + 1) = 10 * zq X d := by
        rw [zs]
        unfold bsz
        rw [if_pos (by omega)]
      rw [if_pos q]
      have lp : ∀ (m w : Nat) (t' : gx_S), 10 < m + w → w ≤ 10 → RBf t' X c P o g → (∀ j, j < 3 - d → t'.1 243 j = RE X o e j) → CRf t' X c P o (e + w * zq X d) → ∃ u : gx_S, gm_211_24 (gm_211f n) m g ((3 - d : Nat) : Int) w t' = some u ∧ CRf u X c P o (e + 10 * zq X d) ∧ RBf u X c P o g ∧ (∀ j, j < 3 - d → u.1 243 j = t'.1 243 j) ∧ KF1 t' u := by
        intro m
        induction m with
        | zero => intro w t' h; omega
        | succ m ihm =>
          intro w t' h hw R' er' C'
          rw [gm_211_24, if_pos (by omega)]
          by_cases y : w = 10
          · rw [if_pos (by omega)]
            rw [y] at C'
            exact ⟨t', rfl, C', R', fun _ _ => rfl, KF1_rf t'⟩
          · have cw : ((w : Int) + 1) = ((w + 1 : Nat) : Int) := rfl
            have i1 : (((3 - d : Nat) : Int)).toNat = 3 - d := by omega
            rw [if_neg (by omega), if_pos (by omega), i1, ce, cw]
            obtain ⟨a, ha⟩ : ∃ a, a = gw1 t' 243 (3 - d) w := ⟨_, rfl⟩
            have a1 : ∀ b i, ¬ (b = 243 ∧ i = 3 - d) → a.1 b i = t'.1 b i := fun b i h => by rw [ha, gw1_1, if_neg h]
            have a2 : a.1 243 (3 - d) = w := by rw [ha, gw1_1, if_pos ⟨rfl, rfl⟩]
            have a3 : a.2 = t'.2 := by rw [ha]; rfl
            have ka : KF1 t' a := ⟨fun b i h1 _ _ => a1 b i (fun x => h1 x.1), fun b i _ => by rw [a3]⟩
            have Ra : RBf a X c P o g := RBf_o ka (fun l hl p => a1 _ _ (fun x => p (by rw [x.2]; omega))) R'
            have wz : w * zq X d < zq X (d + 1) := by
              rw [z10]
              exact Nat.mul_lt_mul_of_pos_right (by omega) hz0
            have Ca : CRf a X c P o (e + w * zq X d) := ⟨fun p => by rw [a1 _ _ (by omega)]; exact C'.1 p, fun i p => by
              obtain ⟨b1, b2, b3, b4⟩ := C'.2 i p
              exact ⟨by rw [a1 _ _ (by omega)]; exact b1, by rw [a3]; exact b2, by rw [a3]; exact b3, fun l hl => by rw [a1 _ _ (by omega)]; exact b4 l hl⟩⟩
            rw [← ha]
            obtain ⟨v, v1, v2, v3, v4, v5⟩ := ih n a (e + w * zq X d) (by omega) (by omega) Ra (fun j hj => by
              by_cases p : j = 3 - d
              · rw [p, a2, RE_dig hz (by omega) (by omega) (by omega)]
              · rw [a1 _ _ (fun x => p x.2), RE_pre hz wz (by omega)]
                exact er' j (by omega)) (Nat.dvd_add (Nat.dvd_trans (zq_dvd X (Nat.le_succ d)) hz) ⟨w, Nat.mul_comm _ _⟩) Ca
            rw [v1, Option.bind_some]
            obtain ⟨u, u1, u2, u3, u4, u5⟩ := ihm (w + 1) v (by omega) (by omega) v3 (fun j hj => by rw [v4 j (by omega), a1 _ _ (by omega)]; exact er' j hj) (by rw [Nat.add_mul, Nat.one_mul, ← Nat.add_assoc]; exact v2)
            exact ⟨u, u1, u2, u3, fun j hj => by rw [u4 j hj, v4 j (by omega), a1 _ _ (by omega)], KF1_tr ka (KF1_tr v5 u5)⟩
      obtain ⟨u, u1, u2, u3, u4, u5⟩ := lp 100000 0 t (by omega) (by omega) R er (by rw [Nat.zero_mul]; exact C)
      have u1 : gm_211_24 (gm_211f n) 100000 g ((3 - d : Nat) : Int) 0 t = some u := u1
      rw [z10]
      exact ⟨u, u1, u2, u3, u4, u5⟩
theorem sp_211 {t : gx_S} (B : XB X c P) (ho : wB9 o) (hg : g < 3) (R : RBf t X c P o g) (h : t.1 215 43 = 0) : ∃ u : gx_S, gm_211 g 0 t = some u ∧ CRf u X c P o (zq X 4) ∧ KF1 t u := by
  obtain ⟨u, u1, u2, u3, u4, u5⟩ := sl_211 B ho hg 4 6 t 0 (by omega) (by omega) R (fun j hj => absurd hj (by omega)) ⟨0, rfl⟩ ⟨fun _ => h, fun i p => by cases p⟩
  rw [Nat.zero_add] at u2
  exact ⟨u, u1, u2, u5⟩
end
