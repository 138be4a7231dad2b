/-! TEXTS in the making: a StringBuilder holds a row of bytes -/
def SBv (δ : dS) (b v n : Nat) (bs : Nat → Int) : Prop := dO δ b 11 ∧ δ.P b 0 = some v ∧ dA δ 3 v ∧ δ.I b 1 = 0 ∧ δ.I b 3 = n ∧ n ≤ (δ.sh v).2 ∧ (δ.sh v).2 ≤ 3100 ∧ ∀ i, i < n → δ.I v i = bs i
theorem SBv_DF {m c b v n : Nat} {bs : Nat → Int} {δ ε : dS} (x : DF m c δ ε) (hb : b < m) (hv : v < m) (S : SBv δ b v n bs) : SBv ε b v n bs := by
  obtain ⟨h1, h2, h3, h4, h5, h6, h7, h8⟩ := S
  have e := x.2.2.1 v h3.2.1
  exact ⟨dO_DF x h1, ((x.2.1 b hb).2 0).trans h2, dA_DF x h3, ((x.2.1 b hb).1 1).trans h4, ((x.2.1 b hb).1 3).trans h5, by rw [e]; exact h6, by rw [e]; exact h7, fun i hi => ((x.2.1 v hv).1 i).trans (h8 i hi)⟩
theorem sb_293 {cap need nc : Int} (h0 : 0 ≤ cap ∧ cap < need ∧ need ≤ 1500) (hc : cap + (if need - cap < cap + 2 then cap + 2 else need - cap) = nc) (h1 : 0 < nc ∧ nc ≤ 5000) (s : gx_S) (δ : dS) : dm_293 cap (need - cap) (cap + 2) s δ = some (nc, s, δ) := by
  unfold dm_293
  rw [if_pos (by omega), if_pos (by omega), hc, if_pos (by omega), if_neg (by omega), if_neg (by omega)]
theorem sb_269 {b v n cap need nc : Nat} {bs : Nat → Int} {δ : dS} (S : SBv δ b v n bs) (hcap : (δ.sh v).2 = cap) (h0 : cap < need ∧ need ≤ 1500) (hc : (cap : Int) + (if (need : Int) - cap < cap + 2 then (cap : Int) + 2 else need - cap) = nc) (h1 : 0 < nc ∧ nc ≤ 5000) (s : gx_S) : dm_269 b need s δ = some ((nc : Int), s, δ) := by
  obtain ⟨hO, hP, hA, hco, hk, hl, hL, hB⟩ := S
  have e2 : (Int32.ofInt 2 <<< (Int32.ofInt 0 &&& 31)).toInt = 2 := by decide +kernel
  unfold dm_269
  rw [if_pos hO, hP, Option.bind_some, if_pos hA, hcap, hco, shl0 (show i32 (need : Int) by unfold i32; omega), e2, sb_293 (by omega) hc (by omega), Option.bind_some]
  dsimp only
  rw [if_pos (by omega), if_pos (by omega), if_pos hO, hco, shr0 (show i32 (nc : Int) by unfold i32; omega)]
theorem sb_289 {v cap nc : Nat} {δ : dS} (hA : dA δ 3 v) (hcap : (δ.sh v).2 = cap) (h1 : cap < nc ∧ nc ≤ 5000) (s : gx_S) : dm_289 v nc s δ = some (δ.n, s, (δ.al 3 nc).cp v 0 δ.n 0 cap) := by
  have vn : v < δ.n := hA.2.1
  have d1 : dA (δ.al 3 nc) 3 v := ⟨hA.1, by rw [da_n]; omega, by rw [da_sh, if_neg (by omega)]; exact hA.2.2⟩
  have d2 : dA (δ.al 3 nc) 3 δ.n := ⟨by have := hA.1; omega, by rw [da_n]; omega, by rw [da_sh, if_pos rfl]⟩
  have s1 : ((δ.al 3 nc).sh v).2 = cap := by rw [da_sh, if_neg (by omega)]; exact hcap
  have s2 : ((δ.al 3 nc).sh δ.n).2 = nc := by rw [da_sh, if_pos rfl]
  unfold dm_289
  rw [if_pos hA, if_pos (by omega), hcap, if_pos (by omega), if_pos (by omega), if_pos (by omega), Option.bind_some, show ((nc : Int)).toNat = nc by omega]
  rw [if_pos d1, s1, if_pos (by omega), if_pos d2, s2, if_neg (show ¬ (nc : Int) < (cap : Int) by omega), if_pos (by omega), Option.bind_some, show ((cap : Int)).toNat = cap by omega]
  rfl
theorem sb_kap {m b v n need : Nat} {bs : Nat → Int} {δ : dS} (s : gx_S) (S : SBv δ b v n bs) (hb : m ≤ b) (hv : m ≤ v) (hn : need ≤ 1500) : ∃ (ε : dS) (w : Nat), dm_268 b need s δ = some (s, ε) ∧ SBv ε b w n bs ∧ need ≤ (ε.sh w).2 ∧ DF m 1 δ ε ∧ m ≤ w := by
  obtain ⟨hO, hP, hA, hc, hk, hl, hL, hB⟩ := id S
  obtain ⟨cap, hcap⟩ : ∃ cap, (δ.sh v).2 = cap := ⟨_, rfl⟩
  rw [hcap] at hl hL
  have bn : b < δ.n := hO.2.1
  have vn : v < δ.n := hA.2.1
  unfold dm_268
  rw [if_pos hO, hP, Option.bind_some, if_pos hA, hc, hcap, shr0 (show i32 (cap : Int) by unfold i32; omega), if_pos (by omega)]
  by_cases q : (need : Int) - cap ≤ 0
  · rw [if_pos q]
    exact ⟨δ, v, rfl, S, by rw [hcap]; omega, DF_c (DF_rf m δ) (by omega), hv⟩
  · obtain ⟨nc, hnc, r1, r2⟩ : ∃ nc : Nat, (cap : Int) + (if (need : Int) - cap < cap + 2 then (cap : Int) + 2 else need - cap) = nc ∧ (need ≤ nc ∧ cap < nc) ∧ nc ≤ 3002 := by
      by_cases z : (need : Int) - cap < cap + 2
      · exact ⟨2 * cap + 2, by rw [if_pos z]; omega, by omega, by omega⟩
      · exact ⟨need, by rw [if_neg z]; omega, by omega, by omega⟩
    rw [if_neg q, Option.bind_some, sb_269 S hcap (by omega) hnc (by omega), Option.bind_some]
    dsimp only
    rw [if_pos hO, hc, shl0 (show i32 (nc : Int) by unfold i32; omega), sb_289 hA hcap (by omega), Option.bind_some]
    dsimp only
    have f1 : DF m 1 δ (δ.al 3 nc) := DF_al δ 3 nc (by omega) (by omega)
    have f2 : DF m 1 δ ((δ.al 3 nc).cp v 0 δ.n 0 cap) := DF_tr f1 (DF_cp _ v 0 0 cap (by omega))
    obtain ⟨ε, hε⟩ : ∃ ε, ε = (δ.al 3 nc).cp v 0 δ.n 0 cap := ⟨_, rfl⟩
    rw [← hε] at f2 ⊢
    have eI : ∀ k j, k ≠ δ.n → ε.I k j = δ.I k j := fun k j h => by rw [hε, dp_I, if_neg (fun t => h t.1), da_I, if_neg h]
    have es : ε.sh δ.n = (3, nc) := by rw [hε, dp_sh, da_sh, if_pos rfl]
    have en : ε.n = δ.n + 1 := by rw [hε, dp_n, da_n]
    rw [if_pos (dO_DF f2 hO), Option.bind_some]
    refine ⟨ε.r b 0 (some δ.n), δ.n, rfl, ⟨dO_DF (DF_r ε 0 (some δ.n) (Nat.le_refl b)) (dO_DF f2 hO), by rw [dr_P, if_pos ⟨rfl, rfl⟩], ⟨by have := hA.1; omega, by rw [dr_n, en]; omega, by rw [dr_sh, es]⟩, by rw [dr_I, eI _ _ (by omega)]; exact hc, by rw [dr_I, eI _ _ (by omega)]; exact hk, by rw [dr_sh, es]; show n ≤ nc; omega, by rw [dr_sh, es]; show nc ≤ 3100; omega, fun i hi => ?_⟩, by rw [dr_sh, es]; exact r1.1, DF_tr f2 (DF_r ε 0 (some δ.n) hb), by omega⟩
    rw [dr_I, hε, dp_I, if_pos ⟨rfl, by omega, by omega⟩, da_I, if_neg (by omega), show 0 + (i - 0) = i by omega]
    exact hB i hi
theorem sb_270 {b v n : Nat} {bs : Nat → Int} {δ : dS} (s : gx_S) (S : SBv δ b v n bs) : dm_270 b s δ = some (1, s, δ) := by
  obtain ⟨hO, hP, hA, hc, hk, hl, hL, hB⟩ := S
  unfold dm_270
  rw [if_pos hO, hc, if_pos (by decide), if_neg (by decide)]
/-- one byte more -/
def ap_ (bs : Nat → Int) (n : Nat) (x : Int) (i : Nat) : Int := if i = n then x else bs i
theorem sb_c {m b v n : Nat} {x : Int} {bs : Nat → Int} {δ : dS} (s : gx_S) (S : SBv δ b v n bs) (hb : m ≤ b) (hv : m ≤ v) (hn : n + 1 ≤ 1500) (hx : 0 ≤ x ∧ x < 128) : ∃ (ε : dS) (w : Nat), dm_258 b x s δ = some (b, s, ε) ∧ SBv ε b w (n + 1) (ap_ bs n x) ∧ DF m 1 δ ε ∧ m ≤ w := by
  obtain ⟨ε, w, e1, e2, e3, e4, e5⟩ := sb_kap s S hb hv hn
  have hk := S.2.2.2.2.1
  obtain ⟨gO, gP, gA, gc, gk, gl, gL, gB⟩ := id e2
  have wn : w < ε.n := gA.2.1
  have bw : w ≠ b := fun q => by
    have a := gO.2.2
    have b := gA.2.2
    rw [q, a] at b
    exact absurd b (by decide)
  have d1 : dA (ε.w b 3 ((n : Int) + 1)) 3 w := ⟨gA.1, by rw [dw_n]; exact wn, by rw [dw_sh]; exact gA.2.2⟩
  have st : dm_264 b x s δ = some (b, s, (ε.w b 3 ((n : Int) + 1)).w w n x) := by
    unfold dm_264
    rw [if_pos S.1, hk, show (n : Int) + 1 = ((n + 1 : Nat) : Int) from rfl, e1, Option.bind_some]
    dsimp only
    rw [if_pos gO, sb_270 s e2, Option.bind_some]
    dsimp only
    rw [if_pos (by decide), if_neg (by decide)]
    unfold dm_285
    rw [if_pos (by omega), if_neg (by omega), Option.bind_some]
    dsimp only
    rw [if_pos (by decide), if_neg (by decide), if_pos gO, gP, Option.bind_some, Option.bind_some, gk, if_pos d1, if_pos ⟨by omega, by rw [dw_sh]; omega⟩, Option.bind_some, b8_i hx, gn3_i hx, show ((n : Int)).toNat = n by omega]
    rfl
  refine ⟨(ε.w b 3 ((n : Int) + 1)).w w n x, w, ?_, ⟨?_, by rw [dw_P, dw_P]; exact gP, ?_, ?_, ?_, by rw [dw_sh, dw_sh]; exact e3, by rw [dw_sh, dw_sh]; exact gL, fun i hi => ?_⟩, ?_, e5⟩
  · unfold dm_258
    rw [if_pos S.1, st, Option.bind_some]
  · exact ⟨gO.1, by rw [dw_n, dw_n]; exact gO.2.1, by rw [dw_sh, dw_sh]; exact gO.2.2⟩
  · exact ⟨gA.1, by rw [dw_n, dw_n]; exact wn, by rw [dw_sh, dw_sh]; exact gA.2.2⟩
  · rw [dw_I, if_neg (fun t => bw t.1.symm), dw_I, if_neg (fun t => absurd t.2 (by decide))]
    exact gc
  · rw [dw_I, if_neg (fun t => bw t.1.symm), dw_I, if_pos ⟨rfl, rfl⟩]
    rfl
  · rw [dw_I]
    unfold ap_
    by_cases q : i = n
    · rw [if_pos ⟨rfl, q⟩, if_pos q]
    · rw [if_neg (fun t => q t.2), if_neg q, dw_I, if_neg (fun t => bw t.1)]
      exact gB i (by omega)
  · exact DF_tr e4 (DF_tr (DF_w ε 3 _ hb) (DF_w _ n x e5))
/-- a new one is empty -/
theorem sb_new {δ : dS} (s : gx_S) (h : 215 ≤ δ.n) : ∃ ε : dS, dm_257 δ.n s (δ.al (100 + 11) (dnf 11)) = some (s, ε) ∧ SBv ε δ.n (δ.n + 1) 0 (fun _ => 0) ∧ DF δ.n 2 δ ε ∧ dO (δ.al (100 + 11) (dnf 11)) δ.n 11 := by
  have d0 : dO (δ.al (100 + 11) (dnf 11)) δ.n 11 := ⟨h, by rw [da_n]; omega, by rw [da_sh, if_pos rfl]⟩
  have e4 : dnf 11 = 4 := by decide +kernel
  obtain ⟨α, hα⟩ : ∃ α, α = δ.al (100 + 11) (dnf 11) := ⟨_, rfl⟩
  have an : α.n = δ.n + 1 := by rw [hα, da_n]
  have f1 : DF δ.n 1 δ α := by rw [hα]; exact DF_al δ _ _ (Nat.le_refl _) (by rw [e4]; omega)
  rw [← hα] at d0 ⊢
  obtain ⟨β, hβ⟩ : ∃ β, β = α.al 3 16 := ⟨_, rfl⟩
  have bn : β.n = δ.n + 2 := by rw [hβ, da_n, an]
  have f2 : DF δ.n 1 α β := by rw [hβ]; exact DF_al α _ _ (by omega) (by omega)
  have f3 : DF δ.n 0 β (β.r δ.n 0 (some α.n)) := DF_r β 0 _ (Nat.le_refl _)
  have f4 : DF δ.n 0 (β.r δ.n 0 (some α.n)) ((β.r δ.n 0 (some α.n)).w δ.n 1 0) := DF_w _ 1 0 (Nat.le_refl _)
  have sv : β.sh (δ.n + 1) = (3, 16) := by rw [hβ, da_sh, if_pos an.symm]
  refine ⟨(β.r δ.n 0 (some α.n)).w δ.n 1 0, ?_, ⟨dO_DF f4 (dO_DF f3 (dO_DF f2 d0)), ?_, ⟨by omega, by rw [dw_n, dr_n, bn]; omega, by rw [dw_sh, dr_sh, sv]⟩, by rw [dw_I, if_pos ⟨rfl, rfl⟩], ?_, by omega, by rw [dw_sh, dr_sh, sv]; show 16 ≤ 3100; omega, fun i hi => absurd hi (by omega)⟩, DF_tr f1 (DF_tr f2 (DF_tr f3 f4)), d0⟩
  · unfold dm_257
    rw [if_pos d0]
    unfold dm_263
    rw [if_pos (by decide), Option.bind_some, show ((16 : Int)).toNat = 16 from rfl, ← hβ, if_pos (dO_DF f2 d0), Option.bind_some, if_pos (dO_DF f3 (dO_DF f2 d0)), Option.bind_some, Option.bind_some]
  · rw [dw_P, dr_P, if_pos ⟨rfl, rfl⟩, an]
  · rw [dw_I, if_neg (fun t => absurd t.2 (by decide)), dr_I, hβ, da_I, if_neg (by omega), hα, da_I, if_pos rfl]
    rfl
