/-! TEXTS: "," and "" behind; a text made of a row of bytes; its bytes; equal texts -/
theorem sb_len {b v n : Nat} {bs : Nat → Int} {δ : dS} (s : gx_S) (S : SBv δ b v n bs) : dm_261 b s δ = some ((n : Int), s, δ) := by
  unfold dm_261 dm_267
  rw [if_pos S.1, if_pos S.1, Option.bind_some, S.2.2.2.2.1]
theorem sb_k {m b v n : Nat} {bs : Nat → Int} {δ : dS} (s : gx_S) (S : SBv δ b v n bs) (hb : m ≤ b) (hv : m ≤ v) (hn : n + 1 ≤ 1500) : ∃ (ε : dS) (w : Nat), dm_260_r3 b s δ = some (b, s, ε) ∧ SBv ε b w (n + 1) (ap_ bs n 44) ∧ DF m 1 δ ε ∧ m ≤ w := by
  obtain ⟨ε, w, e1, e2, e3, e4, e5⟩ := sb_kap s S hb hv hn
  have hk := S.2.2.2.2.1
  obtain ⟨gO, gP, gA, gc, gk, gl, gL, gB⟩ := id e2
  have wn : w < ε.n := gA.2.1
  have bw : w ≠ b := fun q => by
    have a := gO.2.2
    have b := gA.2.2
    rw [q, a] at b
    exact absurd b (by decide)
  have l1 : (Int32.ofInt 1 >>> (Int32.ofInt 0 &&& 31)).toInt = 1 := by decide +kernel
  have a0 : dm_278_r3 s δ = some (1, s, δ) := by
    unfold dm_278_r3 dm_282_r3
    rw [Option.bind_some, l1]
  have ze : (dz_4 0).toInt = 44 := by decide +kernel
  have g0 : dO (ε.cz dz_4 0 w n 1) b 11 := dO_DF (DF_cz (m := 0) ε dz_4 0 n 1 (by omega)) gO
  have a2 : dm_272_r3 b n s ε = some (s, ε.cz dz_4 0 w n 1) := by
    unfold dm_272_r3 dm_271_r3 dm_282_r3
    rw [if_pos gO, if_pos gO, Option.bind_some, gc]
    dsimp only
    rw [if_pos (by decide), if_pos (by decide), if_pos rfl, Option.bind_some]
    dsimp only
    rw [if_pos gO, gP, Option.bind_some]
    unfold dm_281_r3 dm_282_r3
    rw [Option.bind_some, gc]
    dsimp only
    rw [if_pos (by decide), if_pos (by decide), if_neg (fun q => q rfl), if_pos gA, shl0 (show i32 (n : Int) by unfold i32; omega), if_pos (by omega), Option.bind_some, Option.bind_some, show ((n : Int)).toNat = n by omega]
    rfl
  have st : dm_266_r3 b s δ = some (b, s, (ε.cz dz_4 0 w n 1).w b 3 ((n : Int) + 1)) := by
    unfold dm_266_r3
    rw [a0, Option.bind_some]
    dsimp only
    rw [if_pos S.1, hk, show (n : Int) + 1 = ((n + 1 : Nat) : Int) from rfl, e1, Option.bind_some]
    dsimp only
    rw [if_pos gO, gk, a2, Option.bind_some]
    dsimp only
    rw [if_pos g0, Option.bind_some, dz_I, if_neg (fun t => bw t.1.symm), gk]
    rfl
  refine ⟨(ε.cz dz_4 0 w n 1).w b 3 ((n : Int) + 1), w, ?_, ⟨?_, by rw [dw_P, dz_P]; exact gP, ?_, ?_, ?_, by rw [dw_sh, dz_sh]; exact e3, by rw [dw_sh, dz_sh]; exact gL, fun i hi => ?_⟩, ?_, e5⟩
  · unfold dm_260_r3
    rw [if_pos S.1, st, Option.bind_some]
  · exact ⟨gO.1, by rw [dw_n, dz_n]; exact gO.2.1, by rw [dw_sh, dz_sh]; exact gO.2.2⟩
  · exact ⟨gA.1, by rw [dw_n, dz_n]; exact wn, by rw [dw_sh, dz_sh]; exact gA.2.2⟩
  · rw [dw_I, if_neg (fun t => absurd t.2 (by decide)), dz_I, if_neg (fun t => bw t.1.symm)]
    exact gc
  · rw [dw_I, if_pos ⟨rfl, rfl⟩]
    rfl
  · rw [dw_I, if_neg (fun t => bw t.1), dz_I]
    unfold ap_
    by_cases q : i = n
    · rw [if_pos ⟨rfl, by omega, by omega⟩, if_pos q, q, show 0 + (n - n) = 0 by omega, ze]
    · rw [if_neg (fun t => q (by omega)), if_neg q]
      exact gB i (by omega)
  · exact DF_tr e4 (DF_tr (DF_cz ε dz_4 0 n 1 e5) (DF_w _ 3 _ hb))
theorem sb_e {m b v n : Nat} {bs : Nat → Int} {δ : dS} (s : gx_S) (S : SBv δ b v n bs) (hb : m ≤ b) (hv : m ≤ v) (hn : n ≤ 1500) : ∃ (ε : dS) (w : Nat), dm_260_r5 b s δ = some (b, s, ε) ∧ SBv ε b w n bs ∧ DF m 1 δ ε ∧ m ≤ w := by
  obtain ⟨ε, w, e1, e2, e3, e4, e5⟩ := sb_kap s S hb hv hn
  have hk := S.2.2.2.2.1
  obtain ⟨gO, gP, gA, gc, gk, gl, gL, gB⟩ := id e2
  have wn : w < ε.n := gA.2.1
  have bw : w ≠ b := fun q => by
    have a := gO.2.2
    have b := gA.2.2
    rw [q, a] at b
    exact absurd b (by decide)
  have l1 : (Int32.ofInt 0 >>> (Int32.ofInt 0 &&& 31)).toInt = 0 := by decide +kernel
  have a0 : dm_278_r5 s δ = some (0, s, δ) := by
    unfold dm_278_r5 dm_282_r5
    rw [Option.bind_some, l1]
  have g0 : dO (ε.cz dz_6 0 w n 0) b 11 := dO_DF (DF_cz (m := 0) ε dz_6 0 n 0 (by omega)) gO
  have a2 : dm_272_r5 b n s ε = some (s, ε.cz dz_6 0 w n 0) := by
    unfold dm_272_r5 dm_271_r5 dm_282_r5
    rw [if_pos gO, if_pos gO, Option.bind_some, gc]
    dsimp only
    rw [if_pos (by decide), if_pos (by decide), if_pos rfl, Option.bind_some]
    dsimp only
    rw [if_pos gO, gP, Option.bind_some]
    unfold dm_281_r5 dm_282_r5
    rw [Option.bind_some, gc]
    dsimp only
    rw [if_pos (by decide), if_pos (by decide), if_neg (fun q => q rfl), if_pos gA, shl0 (show i32 (n : Int) by unfold i32; omega), if_pos (by omega), Option.bind_some, Option.bind_some, show ((n : Int)).toNat = n by omega]
    rfl
  have st : dm_266_r5 b s δ = some (b, s, (ε.cz dz_6 0 w n 0).w b 3 (n : Int)) := by
    unfold dm_266_r5
    rw [a0, Option.bind_some]
    dsimp only
    rw [if_pos S.1, hk, Int.add_zero, e1, Option.bind_some]
    dsimp only
    rw [if_pos gO, gk, a2, Option.bind_some]
    dsimp only
    rw [if_pos g0, Option.bind_some, dz_I, if_neg (fun t => bw t.1.symm), gk, Int.add_zero]
  refine ⟨(ε.cz dz_6 0 w n 0).w b 3 (n : Int), w, ?_, ⟨?_, by rw [dw_P, dz_P]; exact gP, ?_, ?_, ?_, by rw [dw_sh, dz_sh]; exact e3, by rw [dw_sh, dz_sh]; exact gL, fun i hi => ?_⟩, ?_, e5⟩
  · unfold dm_260_r5
    rw [if_pos S.1, st, Option.bind_some]
  · exact ⟨gO.1, by rw [dw_n, dz_n]; exact gO.2.1, by rw [dw_sh, dz_sh]; exact gO.2.2⟩
  · exact ⟨gA.1, by rw [dw_n, dz_n]; exact wn, by rw [dw_sh, dz_sh]; exact gA.2.2⟩
  · rw [dw_I, if_neg (fun t => absurd t.2 (by decide)), dz_I, if_neg (fun t => bw t.1.symm)]
    exact gc
  · rw [dw_I, if_pos ⟨rfl, rfl⟩]
  · rw [dw_I, if_neg (fun t => bw t.1), dz_I, if_neg (fun t => by omega)]
    exact gB i hi
  · exact DF_tr e4 (DF_tr (DF_cz ε dz_6 0 n 0 e5) (DF_w _ 3 _ hb))
/-- a text of n bytes -/
def STR (δ : dS) (x v n : Nat) (bs : Nat → Int) : Prop := dO δ x 12 ∧ δ.P x 0 = some v ∧ AR δ 3 v n ∧ δ.I x 1 = 0 ∧ ∀ i, i < n → δ.I v i = bs i
theorem STR_DF {m c x v n : Nat} {bs : Nat → Int} {δ ε : dS} (h : DF m c δ ε) (hx : x < m) (hv : v < m) (S : STR δ x v n bs) : STR ε x v n bs := by
  obtain ⟨h1, h2, h3, h4, h5⟩ := S
  exact ⟨dO_DF h h1, ((h.2.1 x hx).2 0).trans h2, AR_DF h h3, ((h.2.1 x hx).1 1).trans h4, fun i hi => ((h.2.1 v hv).1 i).trans (h5 i hi)⟩
theorem sb_290 {v n len : Nat} {δ : dS} (s : gx_S) (hA : dA δ 3 v) (hl : (δ.sh v).2 = len) (hn : n ≤ len) (hL : len ≤ 3100) : ∃ ε : dS, dm_290 v 0 n s δ = some (δ.n, s, ε) ∧ AR ε 3 δ.n n ∧ (∀ i, i < n → ε.I δ.n i = δ.I v i) ∧ DF δ.n 1 δ ε := by
  have vn : v < δ.n := hA.2.1
  have v0 := hA.1
  unfold dm_290
  rw [if_pos (by decide), if_neg (fun q => q rfl), if_pos hA, hl, if_pos (by omega), if_pos (by omega)]
  by_cases q : n = len
  · have es : (δ.cl v).sh δ.n = (3, n) := by
      rw [dc_sh, if_pos rfl]
      have a := hA.2.2
      exact Prod.ext a (hl.trans q.symm)
    rw [if_pos (by omega), Option.bind_some, if_pos (show dA (δ.cl v) 3 δ.n from ⟨by omega, by rw [dc_n]; omega, by rw [es]⟩)]
    exact ⟨δ.cl v, rfl, ⟨by omega, by rw [dc_n]; omega, es⟩, fun i hi => by rw [dc_I, if_pos rfl], DF_cl δ v (Nat.le_refl _) (by omega)⟩
  · have f1 : DF δ.n 1 δ (δ.al 3 n) := DF_al δ 3 n (Nat.le_refl _) (by omega)
    have d1 := dA_DF f1 hA
    have s1 : ((δ.al 3 n).sh v).2 = len := by rw [da_sh, if_neg (by omega)]; exact hl
    have s2 : (δ.al 3 n).sh δ.n = (3, n) := by rw [da_sh, if_pos rfl]
    have d2 : dA (δ.al 3 n) 3 δ.n := ⟨by omega, by rw [da_n]; omega, by rw [s2]⟩
    rw [if_neg (by omega)]
    refine ⟨(δ.al 3 n).cp v 0 δ.n 0 n, ?_, ⟨by omega, by rw [dp_n, da_n]; omega, by rw [dp_sh, s2]⟩, fun i hi => ?_, DF_tr f1 (DF_cp _ v 0 0 n (Nat.le_refl _))⟩
    · unfold dm_290_10 dm_291 dm_292
      rw [if_pos (by omega), if_pos (by decide), if_pos (by omega), Option.bind_some, Int.sub_zero]
      dsimp only
      rw [if_pos (by omega), Option.bind_some, show ((n : Int)).toNat = n by omega, if_pos d1, s1, Int.sub_zero, if_pos (by omega), if_pos (by omega), if_pos d2, s2, if_pos (show (n : Int) < (len : Int) by omega), if_pos (by show 0 ≤ (0 : Int) ∧ 0 ≤ (0 : Int) ∧ 0 ≤ (n : Int) ∧ (0 : Int) + n ≤ (len : Int) ∧ (0 : Int) + n ≤ ((n : Nat) : Int); omega), Option.bind_some, Option.bind_some, show ((n : Int)).toNat = n by omega]
      rfl
    · rw [dp_I, if_pos ⟨rfl, by omega, by omega⟩, da_I, if_neg (by omega), show 0 + (i - 0) = i by omega]
theorem sb_str {b v n : Nat} {bs : Nat → Int} {δ : dS} (s : gx_S) (S : SBv δ b v n bs) : ∃ ε : dS, dm_262 b s δ = some (δ.n, s, ε) ∧ STR ε δ.n (δ.n + 1) n bs ∧ DF δ.n 2 δ ε := by
  obtain ⟨hO, hP, hA, hc, hk, hl, hL, hB⟩ := id S
  have bn : b < δ.n := hO.2.1
  have b0 : 215 ≤ b := hO.1
  have vn : v < δ.n := hA.2.1
  have e12 : dnf 12 = 4 := by decide +kernel
  obtain ⟨α, hα⟩ : ∃ α, α = δ.al (100 + 12) (dnf 12) := ⟨_, rfl⟩
  have an : α.n = δ.n + 1 := by rw [hα, da_n]
  have f1 : DF δ.n 1 δ α := by rw [hα]; exact DF_al δ _ _ (Nat.le_refl _) (by rw [e12]; omega)
  have d0 : dO α δ.n 12 := ⟨by omega, by omega, by rw [hα, da_sh, if_pos rfl]⟩
  have S1 : SBv α b v n bs := SBv_DF f1 bn vn S
  obtain ⟨β, hβ⟩ : ∃ β, β = α.w δ.n 1 0 := ⟨_, rfl⟩
  have f2 : DF δ.n 0 α β := by rw [hβ]; exact DF_w α 1 0 (Nat.le_refl _)
  have bn' : β.n = δ.n + 1 := by rw [hβ, dw_n, an]
  have hA2 : dA β 3 v := dA_DF f2 (dA_DF f1 hA)
  have hl2 : (β.sh v).2 = (δ.sh v).2 := by rw [hβ, dw_sh, f1.2.2.1 v vn]
  obtain ⟨γ, g1, g2, g3, g4⟩ := sb_290 (n := n) s hA2 hl2 hl hL
  rw [bn'] at g1 g2 g3 g4
  have dg : dO γ δ.n 12 := dO_DF g4 (dO_DF f2 d0)
  refine ⟨γ.r δ.n 0 (some (δ.n + 1)), ?_, ⟨dO_DF (DF_r γ 0 _ (Nat.le_refl _)) dg, by rw [dr_P, if_pos ⟨rfl, rfl⟩], AR_DF (DF_r γ 0 (some (δ.n + 1)) (Nat.le_refl δ.n)) g2, ?_, fun i hi => ?_⟩, ?_⟩
  · have o1 : dm_277_n δ.n b s α = some (s, γ.r δ.n 0 (some (δ.n + 1))) := by
      unfold dm_277_n dm_273
      rw [if_pos S1.1, if_pos S1.1, S1.2.1, Option.bind_some, Option.bind_some]
      dsimp only
      rw [if_pos S1.1, sb_len s S1, Option.bind_some]
      dsimp only
      rw [if_pos S1.1, sb_270 s S1, Option.bind_some]
      dsimp only
      rw [if_pos (by decide), if_neg (by decide), if_pos d0, Option.bind_some, ← hβ, g1, Option.bind_some]
      dsimp only
      rw [if_pos dg, Option.bind_some]
    unfold dm_262
    rw [Option.bind_some, ← hα, if_pos d0]
    unfold dm_276
    rw [if_pos d0, o1, Option.bind_some, Option.bind_some]
  · rw [dr_I, (g4.2.1 δ.n (by omega)).1 1, hβ, dw_I, if_pos ⟨rfl, rfl⟩]
  · rw [dr_I, g3 i hi, hβ, dw_I, if_neg (by omega), (f1.2.1 v vn).1 i]
    exact hB i hi
  · exact DF_tr f1 (DF_tr f2 (DF_tr (DF_mono (show δ.n ≤ δ.n + 1 by omega) (Nat.le_refl 1) g4) (DF_r γ 0 _ (Nat.le_refl _))))
theorem st_len {x v n : Nat} {bs : Nat → Int} {δ : dS} (s : gx_S) (S : STR δ x v n bs) (hn : n ≤ 3100) : dm_278 x s δ = some ((n : Int), s, δ) := by
  obtain ⟨h1, h2, h3, h4, h5⟩ := S
  unfold dm_278 dm_282
  rw [if_pos h1, h2, Option.bind_some, if_pos (AR_A h3), if_pos h1, h4, if_pos (by decide), Option.bind_some]
  dsimp only
  rw [AR_2 h3, shr0 (show i32 (n : Int) by unfold i32; omega)]
theorem st_at {x v n i : Nat} {bs : Nat → Int} {δ : dS} (s : gx_S) (S : STR δ x v n bs) (hn : n ≤ 3100) (hi : i < n) (hb : 0 ≤ bs i ∧ bs i < 128) : dm_279 x i s δ = some (bs i, s, δ) := by
  obtain ⟨h1, h2, h3, h4, h5⟩ := S
  have e1 : dm_283 x s δ = some (1, s, δ) := by
    unfold dm_283
    rw [if_pos h1, h4, if_pos (by decide), if_neg (by decide)]
  have e2 : dm_286 v i s δ = some (bs i, s, δ) := by
    unfold dm_286 dm_284 dm_288_r100
    rw [if_pos (AR_A h3), AR_2 h3, if_pos (by omega), if_neg (by omega), if_pos (by omega), if_pos (by omega), Option.bind_some, Option.bind_some]
    dsimp only
    rw [if_pos (AR_A h3), if_pos (AR_I h3 hi), show ((i : Int)).toNat = i by omega, h5 i hi, a255_i hb, c16_i hb, if_pos (by omega)]
  unfold dm_279
  rw [if_pos h1, e1, Option.bind_some]
  dsimp only
  rw [if_pos (by decide), if_neg (by decide), if_pos h1, h2, Option.bind_some, e2, Option.bind_some]
  dsimp only
  rw [if_pos (by omega)]
theorem st_eq {x v y w n : Nat} {bs : Nat → Int} {δ : dS} (s : gx_S) (S : STR δ x v n bs) (T : STR δ y w n bs) (hn : n ≤ 3100) (hb : ∀ i, i < n → 0 ≤ bs i ∧ bs i < 128) : dm_280 x y s δ = some (1, s, δ) := by
  obtain ⟨h1, h2, h3, h4, h5⟩ := S
  obtain ⟨k1, k2, k3, k4, k5⟩ := T
  have lp : ∀ (m i : Nat), n < m + i → i ≤ n → dm_287_9 m v w i s δ = some (1, s, δ) := by
    intro m
    induction m with
    | zero => intro i h; omega
    | succ m ih =>
      intro i h hi
      rw [dm_287_9, if_pos (AR_A h3), if_pos (by omega), if_pos (by rw [AR_2 h3]; omega)]
      by_cases q : i = n
      · rw [if_pos (by rw [AR_2 h3]; omega)]
      · have b := hb i (by omega)
        rw [if_neg (by rw [AR_2 h3]; omega), if_pos (AR_I h3 (by omega)), if_pos (AR_A k3), if_pos (AR_I k3 (by omega)), show ((i : Int)).toNat = i by omega, h5 i (by omega), k5 i (by omega), if_pos (by omega), if_pos (by omega), if_pos rfl]
        exact ih (i + 1) (by omega) (by omega)
  unfold dm_280
  by_cases q : x = y
  · rw [if_neg (fun t => t q)]
  · rw [if_pos q, if_pos k1, if_pos h1, h4, k4, if_pos (by decide), if_pos (by decide), if_neg (fun t => t rfl)]
    unfold dm_280_36 dm_287
    have l : dm_287_9 100000 v w 0 s δ = some (1, s, δ) := lp 100000 0 (by omega) (by omega)
    rw [if_pos h1, h2, Option.bind_some, if_pos k1, k2, Option.bind_some, if_pos (AR_A h3), if_pos (AR_A k3), AR_2 h3, AR_2 k3, if_pos (by omega), if_pos (by omega), if_neg (fun t => t rfl), l, Option.bind_some]
    dsimp only
    rw [if_pos (by decide), if_neg (by decide)]
