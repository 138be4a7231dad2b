/-! THE LAW: from the start, whatever the script, it comes to its end with true -/
set_option maxRecDepth 100000 in
theorem inv_start : INV gs0 := by
  refine ⟨gs0.1 216, 0, 0, 0, fun _ _ => 0, 0, fun _ => 0, ⟨⟨rfl, rfl, rfl, rfl, rfl, ?_, ?_, ?_, fun l _ _ k hk => absurd hk (by omega)⟩, fun g hg => ⟨0, by decide, ?_, ?_, fun h => absurd h (by decide), fun h => absurd h (by decide), fun h => absurd h (by decide), fun h => absurd h (by decide), fun h => absurd h (by decide), fun h => absurd h (by decide)⟩, ⟨by decide, 0, by decide, rfl, rfl, fun k hk => absurd hk (Nat.not_lt_zero _)⟩, rfl, fun i hi => absurd hi (Nat.not_lt_zero _)⟩, ⟨rfl, ⟨rfl, fun k hk => absurd hk (Nat.not_lt_zero _)⟩, rfl, fun i hi => absurd hi (Nat.not_lt_zero _), ?_, ?_, ?_⟩, ⟨⟨rfl, rfl, by decide, by decide⟩, by decide +kernel, .inl rfl, .inl rfl, by decide +kernel, by decide +kernel, by decide +kernel, fun l _ _ k hk => absurd hk (by omega), fun h => absurd rfl h⟩, by decide, fun i hi => absurd hi (Nat.not_lt_zero _)⟩
  · decide +kernel
  · decide +kernel
  · decide +kernel
  · have q : ∀ g, g < 3 → gs0.1 (71 + 48 * g) 8 = ((0 : Nat) : Int) := by decide +kernel
    exact q g hg
  · have q : ∀ g, g < 3 → gs0.1 (71 + 48 * g) 9 = (g : Int) := by decide +kernel
    exact q g hg
  · decide +kernel
  · decide +kernel
  · decide +kernel
theorem lw_tw {s : gx_S} {a b : gx_S → Option (Int × gx_S)} (h : twW s a b) {K : gx_S → Option (Bool × gx_S)} (k : ∀ w, INV w → ∃ z, K w = some (true, z)) : ∃ z, ((a s).bind fun q => (b q.2).bind fun p => K p.2) = some (true, z) := by
  obtain ⟨r, r', u, w, h1, h2, h3⟩ := h
  obtain ⟨z, hz⟩ := k w h3
  exact ⟨z, gb_bind h1 (gb_bind h2 hz)⟩
theorem lw_tw2 {s : gx_S} {a b : gx_S → Option (Int × gx_S)} (h : two s a b) {K : gx_S → Option (Bool × gx_S)} (k : ∀ w, INV w → ∃ z, K w = some (true, z)) : ∃ z, ((a s).bind fun q => (b q.2).bind fun p => if q.1 = p.1 then K p.2 else none) = some (true, z) := by
  obtain ⟨r, u, w, h1, h2, h3⟩ := h
  obtain ⟨z, hz⟩ := k w h3
  exact ⟨z, gb_bind h1 (gb_bind h2 (gb_t rfl hz))⟩
set_option maxHeartbeats 4000000 in
theorem sl_law {L : Nat} {xs : Nat → Int32} (hL : L ≤ 3072) : ∀ (n x : Nat) (s : gx_S), L < 6 * n + x → x ≤ L → INV s → ∃ z : gx_S, gm_236_18 L xs n x s = some (true, z) := by
  intro n
  induction n with
  | zero => intro x s h hx; omega
  | succ n ih =>
    intro x s h hx I
    rw [gm_236_18, if_pos (by omega), if_pos (by omega)]
    by_cases e : ((L : Int) - 6) < x
    · rw [if_pos e]
      exact ⟨s, rfl⟩
    · have k : ∀ w, INV w → ∃ z, gm_236_1121 L xs (gm_236_18 L xs n) x w = some (true, z) := fun w hw => ih (x + 6) w (by omega) (by omega) hw
      rw [if_neg e, if_pos (by omega), if_pos (gs_r _)]
      generalize ((Int32.ofInt ((xs ((x : Int)).toNat).toInt) &&& Int32.ofInt 31)).toInt = y
      by_cases c0 : y = 0
      · rw [if_pos c0, if_pos (by omega), if_pos (by omega), if_pos (by omega), if_pos (by omega), if_pos (by omega)]
        exact lw_tw (show twW s (gm_85 ((xs ((x : Int) + 1).toNat).toInt) ((xs ((x : Int) + 2).toNat).toInt) ((xs ((x : Int) + 3).toNat).toInt) ((xs ((x : Int) + 4).toNat).toInt) ((xs ((x : Int) + 5).toNat).toInt)) (gm_134 ((xs ((x : Int) + 1).toNat).toInt) ((xs ((x : Int) + 2).toNat).toInt) ((xs ((x : Int) + 3).toNat).toInt) ((xs ((x : Int) + 4).toNat).toInt) ((xs ((x : Int) + 5).toNat).toInt)) from two_W (inv_feed I _ _ _ _ _)) (K := gm_236_1121 L xs (gm_236_18 L xs n) x) k
      rw [if_neg c0]
      by_cases c1 : y = 1
      · rw [if_pos c1, if_pos (by omega)]
        exact lw_tw (show twW s (gm_86 ((xs ((x : Int) + 1).toNat).toInt)) (gm_136 ((xs ((x : Int) + 1).toNat).toInt)) from two_W (inv_end I (gs_r _))) (K := gm_236_1121 L xs (gm_236_18 L xs n) x) k
      rw [if_neg c1]
      by_cases c2 : y = 2
      · rw [if_pos c2, if_pos (by omega)]
        exact lw_tw (show twW s (gm_87 ((xs ((x : Int) + 1).toNat).toInt)) (gm_145 ((xs ((x : Int) + 1).toNat).toInt)) from two_W (inv_layer I (gs_r _))) (K := gm_236_1121 L xs (gm_236_18 L xs n) x) k
      rw [if_neg c2]
      by_cases c3 : y = 3
      · rw [if_pos c3, if_pos (by omega)]
        exact lw_tw (show twW s (gm_88 ((xs ((x : Int) + 1).toNat).toInt)) (gm_149 ((xs ((x : Int) + 1).toNat).toInt)) from two_W (inv_counts I (gs_r _))) (K := gm_236_1121 L xs (gm_236_18 L xs n) x) k
      rw [if_neg c3]
      by_cases c4 : y = 4
      · rw [if_pos c4, if_pos (by omega), if_pos (by omega), if_pos (by omega)]
        exact lw_tw (show twW s (gm_89 ((xs ((x : Int) + 1).toNat).toInt) ((xs ((x : Int) + 2).toNat).toInt) ((xs ((x : Int) + 3).toNat).toInt)) (gm_214 ((xs ((x : Int) + 1).toNat).toInt) ((xs ((x : Int) + 2).toNat).toInt) ((xs ((x : Int) + 3).toNat).toInt)) from two_W (inv_weigh I (gs_r _) (gs_r _) (gs_r _))) (K := gm_236_1121 L xs (gm_236_18 L xs n) x) k
      rw [if_neg c4]
      by_cases c5 : y = 5
      · rw [if_pos c5, if_pos (by omega), if_pos (by omega)]
        exact lw_tw (show twW s (gm_90 ((xs ((x : Int) + 1).toNat).toInt) ((xs ((x : Int) + 2).toNat).toInt)) (gm_215 ((xs ((x : Int) + 1).toNat).toInt) ((xs ((x : Int) + 2).toNat).toInt)) from two_W (inv_settle I (gs_r _) (gs_r _))) (K := gm_236_1121 L xs (gm_236_18 L xs n) x) k
      rw [if_neg c5]
      by_cases c6 : y = 6
      · rw [if_pos c6, if_pos (by omega), if_pos (by omega)]
        exact lw_tw (show twW s (gm_91 ((xs ((x : Int) + 1).toNat).toInt) ((xs ((x : Int) + 2).toNat).toInt)) (gm_216 ((xs ((x : Int) + 1).toNat).toInt) ((xs ((x : Int) + 2).toNat).toInt)) from two_W (inv_district I (gs_r _) (gs_r _))) (K := gm_236_1121 L xs (gm_236_18 L xs n) x) k
      rw [if_neg c6]
      by_cases c7 : y = 7
      · rw [if_pos c7, if_pos (by omega)]
        exact lw_tw (show twW s (gm_92 ((xs ((x : Int) + 1).toNat).toInt)) (gm_212 ((xs ((x : Int) + 1).toNat).toInt)) from two_W (inv_fit I (gs_r _))) (K := gm_236_1121 L xs (gm_236_18 L xs n) x) k
      rw [if_neg c7]
      by_cases c8 : y = 8
      · rw [if_pos c8]
        exact lw_tw (show twW s (gm_93) (gm_217) from two_W (inv_adopt I)) (K := gm_236_1121 L xs (gm_236_18 L xs n) x) k
      rw [if_neg c8]
      by_cases c9 : y = 9
      · rw [if_pos c9]
        exact lw_tw (show twW s (gm_94) (gm_133) from two_W (inv_undo I)) (K := gm_236_1121 L xs (gm_236_18 L xs n) x) k
      rw [if_neg c9]
      by_cases c10 : y = 10
      · rw [if_pos c10, if_pos (by omega), if_pos (by omega), if_pos (by omega)]
        exact lw_tw (show twW s (gm_95 ((xs ((x : Int) + 1).toNat).toInt) ((xs ((x : Int) + 2).toNat).toInt) ((xs ((x : Int) + 3).toNat).toInt)) (gm_218 ((xs ((x : Int) + 1).toNat).toInt) ((xs ((x : Int) + 2).toNat).toInt) ((xs ((x : Int) + 3).toNat).toInt)) from two_W (inv_cell I (gs_r _) (gs_r _) (gs_r _))) (K := gm_236_1121 L xs (gm_236_18 L xs n) x) k
      rw [if_neg c10]
      by_cases c11 : y = 11
      · rw [if_pos c11, if_pos (by omega), if_pos (by omega)]
        exact lw_tw2 (show two s (gm_96 ((xs ((x : Int) + 1).toNat).toInt) ((xs ((x : Int) + 2).toNat).toInt)) (gm_220 ((xs ((x : Int) + 1).toNat).toInt) ((xs ((x : Int) + 2).toNat).toInt)) from inv_piece I (gs_r _) (gs_r _)) (K := gm_236_1121 L xs (gm_236_18 L xs n) x) k
      rw [if_neg c11]
      by_cases c12 : y = 12
      · rw [if_pos c12, if_pos (by omega), if_pos (by omega)]
        exact lw_tw (show twW s (gm_97 ((xs ((x : Int) + 1).toNat).toInt) ((xs ((x : Int) + 2).toNat).toInt)) (gm_179 ((xs ((x : Int) + 1).toNat).toInt) ((xs ((x : Int) + 2).toNat).toInt)) from two_W (inv_people I (gs_r _) (gs_r _))) (K := gm_236_1121 L xs (gm_236_18 L xs n) x) k
      rw [if_neg c12]
      by_cases c13 : y = 13
      · rw [if_pos c13, if_pos (by omega), if_pos (by omega), if_pos (by omega), if_pos (by omega)]
        exact lw_tw (show twW s (gm_98 ((xs ((x : Int) + 1).toNat).toInt) ((xs ((x : Int) + 2).toNat).toInt) ((xs ((x : Int) + 3).toNat).toInt) ((xs ((x : Int) + 4).toNat).toInt)) (gm_195 ((xs ((x : Int) + 1).toNat).toInt) ((xs ((x : Int) + 2).toNat).toInt) ((xs ((x : Int) + 3).toNat).toInt) ((xs ((x : Int) + 4).toNat).toInt)) from two_W (inv_share I (gs_r _) (gs_r _) (gs_r _) (gs_r _))) (K := gm_236_1121 L xs (gm_236_18 L xs n) x) k
      rw [if_neg c13]
      by_cases c14 : y = 14
      · rw [if_pos c14, if_pos (by omega), if_pos (by omega), if_pos (by omega)]
        exact lw_tw (show twW s (gm_99 ((xs ((x : Int) + 1).toNat).toInt) ((xs ((x : Int) + 2).toNat).toInt) ((xs ((x : Int) + 3).toNat).toInt)) (gm_185 ((xs ((x : Int) + 1).toNat).toInt) ((xs ((x : Int) + 2).toNat).toInt) ((xs ((x : Int) + 3).toNat).toInt)) from two_W (inv_moved I (gs_r _) (gs_r _) (gs_r _))) (K := gm_236_1121 L xs (gm_236_18 L xs n) x) k
      rw [if_neg c14]
      by_cases c15 : y = 15
      · rw [if_pos c15, if_pos (by omega), if_pos (by omega), if_pos (by omega)]
        exact lw_tw (show twW s (gm_100 ((xs ((x : Int) + 1).toNat).toInt) ((xs ((x : Int) + 2).toNat).toInt) ((xs ((x : Int) + 3).toNat).toInt)) (gm_196 ((xs ((x : Int) + 1).toNat).toInt) ((xs ((x : Int) + 2).toNat).toInt) ((xs ((x : Int) + 3).toNat).toInt)) from two_W (inv_exact I (gs_r _) (gs_r _) (gs_r _))) (K := gm_236_1121 L xs (gm_236_18 L xs n) x) k
      rw [if_neg c15]
      by_cases c16 : y = 16
      · rw [if_pos c16, if_pos (by omega), if_pos (by omega), if_pos (by omega)]
        exact lw_tw (show twW s (gm_101 ((xs ((x : Int) + 1).toNat).toInt) ((xs ((x : Int) + 2).toNat).toInt) ((xs ((x : Int) + 3).toNat).toInt)) (gm_188 ((xs ((x : Int) + 1).toNat).toInt) ((xs ((x : Int) + 2).toNat).toInt) ((xs ((x : Int) + 3).toNat).toInt)) from two_W (inv_coarse I (gs_r _) (gs_r _) (gs_r _))) (K := gm_236_1121 L xs (gm_236_18 L xs n) x) k
      rw [if_neg c16]
      by_cases c17 : y = 17
      · rw [if_pos c17, if_pos (by omega), if_pos (by omega)]
        exact lw_tw (show twW s (gm_102 ((xs ((x : Int) + 1).toNat).toInt) ((xs ((x : Int) + 2).toNat).toInt)) (gm_210 ((xs ((x : Int) + 1).toNat).toInt) ((xs ((x : Int) + 2).toNat).toInt)) from two_W (inv_misfit I (gs_r _) (gs_r _))) (K := gm_236_1121 L xs (gm_236_18 L xs n) x) k
      rw [if_neg c17]
      by_cases c18 : y = 18
      · rw [if_pos c18, if_pos (by omega), if_pos (by omega)]
        exact lw_tw (show twW s (gm_103 ((xs ((x : Int) + 1).toNat).toInt) ((xs ((x : Int) + 2).toNat).toInt)) (gm_189 ((xs ((x : Int) + 1).toNat).toInt) ((xs ((x : Int) + 2).toNat).toInt)) from two_W (inv_byWay I (gs_r _) (gs_r _))) (K := gm_236_1121 L xs (gm_236_18 L xs n) x) k
      rw [if_neg c18]
      by_cases c19 : y = 19
      · rw [if_pos c19, if_pos (by omega), if_pos (by omega)]
        exact lw_tw (show twW s (gm_104 ((xs ((x : Int) + 1).toNat).toInt) ((xs ((x : Int) + 2).toNat).toInt)) (gm_192 ((xs ((x : Int) + 1).toNat).toInt) ((xs ((x : Int) + 2).toNat).toInt)) from two_W (inv_returned I (gs_r _) (gs_r _))) (K := gm_236_1121 L xs (gm_236_18 L xs n) x) k
      rw [if_neg c19]
      by_cases c20 : y = 20
      · rw [if_pos c20, if_pos (by omega)]
        exact lw_tw (show twW s (gm_105 ((xs ((x : Int) + 1).toNat).toInt)) (gm_193 ((xs ((x : Int) + 1).toNat).toInt)) from two_W (inv_astray I (gs_r _))) (K := gm_236_1121 L xs (gm_236_18 L xs n) x) k
      rw [if_neg c20]
      by_cases c21 : y = 21
      · rw [if_pos c21, if_pos (by omega), if_pos (by omega), if_pos (by omega), if_pos (by omega)]
        exact lw_tw (show twW s (gm_106 ((xs ((x : Int) + 1).toNat).toInt) ((xs ((x : Int) + 2).toNat).toInt) ((xs ((x : Int) + 3).toNat).toInt) ((xs ((x : Int) + 4).toNat).toInt)) (gm_199 ((xs ((x : Int) + 1).toNat).toInt) ((xs ((x : Int) + 2).toNat).toInt) ((xs ((x : Int) + 3).toNat).toInt) ((xs ((x : Int) + 4).toNat).toInt)) from two_W (inv_surface I (gs_r _) (gs_r _) (gs_r _) (gs_r _))) (K := gm_236_1121 L xs (gm_236_18 L xs n) x) k
      rw [if_neg c21]
      by_cases c22 : y = 22
      · rw [if_pos c22, if_pos (by omega), if_pos (by omega)]
        exact lw_tw (show twW s (gm_107 ((xs ((x : Int) + 1).toNat).toInt) ((xs ((x : Int) + 2).toNat).toInt)) (gm_201 ((xs ((x : Int) + 1).toNat).toInt) ((xs ((x : Int) + 2).toNat).toInt)) from inv_densestW I (gs_r _) (gs_r _)) (K := gm_236_1121 L xs (gm_236_18 L xs n) x) k
      rw [if_neg c22]
      by_cases c23 : y = 23
      · rw [if_pos c23, if_pos (by omega), if_pos (by omega), if_pos (by omega)]
        exact lw_tw (show twW s (gm_108 ((xs ((x : Int) + 1).toNat).toInt) ((xs ((x : Int) + 2).toNat).toInt) ((xs ((x : Int) + 3).toNat).toInt)) (gm_203 ((xs ((x : Int) + 1).toNat).toInt) ((xs ((x : Int) + 2).toNat).toInt) ((xs ((x : Int) + 3).toNat).toInt)) from inv_denseW I (gs_r _) (gs_r _) (gs_r _)) (K := gm_236_1121 L xs (gm_236_18 L xs n) x) k
      rw [if_neg c23]
      by_cases c24 : y = 24
      · rw [if_pos c24, if_pos (by omega)]
        exact lw_tw (show twW s (gm_109 ((xs ((x : Int) + 1).toNat).toInt)) (gm_204 ((xs ((x : Int) + 1).toNat).toInt)) from inv_offW I (gs_r _)) (K := gm_236_1121 L xs (gm_236_18 L xs n) x) k
      rw [if_neg c24]
      by_cases c25 : y = 25
      · rw [if_pos c25, if_pos (by omega)]
        exact lw_tw (show twW s (gm_110 ((xs ((x : Int) + 1).toNat).toInt)) (gm_223 ((xs ((x : Int) + 1).toNat).toInt)) from two_W (inv_apart I (gs_r _))) (K := gm_236_1121 L xs (gm_236_18 L xs n) x) k
      rw [if_neg c25]
      by_cases c26 : y = 26
      · rw [if_pos c26, if_pos (by omega)]
        exact lw_tw (show twW s (gm_111 ((xs ((x : Int) + 1).toNat).toInt)) (gm_226 ((xs ((x : Int) + 1).toNat).toInt)) from two_W (inv_count I (gs_r _))) (K := gm_236_1121 L xs (gm_236_18 L xs n) x) k
      rw [if_neg c26]
      by_cases c27 : y = 27
      · rw [if_pos c27, if_pos (by omega), if_pos (by omega)]
        exact lw_tw (show twW s (gm_112 ((xs ((x : Int) + 1).toNat).toInt) ((xs ((x : Int) + 2).toNat).toInt)) (gm_227 ((xs ((x : Int) + 1).toNat).toInt) ((xs ((x : Int) + 2).toNat).toInt)) from two_W (inv_weight I (gs_r _) (gs_r _))) (K := gm_236_1121 L xs (gm_236_18 L xs n) x) k
      rw [if_neg c27]
      by_cases c28 : y = 28
      · rw [if_pos c28, if_pos (by omega)]
        exact lw_tw (show twW s (gm_113 ((xs ((x : Int) + 1).toNat).toInt)) (gm_228 ((xs ((x : Int) + 1).toNat).toInt)) from two_W (inv_districtOf I (gs_r _))) (K := gm_236_1121 L xs (gm_236_18 L xs n) x) k
      rw [if_neg c28]
      exact k s I
theorem run_law {L : Nat} {xs : Nat → Int32} (hL : L ≤ 3072) : ∃ τ : fx_S, fx_E (some (L, xs)) 236 100 18 [some (.retAddr 0), some (.ref 0), some (.ref 215), some (.int 0)] [] (gx gs0) (some (.int 1)) τ := by
  obtain ⟨z, h1⟩ := sl_law (xs := xs) hL 600 0 gs0 (by omega) (by omega) inv_start
  have h2 := gf_236_18 (show L ≤ 100000 by omega) 600 0 0 rfl gs0 (gx gs0) rfl (true, z) h1
  exact ⟨_, fe_236_18 (by decide) 600 0 (gx gs0) _ h2⟩
