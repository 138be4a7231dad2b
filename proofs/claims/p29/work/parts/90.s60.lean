/-! THE CLASS: the moves made ready -/
theorem rd_2 {s : gx_S} {f : Nat → Int} {R C g a D : Nat} {what : Int} (m : MR s 1 f R C) (M : MP f R C) (h7 : f 2 = 7) (hg : g < 3) (ha : ga a) (G : GGD s f R C g a D) (l1 : D / 1 % 2 = 1) : ∃ (D' : Nat) (u : gx_S), gm_19_20 a what s = gm_19_59 a what u ∧ KG a s u ∧ GGD u f R C g a D' ∧ D' / 1 % 2 = 1 ∧ D' / 2 % 2 = 1 := by
  obtain ⟨a71, a215, ho, t3, t12, t21, t30, t39⟩ := id ha
  obtain ⟨hD, e8, e9, g1, g2, g4, g8, g16, g32⟩ := G
  obtain ⟨D', t, q1, q2, q3, q4, q5, q6, q7⟩ := sp_21 (w := 2) ho hD (by decide) e8
  have q1 : gm_21 a 2 s = some (decide (¬ D / 2 % 2 = 1), t) := q1
  have n1 := q7 1 (by decide) (by decide)
  have n4 := q7 4 (by decide) (by decide)
  have n8 := q7 8 (by decide) (by decide)
  have n16 := q7 16 (by decide) (by decide)
  have n32 := q7 32 (by decide) (by decide)
  have to : ∀ k j, ¬ (k = a ∧ j = 8) → t.1 k j = s.1 k j := q3
  obtain ⟨li1, li2, li3⟩ := g1 l1
  unfold gm_19_20
  rw [q1, Option.bind_some]
  by_cases z : D / 2 % 2 = 1
  · rw [decide_eq_false (fun h => h z), if_pos (show gb (false, t).1 = 0 from (by decide : gb false = 0))]
    refine ⟨D', t, rfl, ⟨q2, fun k j h1 h2 => to k j (by omega)⟩, ⟨q5, q4, (to a 9 (by omega)).trans e9, fun _ => ⟨fun z hz => (to _ _ (by omega)).trans (li1 z hz), (to _ _ (by omega)).trans li2, (to _ _ (by omega)).trans li3⟩, fun h => ?_, fun h => ?_, fun h => ?_, fun h => ?_, fun h => ?_⟩, n1.trans l1, q6⟩
    · exact ⟨n1.trans l1, TM_o (fun k j h1 h2 => to k j (by omega)) (g2 z).2⟩
    · exact TR_o (fun k j h1 h2 => to k j (by omega)) (g4 (n4 ▸ h))
    · exact ⟨n1.trans l1, TR_o (fun k j h1 h2 => to k j (by omega)) (g8 (n8 ▸ h)).2⟩
    · exact TR_o (fun k j h1 h2 => to k j (by omega)) (g16 (n16 ▸ h))
    · obtain ⟨x1, x2⟩ := g32 (n32 ▸ h)
      exact ⟨q6, fun k hk => by rw [to _ _ (by omega)]; exact x2 k hk⟩
  · rw [decide_eq_true z, if_neg (show ¬ gb (true, t).1 = 0 from (by decide : ¬ gb true = 0))]
    have mt : MR t 1 f R C := MR_o (fun k j h1 h2 => to k j (by omega)) m
    obtain ⟨u, w, u1, u2, u3, u4, u5, u6⟩ := sp_23 mt M h7 hg a71 ho t3 ((to a 9 (by omega)).trans e9) fun z hz => (to _ _ (by omega)).trans (li1 z hz)
    have wo : ∀ k j, a ≤ k → ¬ (k = a ∧ j = 8) → ¬ (a + 4 ≤ k ∧ k ≤ a + 11) → w.1 k j = s.1 k j := fun k j h1 h2 h3 => (u6 k j (by omega) (by omega) h3).trans (to k j h2)
    have w8 : w.1 a 8 = D' := (u6 a 8 (by omega) (by omega) (by omega)).trans q4
    have m3 := M.2.2.1
    have st : ((gm_23 a (true, t).2).bind fun q5 => if (-2147483648 ≤ (q5.1 1 7) ∧ (q5.1 1 7) ≤ 2147483647) then (if ¬ (q5.1 1 7) = 1 then gm_19_56 a what (a + 3) 0 q5 else gm_19_56 a what (a + 3) 1 q5) else none) = gm_19_59 a what w := by
      show ((gm_23 a t).bind _) = _
      rw [u1, Option.bind_some, u2, if_pos (by omega)]
      unfold gm_19_56
      rcases m3 with e | e
      · rw [e] at u3
        rw [if_pos (by rw [e]; decide), u3, Option.bind_some]
      · rw [e] at u3
        rw [if_neg (by rw [e]; decide), u3, Option.bind_some]
    rw [st]
    refine ⟨D', w, rfl, ⟨u5.trans q2, fun k j h1 h2 => (u6 k j (by omega) (by omega) (by omega)).trans (to k j (by omega))⟩, ⟨q5, w8, (wo a 9 (by omega) (by omega) (by omega)).trans e9, fun _ => ⟨fun z hz => (wo _ _ (by omega) (by omega) (by omega)).trans (li1 z hz), (wo _ _ (by omega) (by omega) (by omega)).trans li2, (wo _ _ (by omega) (by omega) (by omega)).trans li3⟩, fun _ => ⟨n1.trans l1, u4⟩, fun h => ?_, fun h => ?_, fun h => ?_, fun h => ?_⟩, n1.trans l1, q6⟩
    · exact TR_o (fun k j h1 h2 => wo k j (by omega) (by omega) (by omega)) (g4 (n4 ▸ h))
    · exact ⟨n1.trans l1, TR_o (fun k j h1 h2 => wo k j (by omega) (by omega) (by omega)) (g8 (n8 ▸ h)).2⟩
    · exact TR_o (fun k j h1 h2 => wo k j (by omega) (by omega) (by omega)) (g16 (n16 ▸ h))
    · exact absurd (g32 (n32 ▸ h)).1 z
