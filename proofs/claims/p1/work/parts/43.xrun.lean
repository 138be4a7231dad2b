theorem iv_γs_len {ρ : Nat → Int32} : ∀ {a b : List Value}, iv_γs ρ a b → b.length = a.length
  | [], [], _ => rfl
  | _ :: _, _ :: _, h => by rw [List.length_cons, List.length_cons, iv_γs_len h.2]
  | [], _ :: _, h => absurd h (fun q => q)
  | _ :: _, [], h => absurd h (fun q => q)
theorem iv_γs_take {ρ : Nat → Int32} : ∀ (n : Nat) {a b : List Value}, iv_γs ρ a b → iv_γs ρ (a.take n) (b.take n)
  | 0, _, _, _ => trivial
  | _ + 1, [], [], _ => trivial
  | n + 1, _ :: _, _ :: _, h => ⟨h.1, iv_γs_take n h.2⟩
  | _ + 1, [], _ :: _, h => absurd h (fun q => q)
  | _ + 1, _ :: _, [], h => absurd h (fun q => q)
theorem iv_γs_drop {ρ : Nat → Int32} : ∀ (n : Nat) {a b : List Value}, iv_γs ρ a b → iv_γs ρ (a.drop n) (b.drop n)
  | 0, _, _, h => h
  | _ + 1, [], [], _ => trivial
  | n + 1, _ :: _, _ :: _, h => iv_γs_drop n h.2
  | _ + 1, [], _ :: _, h => absurd h (fun q => q)
  | _ + 1, _ :: _, [], h => absurd h (fun q => q)
theorem iv_γs_app {ρ : Nat → Int32} : ∀ {a b c d : List Value}, iv_γs ρ a b → iv_γs ρ c d → iv_γs ρ (a ++ c) (b ++ d)
  | [], [], _, _, _, h => h
  | _ :: _, _ :: _, _, _, h, g => ⟨h.1, iv_γs_app h.2 g⟩
  | [], _ :: _, _, _, h, _ => absurd h (fun q => q)
  | _ :: _, [], _, _, h, _ => absurd h (fun q => q)
theorem iv_γs_rev {ρ : Nat → Int32} : ∀ {a b : List Value}, iv_γs ρ a b → iv_γs ρ a.reverse b.reverse
  | [], [], _ => trivial
  | _ :: _, _ :: _, h => by
    rw [List.reverse_cons, List.reverse_cons]
    exact iv_γs_app (iv_γs_rev h.2) ⟨h.1, trivial⟩
  | [], _ :: _, h => absurd h (fun q => q)
  | _ :: _, [], h => absurd h (fun q => q)
theorem iv_γs_nr {ρ : Nat → Int32} : ∀ {a b : List Value}, iv_γs ρ a b → iv_nr a = true → iv_nr b = true
  | [], [], _, _ => rfl
  | a :: as, c :: cs, h, g => by
    unfold iv_nr at g ⊢
    rw [List.all_cons, Bool.and_eq_true] at g ⊢
    refine ⟨?_, iv_γs_nr h.2 g.2⟩
    have g1 := g.1
    have h1 := h.1
    cases a with
    | float b => obtain ⟨x, rfl, -⟩ := h1; rfl
    | double b => have h1 : c = _ := h1; subst h1; rfl
    | retAddr k => cases g1
    | _ => have h1 : c = _ := h1; subst h1; rfl
  | [], _ :: _, h, _ => absurd h (fun q => q)
  | _ :: _, [], h, _ => absurd h (fun q => q)
theorem iv_γs_exl {ρ : Nat → Int32} : ∀ {a b : List Value}, iv_γs ρ a b → (iv_ex b).length = (iv_ex a).length
  | [], [], _ => rfl
  | _ :: _, _ :: _, h => by
    rw [iv_ex_cons, iv_ex_cons, iv_γ_cat h.1]
    split
    · rw [List.length_cons, List.length_cons, List.length_cons, List.length_cons, iv_γs_exl h.2]
    · rw [List.length_cons, List.length_cons, iv_γs_exl h.2]
  | [], _ :: _, h => absurd h (fun q => q)
  | _ :: _, [], h => absurd h (fun q => q)
/-- .. pointwise, as locals -/
def iv_γp (ρ : Nat → Int32) : iv_L → iv_L → Prop
  | [], [] => True
  | a :: as, c :: cs => iv_γo ρ a c ∧ iv_γp ρ as cs
  | _, _ => False
theorem iv_γp_l {ρ : Nat → Int32} : ∀ {a b : iv_L}, iv_γp ρ a b → iv_γl ρ a b
  | [], [], _ => ⟨rfl, fun i x y hx => by simp at hx⟩
  | a :: as, c :: cs, h => by
    have g := iv_γp_l h.2
    refine ⟨by rw [List.length_cons, List.length_cons, g.1], fun i x y hx hy => ?_⟩
    cases i with
    | zero => cases hx; cases hy; exact h.1
    | succ i => exact g.2 i x y (by simpa using hx) (by simpa using hy)
  | [], _ :: _, h => absurd h (fun q => q)
  | _ :: _, [], h => absurd h (fun q => q)
theorem iv_γp_app {ρ : Nat → Int32} : ∀ {a b c d : iv_L}, iv_γp ρ a b → iv_γp ρ c d → iv_γp ρ (a ++ c) (b ++ d)
  | [], [], _, _, _, h => h
  | _ :: _, _ :: _, _, _, h, g => ⟨h.1, iv_γp_app h.2 g⟩
  | [], _ :: _, _, _, h, _ => absurd h (fun q => q)
  | _ :: _, [], _, _, h, _ => absurd h (fun q => q)
theorem iv_γp_rep (ρ : Nat → Int32) : ∀ n : Nat, iv_γp ρ (List.replicate n none) (List.replicate n none)
  | 0 => trivial
  | n + 1 => ⟨trivial, iv_γp_rep ρ n⟩
theorem iv_γp_ex {ρ : Nat → Int32} : ∀ {a b : List Value}, iv_γs ρ a b → iv_γp ρ (iv_ex a) (iv_ex b)
  | [], [], _ => trivial
  | _ :: _, _ :: _, h => by
    rw [iv_ex_cons, iv_ex_cons, iv_γ_cat h.1]
    split
    · exact ⟨h.1, trivial, iv_γp_ex h.2⟩
    · exact ⟨h.1, iv_γp_ex h.2⟩
  | [], _ :: _, h => absurd h (fun q => q)
  | _ :: _, [], h => absurd h (fun q => q)
theorem iv_γl_en {ρ : Nat → Int32} {a b : List Value} (mj : Nat) (h : iv_γs ρ a b) : iv_γl ρ (iv_en mj a) (iv_en mj b) := by
  unfold iv_en
  rw [iv_γs_exl h]
  exact iv_γp_l (iv_γp_app (iv_γp_ex h) (iv_γp_rep ρ _))
theorem iv_ca_m {ρ : Nat → Int32} {mi : Nat} {op : Jvm.ClassFile.Instr} {st st' : List Value} {h h' : iv_H} {c : Nat × List Value × List Value} (e : iv_ca mi op st h = some c) (gs : iv_γs ρ st st') (gh : iv_γh h h') : ∃ c', iv_ca mi op st' h' = some c' ∧ c'.1 = c.1 ∧ iv_γs ρ c.2.1 c'.2.1 ∧ iv_γs ρ c.2.2 c'.2.2 := by
  unfold iv_ca at e
  split at e
  · cases e
  · rename_i q hq
    split at e
    · cases e
    · rename_i mj hmj
      split at e
      · rename_i hc
        have gt := iv_γs_take (iv_na mj) gs
        have gd := iv_γs_drop (iv_na mj) gs
        have gr := iv_γs_rev gt
        have hc' : (st'.take (iv_na mj)).length = iv_na mj ∧ iv_nr (st'.take (iv_na mj)) = true ∧ (iv_ex (st'.take (iv_na mj)).reverse).length + 1 ≤ iv_mx mj + iv_rx mj := ⟨(iv_γs_len gt).trans hc.1, iv_γs_nr gt hc.2.1, by rw [iv_γs_exl gr]; exact hc.2.2⟩
        have red : iv_ca mi op st' h' = (if q.1 = 2 then (if iv_rc mj = none ∧ iv_ini mj = false ∧ ((st'.drop (iv_na mj)).map fun v => v.category).sum ≤ 8 then some (mj, (st'.take (iv_na mj)).reverse, st'.drop (iv_na mj)) else none)
          else iv_r (st'.drop (iv_na mj)) fun b rest => match iv_rc mj with
            | none => none
            | some ci => if iv_oc h' b ci = true ∧ (rest.map fun v => v.category).sum ≤ 8 ∧ iv_ini mj = decide (q.1 = 1) ∧ (q.1 = 1 ∨ iv_nn (iv_kf mi) q.2 = none) then some (mj, .ref b :: (st'.take (iv_na mj)).reverse, rest) else none) := by
          unfold iv_ca
          rw [hq]
          dsimp only
          rw [hmj]
          dsimp only
          rw [if_pos hc']
          rfl
        rw [red]
        split at e
        · rename_i h2
          rw [if_pos h2]
          split at e
          · rename_i h3
            cases e
            rw [if_pos ⟨h3.1, h3.2.1, by rw [iv_γs_cats gd]; exact h3.2.2⟩]
            exact ⟨_, rfl, rfl, gr, gd⟩
          · cases e
        · rename_i h2
          rw [if_neg h2]
          obtain ⟨b, rest, hb, e1⟩ := iv_r_s e
          rw [hb] at gd
          obtain ⟨r1, hr1, gd1⟩ := iv_γs_r gd
          rw [hr1]
          show ∃ c', (match iv_rc mj with
            | none => none
            | some ci => if iv_oc h' b ci = true ∧ (r1.map fun v => v.category).sum ≤ 8 ∧ iv_ini mj = decide (q.1 = 1) ∧ (q.1 = 1 ∨ iv_nn (iv_kf mi) q.2 = none) then some (mj, .ref b :: (st'.take (iv_na mj)).reverse, r1) else none) = some c' ∧ _
          split at e1
          · cases e1
          · rename_i ci hci
            split at e1
            · rename_i h3
              cases e1
              obtain ⟨fs, hfs⟩ := iv_oc_s h3.1
              have h4 : iv_oc h' b ci = true := by unfold iv_oc; rw [iv_γh_o gh hfs]; exact decide_eq_true rfl
              rw [hci]
              dsimp only
              rw [if_pos ⟨h4, by rw [iv_γs_cats gd1]; exact h3.2.1, h3.2.2⟩]
              exact ⟨_, rfl, rfl, ⟨rfl, gr⟩, gd1⟩
            · cases e1
      · cases e
theorem iv_ca_0 {mi : Nat} {op : Jvm.ClassFile.Instr} (e : iv_cm0 mi op = true) (st : List Value) (h : iv_H) : iv_ca mi op st h = none := by
  unfold iv_cm0 at e
  unfold iv_ca
  split at e
  · rename_i hq
    rw [hq]
  · rename_i q hq
    rw [hq]
    dsimp only
    rw [Option.isNone_iff_eq_none.mp e]
theorem iv_re_m {ρ : Nat → Int32} {mi : Nat} {op : Jvm.ClassFile.Instr} {st st' : List Value} {v : Option Value} (e : iv_re mi op st = some v) (gs : iv_γs ρ st st') : iv_re mi op st' = some v ∧ iv_γs ρ v.toList v.toList := by
  rcases iv_re_v e with ⟨rfl, rfl, rfl, hrt⟩ | ⟨x, ty, rfl, rfl, rfl, hrt, hok⟩ | ⟨x, rfl, rfl, rfl, hrt⟩ | ⟨x, ty, rfl, rfl, rfl, hrt, hk⟩
  · rw [iv_γs_n gs]; exact ⟨e, trivial⟩
  · obtain ⟨r1, rfl, g1⟩ := iv_γs_i gs
    rw [iv_γs_n g1]; exact ⟨e, rfl, trivial⟩
  · obtain ⟨r1, rfl, g1⟩ := iv_γs_j gs
    rw [iv_γs_n g1]; exact ⟨e, rfl, trivial⟩
  · obtain ⟨r1, rfl, g1⟩ := iv_γs_r gs
    rw [iv_γs_n g1]; exact ⟨e, rfl, trivial⟩
theorem iv_γc_z {a c : iv_C} (h : iv_γc a c) : iv_cz c = iv_cz a := by
  rcases h with ⟨-, rfl⟩ | ⟨t, n, f, g, rfl, rfl⟩
  · rfl
  · rfl
theorem iv_γh_set {h h' : iv_H} (gh : iv_γh h h') (k : Nat) {a c : iv_C} (g : iv_γc a c) : iv_γh (h.set k a) (h'.set k c) := by
  refine ⟨by rw [List.length_set, List.length_set]; exact gh.1, fun i x hx => ?_⟩
  rw [List.getElem?_set] at hx ⊢
  by_cases e : k = i
  · rw [if_pos e] at hx ⊢
    subst e
    split at hx
    · rename_i hl
      cases hx
      exact ⟨c, by rw [if_pos (by rw [← gh.1]; exact hl)], g⟩
    · cases hx
  · rw [if_neg e] at hx ⊢
    exact gh.2 i x hx
theorem iv_γh_push {h h' : iv_H} (gh : iv_γh h h') {a c : iv_C} (g : iv_γc a c) : iv_γh (h ++ [a]) (h' ++ [c]) := by
  refine ⟨by simp [gh.1], fun i x hx => ?_⟩
  by_cases hl : i < h.length
  · rw [List.getElem?_append_left hl] at hx
    rw [List.getElem?_append_left (by rw [← gh.1]; exact hl)]
    exact gh.2 i x hx
  · rw [List.getElem?_append_right (by omega)] at hx
    rw [List.getElem?_append_right (by rw [← gh.1]; omega), ← gh.1]
    have hz : i - h.length < 1 := (List.getElem?_eq_some_iff.mp hx).1
    rw [show i - h.length = 0 by omega] at hx ⊢
    cases hx
    exact ⟨c, rfl, g⟩
def iv_fok (f : iv_F) : Prop := ∀ (o : Option Nat) (c : iv_C), f = some (o, c) → iv_ua c = false
theorem iv_ef_m {h h' h1 : iv_H} {f f' : iv_F} (e : iv_ef h f = some h1) (gf : iv_γf f f') (gh : iv_γh h h') (hf : iv_hf h) : ∃ h2, iv_ef h' f' = some h2 ∧ iv_γh h1 h2 ∧ iv_hf h1 := by
  have hset : ∀ (k : Nat) (c c' : iv_C), iv_γc c c' → (∀ o, c = .inl o → ∀ v ∈ o.2, iv_fv v = true) → iv_ef h (some (some k, c)) = some h1 → ∃ h2, iv_ef h' (some (some k, c')) = some h2 ∧ iv_γh h1 h2 ∧ iv_hf h1 := by
    intro k c c' g gv e
    unfold iv_ef at e
    dsimp only at e
    split at e
    · rename_i hz
      cases e
      refine ⟨h'.set k c', ?_, iv_γh_set gh k g, fun i o ho v hv => ?_⟩
      · unfold iv_ef
        dsimp only
        rw [if_pos]
        cases ha : h[k]? with
        | none => rw [ha] at hz; cases hz
        | some a =>
          obtain ⟨d, hd, gd⟩ := gh.2 k a ha
          rw [ha] at hz
          rw [hd]
          show some (iv_cz d) = some (iv_cz c')
          rw [iv_γc_z gd, iv_γc_z g]
          exact hz
      · rw [List.getElem?_set] at ho
        split at ho
        · split at ho
          · exact gv o (Option.some.inj ho) v hv
          · cases ho
        · exact hf i o ho v hv
    · cases e
  rcases gf with ⟨hb, rfl⟩ | ⟨k, t, n, q, g, rfl, rfl⟩
  · match f, e, hb with
      | none, e, _ =>
        cases e
        exact ⟨h', rfl, gh, hf⟩
      | some (some k, .inl o), e, hb => exact hset k _ _ (Or.inl ⟨rfl, rfl⟩) (fun o' ho v hv => by cases ho; exact List.all_eq_true.mp hb v hv) e
      | some (some k, .inr a), e, hb => exact hset k _ _ (Or.inl ⟨by simpa [iv_feb] using hb, rfl⟩) (fun o' ho => by cases ho) e
      | some (none, .inl o), e, hb =>
        cases e
        refine ⟨_, rfl, iv_γh_push gh (Or.inl ⟨rfl, rfl⟩), fun i o' ho v hv => ?_⟩
        by_cases hl : i < h.length
        · rw [List.getElem?_append_left hl] at ho
          exact hf i o' ho v hv
        · rw [List.getElem?_append_right (by omega)] at ho
          have hz : i - h.length < 1 := (List.getElem?_eq_some_iff.mp ho).1
          rw [show i - h.length = 0 by omega] at ho
          cases ho
          exact List.all_eq_true.mp hb v hv
      | some (none, .inr a), e, hb =>
        cases e
        refine ⟨_, rfl, iv_γh_push gh (Or.inl ⟨by simpa [iv_feb] using hb, rfl⟩), fun i o' ho v hv => ?_⟩
        by_cases hl : i < h.length
        · rw [List.getElem?_append_left hl] at ho
          exact hf i o' ho v hv
        · rw [List.getElem?_append_right (by omega)] at ho
          have hz : i - h.length < 1 := (List.getElem?_eq_some_iff.mp ho).1
          rw [show i - h.length = 0 by omega] at ho
          cases ho
  · exact hset k _ _ (Or.inr ⟨t, n, q, g, rfl, rfl⟩) (fun o' ho => by cases ho) e
theorem iv_x_s {ρ : Nat → Int32} {z : iv_Z} {scr : Option (Nat × Int32)} {V : iv_V} {mi pc : Nat} {op : Jvm.ClassFile.Instr} {al al' : iv_L} {st st' : List Value} {h h' : iv_H} {l : List (iv_V × iv_O)} (e : iv_x scr V mi pc op al st h = some l) (hz : ∀ c, scr = some c → z = some (c.1, ρ) ∧ (c.1 = 6 → ρ 0 &&& 31 = c.2)) (hV : iv_sat ρ V) (gl : iv_γl ρ al al') (gs : iv_γs ρ st st') (gh : iv_γh h h') (hf : iv_hf h) : ∃ o', iv_op z mi pc op al' st' h' = some o' ∧ ∃ q ∈ l, iv_sat ρ q.1 ∧ iv_R ρ q.2 o' := by
  unfold iv_x at e
  split at e
  · rename_i l2 hl2
    cases e
    exact iv_xs_s hl2 hz hV gl gs gh
  · obtain ⟨o, h1, h2⟩ := Option.bind_eq_some_iff.mp e
    split at h2
    · rename_i hb
      cases h2
      obtain ⟨o', a1, a2, a3, a4, a5⟩ := iv_cm (z := z) h1 gl gs gh hf
      exact ⟨o', a1, _, List.mem_singleton.mpr rfl, hV, a2, a3, a4, Or.inl ⟨hb, a5.symm⟩⟩
    · cases h2
theorem iv_xr_s : ∀ (n : Nat) (scr : Option (Nat × Int32)) (d mi : Nat) (V : iv_V) (S : iv_S) (l : List (iv_V × Option Value × iv_H)), iv_xr n scr d mi V S = some l → ∀ (ρ : Nat → Int32) (z : iv_Z) (S' : iv_S), (∀ c, scr = some c → z = some (c.1, ρ) ∧ (c.1 = 6 → ρ 0 &&& 31 = c.2)) → iv_sat ρ V → S'.1 = S.1 → iv_γl ρ S.2.1 S'.2.1 → iv_γs ρ S.2.2.1 S'.2.2.1 → iv_γh S.2.2.2 S'.2.2.2 → iv_hf S.2.2.2 →
    ∃ q ∈ l, iv_sat ρ q.1 ∧ ∃ (r : Option Value × iv_H) (n' : Nat), iv_run z n' d mi S' = some r ∧ r.1 = q.2.1 ∧ iv_γs ρ q.2.1.toList q.2.1.toList ∧ iv_γh q.2.2 r.2 ∧ iv_hf q.2.2 := by
  intro n
  induction n with
  | zero => intro scr d mi V S l h; cases h
  | succ n ih =>
    intro scr d mi V S l h ρ z S' hz hV h1 gl gs gh hf
    unfold iv_xr at h
    split at h
    · cases h
    · rename_i op hcd
      split at h
      · rename_i hret
        obtain ⟨v, hv, hl⟩ := Option.map_eq_some_iff.mp h
        cases hl
        obtain ⟨a1, a2⟩ := iv_re_m hv gs
        refine ⟨_, List.mem_singleton.mpr rfl, hV, (v, S'.2.2.2), 1, ?_, rfl, a2, gh, hf⟩
        unfold iv_run
        rw [h1, hcd]
        dsimp only
        rw [if_pos hret, a1]
        rfl
      · rename_i hret
        split at h
        · rename_i c hca
          obtain ⟨c', b1, b2, b3, b4⟩ := iv_ca_m hca gs gh
          split at h
          · cases h
          · rename_i d'
            split at h
            · rename_i h1s hsum
              obtain ⟨hm, k, a, b, fs, q, u, hvs, hk, f0, f1, f2, ha, hb, qa, ub, ta, tb, rfl⟩ := iv_sum_s hsum
              obtain ⟨fa, ha'⟩ := iv_ak_s ha gh
              obtain ⟨fb, hb'⟩ := iv_ak_s hb gh
              rw [qa] at ha'
              rw [ub] at hb'
              have hvs' : c'.2.1 = [.ref k] := by
                rw [hvs] at b3
                obtain ⟨r1, hr1, g1⟩ := iv_γs_r b3
                rw [hr1, iv_γs_n g1]
              obtain ⟨g', hg'⟩ := iv_rem (z := none) (d := d') (iv_γh_o gh hk) f0 f1 f2 ha' hb' ta tb
              have gh2 : iv_γh ((S.2.2.2.set b (.inr (u.1, 2720, .inr (.inr (.inl (fun _ => 0)))))).set k (.inl (10, fs.set 2 (.int 1)))) ((S'.2.2.2.set b (.inr (u.1, 2720, .inl g'))).set k (.inl (10, fs.set 2 (.int 1)))) := iv_γh_set (iv_γh_set gh b (Or.inr ⟨u.1, 2720, _, g', rfl, rfl⟩)) k (Or.inl ⟨rfl, rfl⟩)
              have hf2 : iv_hf ((S.2.2.2.set b (.inr (u.1, 2720, .inr (.inr (.inl (fun _ => 0)))))).set k (.inl (10, fs.set 2 (.int 1)))) := by
                intro i o ho v hv
                rw [List.getElem?_set] at ho
                split at ho
                · split at ho
                  · have ho := Option.some.inj ho
                    cases ho
                    rcases List.mem_or_eq_of_mem_set hv with hv | rfl
                    · exact hf k _ hk v hv
                    · rfl
                  · cases ho
                · rw [List.getElem?_set] at ho
                  split at ho
                  · split at ho <;> cases ho
                  · exact hf i o ho v hv
              obtain ⟨q2, n1, n2, r2, nn, j1, j2, j3, j4, j5⟩ := ih scr (d' + 1) mi V _ l h ρ z (S'.1 + 3, S'.2.1, c'.2.2, (S'.2.2.2.set b (.inr (u.1, 2720, .inl g'))).set k (.inl (10, fs.set 2 (.int 1)))) hz hV (by show S'.1 + 3 = S.1 + 3; rw [h1]) gl b4 gh2 hf2
              refine ⟨q2, n1, n2, r2, max 6137 nn + 1, ?_, j2, j3, j4, j5⟩
              have k1 := iv_run_up hg' (Nat.le_max_left 6137 nn)
              have k2 := iv_run_up j1 (Nat.le_max_right 6137 nn)
              unfold iv_run
              rw [h1, hcd]
              dsimp only
              rw [if_neg hret, b1]
              dsimp only
              rw [b2, hvs', hm, k1]
              dsimp only
              rw [h1] at k2
              exact k2
            · split at h
              · cases h
              · rename_i l1 hl1
                obtain ⟨q, m1, m2, r1, nn1, k1, k2, k3, k4, k5⟩ := ih none d' c.1 V _ l1 hl1 ρ none (0, iv_en c.1 c'.2.1, [], S'.2.2.2) (fun c hc => by cases hc) hV rfl (iv_γl_en c.1 b3) trivial gh hf
                obtain ⟨x, x1, x2⟩ := iv_bd_s _ _ h q m1
                obtain ⟨q2, n1, n2, r2, nn2, j1, j2, j3, j4, j5⟩ := ih scr (d' + 1) mi q.1 _ x x1 ρ z (S'.1 + 3, S'.2.1, r1.1.toList ++ c'.2.2, r1.2) hz m2 (by show S'.1 + 3 = S.1 + 3; rw [h1]) gl (by rw [k2]; exact iv_γs_app k3 b4) k4 k5
                refine ⟨q2, x2 q2 n1, n2, r2, max nn1 nn2 + 1, ?_, j2, j3, j4, j5⟩
                have k1 := iv_run_up k1 (Nat.le_max_left nn1 nn2)
                have j1 := iv_run_up j1 (Nat.le_max_right nn1 nn2)
                unfold iv_run
                rw [h1, hcd]
                dsimp only
                rw [if_neg hret, b1]
                dsimp only
                rw [b2, k1]
                dsimp only
                rw [h1] at j1
                exact j1
        · rename_i hca
          split at h
          · cases h
          · rename_i hc0
            have hc0 : iv_cm0 mi op = true := by simpa using hc0
            split at h
            · cases h
            · rename_i l1 hl1
              obtain ⟨o', a1, q, m1, m2, a2, a3, a4, a5⟩ := iv_x_s (z := z) hl1 hz hV gl gs gh hf
              obtain ⟨x, x1, x2⟩ := iv_bd_s _ _ h q m1
              split at x1
              · cases x1
              · rename_i h2 hef
                obtain ⟨h3, e1, e2, e3⟩ := iv_ef_m hef a5 gh hf
                obtain ⟨q2, n1, n2, r2, nn, j1, j2, j3, j4, j5⟩ := ih scr d mi q.1 _ x x1 ρ z (o'.1, o'.2.1, o'.2.2.1, h3) hz m2 a2 a3 a4 e2 e3
                refine ⟨q2, x2 q2 n1, n2, r2, nn + 1, ?_, j2, j3, j4, j5⟩
                unfold iv_run
                rw [h1, hcd]
                dsimp only
                rw [if_neg hret, iv_ca_0 hc0]
                dsimp only
                rw [a1]
                dsimp only
                rw [e1]
                exact j1
