/-! THE RUNS OVER UNKNOWN INTS TELL THE RUNS -/
def iv_γf (a c : iv_F) : Prop := (iv_feb a = true ∧ a = c) ∨ ∃ (k t n : Nat) (f : Nat → UInt32) (g : Nat → Int32), a = some (some k, .inr (t, n, .inr (.inr (.inl f)))) ∧ c = some (some k, .inr (t, n, .inl g))
def iv_R (ρ : Nat → Int32) (o o' : iv_O) : Prop := o'.1 = o.1 ∧ iv_γl ρ o.2.1 o'.2.1 ∧ iv_γs ρ o.2.2.1 o'.2.2.1 ∧ iv_γf o.2.2.2 o'.2.2.2
theorem iv_γ_u (ρ : Nat → Int32) (x : Int32) : iv_γ ρ iv_U (.int x) := ⟨x, rfl, fun h => absurd h (by decide)⟩
theorem iv_γs_f {ρ : Nat → Int32} {b : UInt32} {r st : List Value} (h : iv_γs ρ (.float b :: r) st) : ∃ x r', st = .int x :: r' ∧ (b.toNat < 6 → x = ρ b.toNat) ∧ iv_γs ρ r r' := by
  obtain ⟨c, r', rfl, h1, h2⟩ := iv_γs_c h
  obtain ⟨x, rfl, h3⟩ := h1
  exact ⟨x, r', rfl, h3, h2⟩
theorem iv_γs_d {ρ : Nat → Int32} {b : UInt64} {r st : List Value} (h : iv_γs ρ (.double b :: r) st) : ∃ r', st = .long (ρ b.toNat).toInt64 :: r' ∧ iv_γs ρ r r' := by
  obtain ⟨c, r', rfl, h1, h2⟩ := iv_γs_c h
  have h1 : c = _ := h1
  subst h1
  exact ⟨r', rfl, h2⟩
theorem iv_xl_s {ρ : Nat → Int32} {V : iv_V} {al al' : iv_L} {i p : Nat} {st st' : List Value} {l : List (iv_V × iv_O)} (e : iv_xl V al i p st = some l) (hV : iv_sat ρ V) (gl : iv_γl ρ al al') (gs : iv_γs ρ st st') : ∃ x, al'[i]? = some (some (.int x)) ∧ ∃ q ∈ l, iv_sat ρ q.1 ∧ iv_R ρ q.2 (p, al', .int x :: st', none) := by
  unfold iv_xl at e
  split at e
  · rename_i b hb
    obtain ⟨c, b1, b2⟩ := iv_γl_get gl hb
    obtain ⟨x, rfl, b3⟩ := b2
    refine ⟨x, b1, ?_⟩
    split at e
    · rename_i hc
      cases e
      obtain ⟨g1, g2⟩ := iv_iv_s hV b.toNat
      refine ⟨_, List.mem_singleton.mpr rfl, hV, rfl, gl, ⟨?_, gs⟩, Or.inl ⟨rfl, rfl⟩⟩
      show Value.int x = Value.int (Int32.ofInt (iv_iv V b.toNat).1)
      rw [b3 hc.1, show (iv_iv V b.toNat).1 = (ρ b.toNat).toInt by omega, Int32.ofInt_toInt]
    · cases e
      exact ⟨_, List.mem_singleton.mpr rfl, hV, rfl, gl, ⟨⟨x, rfl, b3⟩, gs⟩, Or.inl ⟨rfl, rfl⟩⟩
  · cases e
theorem iv_xll_s {ρ : Nat → Int32} {V : iv_V} {al al' : iv_L} {i p : Nat} {st st' : List Value} {l : List (iv_V × iv_O)} (e : iv_xll V al i p st = some l) (hV : iv_sat ρ V) (gl : iv_γl ρ al al') (gs : iv_γs ρ st st') : ∃ x, al'[i]? = some (some (.long x)) ∧ ∃ q ∈ l, iv_sat ρ q.1 ∧ iv_R ρ q.2 (p, al', .long x :: st', none) := by
  unfold iv_xll at e
  split at e
  · rename_i b hb
    cases e
    obtain ⟨c, b1, b2⟩ := iv_γl_get gl hb
    have b2 : c = _ := b2
    subst b2
    exact ⟨_, b1, _, List.mem_singleton.mpr rfl, hV, rfl, gl, ⟨rfl, gs⟩, Or.inl ⟨rfl, rfl⟩⟩
  · cases e
theorem iv_xst_s {ρ : Nat → Int32} {V : iv_V} {mi : Nat} {al al' : iv_L} {i p : Nat} {st st' : List Value} {l : List (iv_V × iv_O)} (e : iv_xst V mi al i p st = some l) (hV : iv_sat ρ V) (gl : iv_γl ρ al al') (gs : iv_γs ρ st st') : ∃ o', iv_sti mi p i al' st' = some o' ∧ ∃ q ∈ l, iv_sat ρ q.1 ∧ iv_R ρ q.2 o' := by
  unfold iv_xst at e
  split at e
  · rename_i b r
    obtain ⟨o, h1, h2⟩ := Option.map_eq_some_iff.mp e
    obtain ⟨hn, rfl⟩ := iv_sl_s h1
    cases h2
    obtain ⟨x, r', rfl, b3, gs1⟩ := iv_γs_f gs
    exact ⟨_, iv_sl_m h1, _, List.mem_singleton.mpr rfl, hV, rfl, iv_γl_s1 gl i (show iv_γ ρ (.float b) (.int x) from ⟨x, rfl, b3⟩), gs1, Or.inl ⟨rfl, rfl⟩⟩
  · cases e
theorem iv_icmp_o {z : iv_Z} {mi pc t : Nat} {cc : Jvm.ClassFile.Cond} {off : Int} {al : iv_L} {x y : Int32} {r : List Value} {h : iv_H} (ht : iv_tg pc off = some t) : iv_op z mi pc (.if_icmp cc off) al (.int y :: .int x :: r) h = some ((if iv_tr cc x.toInt y.toInt = true then t else pc + 3), al, r, none) := by
  have k : ∀ b : Bool, iv_br b pc off al r = some ((if b = true then t else pc + 3), al, r, none) := by
    intro b
    unfold iv_br
    rw [ht]
    cases b <;> rfl
  cases cc
  · show iv_br (decide (x = y)) pc off al r = _
    rw [k, show iv_tr .eq x.toInt y.toInt = decide (x = y) from by unfold iv_tr; simp only [Int32.toInt_inj]]
  · show iv_br (decide (¬ x = y)) pc off al r = _
    rw [k, show iv_tr .ne x.toInt y.toInt = decide (¬ x = y) from by unfold iv_tr; simp only [Int32.toInt_inj]]
  · show iv_br (decide (x < y)) pc off al r = _
    rw [k, show iv_tr .lt x.toInt y.toInt = decide (x < y) from by unfold iv_tr; simp only [Int32.lt_iff_toInt_lt]]
  · show iv_br (decide (y ≤ x)) pc off al r = _
    rw [k, show iv_tr .ge x.toInt y.toInt = decide (y ≤ x) from by unfold iv_tr; simp only [Int32.le_iff_toInt_le]]
  · show iv_br (decide (y < x)) pc off al r = _
    rw [k, show iv_tr .gt x.toInt y.toInt = decide (y < x) from by unfold iv_tr; simp only [Int32.lt_iff_toInt_lt]]
  · show iv_br (decide (x ≤ y)) pc off al r = _
    rw [k, show iv_tr .le x.toInt y.toInt = decide (x ≤ y) from by unfold iv_tr; simp only [Int32.le_iff_toInt_le]]
theorem iv_if_o {z : iv_Z} {mi pc t : Nat} {cc : Jvm.ClassFile.Cond} {off : Int} {al : iv_L} {x : Int32} {r : List Value} {h : iv_H} (ht : iv_tg pc off = some t) : iv_op z mi pc (.ifCond cc off) al (.int x :: r) h = some ((if iv_tr cc x.toInt 0 = true then t else pc + 3), al, r, none) := by
  have e := iv_icmp_o (z := z) (mi := mi) (cc := cc) (al := al) (x := x) (y := 0) (r := r) (h := h) ht
  rw [Int32.toInt_zero] at e
  rw [← e]
  cases cc <;> rfl
/-- both ways -/
theorem iv_bo_s {ρ : Nat → Int32} {V : iv_V} {t pc : Nat} {al al' : iv_L} {r r' : List Value} {l : List (iv_V × iv_O)} (e : iv_bo V t pc al r = some l) (hV : iv_sat ρ V) (gl : iv_γl ρ al al') (gs : iv_γs ρ r r') (b : Bool) : ∃ q ∈ l, iv_sat ρ q.1 ∧ iv_R ρ q.2 ((if b = true then t else pc + 3), al', r', none) := by
  cases e
  cases b
  · exact ⟨_, List.mem_cons_of_mem _ List.mem_cons_self, hV, rfl, gl, gs, Or.inl ⟨rfl, rfl⟩⟩
  · exact ⟨_, List.mem_cons_self, hV, rfl, gl, gs, Or.inl ⟨rfl, rfl⟩⟩
theorem iv_ways_s {ρ : Nat → Int32} {V : iv_V} {cc : Jvm.ClassFile.Cond} {c : Int} {k t pc : Nat} {al al' : iv_L} {r r' : List Value} (hV : iv_sat ρ V) (gl : iv_γl ρ al al') (gs : iv_γs ρ r r') : ∃ q ∈ iv_wy V k (iv_rg cc c ((t, al, r, none) : iv_O) (pc + 3, al, r, none)), iv_sat ρ q.1 ∧ iv_R ρ q.2 ((if iv_tr cc (ρ k).toInt c = true then t else pc + 3), al', r', none) := by
  obtain ⟨g1, g2⟩ := iv_rng (ρ k)
  obtain ⟨q, m1, m2, m3, m4⟩ := iv_rg_s cc c ((t, al, r, none) : iv_O) (pc + 3, al, r, none) g1 g2
  obtain ⟨V', n1, n2⟩ := iv_wy_s hV m1 m2 m3
  refine ⟨_, n1, n2, ?_⟩
  rw [m4]
  split
  · exact ⟨rfl, gl, gs, Or.inl ⟨rfl, rfl⟩⟩
  · exact ⟨rfl, gl, gs, Or.inl ⟨rfl, rfl⟩⟩
theorem iv_xc2_s {ρ : Nat → Int32} {z : iv_Z} {V : iv_V} {cc : Jvm.ClassFile.Cond} {mi pc : Nat} {off : Int} {al al' : iv_L} {st st' : List Value} {h' : iv_H} {l : List (iv_V × iv_O)} (e : iv_xc2 V cc pc off al st = some l) (hV : iv_sat ρ V) (gl : iv_γl ρ al al') (gs : iv_γs ρ st st') : ∃ o', iv_op z mi pc (.if_icmp cc off) al' st' h' = some o' ∧ ∃ q ∈ l, iv_sat ρ q.1 ∧ iv_R ρ q.2 o' := by
  unfold iv_xc2 at e
  split at e
  · cases e
  · rename_i t ht
    split at e
    · rename_i a b r
      obtain ⟨y, r1, rfl, ha, gs1⟩ := iv_γs_f gs
      obtain ⟨x, r2, rfl, hb, gs2⟩ := iv_γs_f gs1
      refine ⟨_, iv_icmp_o ht, ?_⟩
      split at e
      · rename_i hc
        cases e
        refine ⟨_, List.mem_singleton.mpr rfl, hV, ?_, gl, gs2, Or.inl ⟨rfl, rfl⟩⟩
        have e1 : x = y := by rw [ha hc.2, hb (by rw [← hc.1]; exact hc.2), hc.1]
        rw [e1]
        show (if iv_tr cc y.toInt y.toInt = true then t else pc + 3) = (if iv_tr cc 0 0 = true then t else pc + 3)
        have e2 : iv_tr cc y.toInt y.toInt = iv_tr cc 0 0 := by cases cc <;> simp [iv_tr]
        rw [e2]
      · exact iv_bo_s e hV gl gs2 _
    · rename_i y b r
      obtain ⟨r1, rfl, gs1⟩ := iv_γs_i gs
      obtain ⟨x, r2, rfl, hb, gs2⟩ := iv_γs_f gs1
      refine ⟨_, iv_icmp_o ht, ?_⟩
      split at e
      · rename_i hc
        cases e
        rw [hb hc]
        exact iv_ways_s hV gl gs2
      · exact iv_bo_s e hV gl gs2 _
    · rename_i b x r
      obtain ⟨y, r1, rfl, hb, gs1⟩ := iv_γs_f gs
      obtain ⟨r2, rfl, gs2⟩ := iv_γs_i gs1
      refine ⟨_, iv_icmp_o ht, ?_⟩
      split at e
      · rename_i hc
        cases e
        rw [hb hc, ← iv_tr_swc]
        exact iv_ways_s hV gl gs2
      · exact iv_bo_s e hV gl gs2 _
    · cases e
theorem iv_xc1_s {ρ : Nat → Int32} {z : iv_Z} {V : iv_V} {cc : Jvm.ClassFile.Cond} {mi pc : Nat} {off : Int} {al al' : iv_L} {st st' : List Value} {h' : iv_H} {l : List (iv_V × iv_O)} (e : iv_xc1 V cc pc off al st = some l) (hV : iv_sat ρ V) (gl : iv_γl ρ al al') (gs : iv_γs ρ st st') : ∃ o', iv_op z mi pc (.ifCond cc off) al' st' h' = some o' ∧ ∃ q ∈ l, iv_sat ρ q.1 ∧ iv_R ρ q.2 o' := by
  unfold iv_xc1 at e
  split at e
  · cases e
  · rename_i t ht
    split at e
    · rename_i b r
      obtain ⟨x, r1, rfl, hb, gs1⟩ := iv_γs_f gs
      refine ⟨_, iv_if_o ht, ?_⟩
      split at e
      · rename_i hc
        cases e
        rw [hb hc]
        exact iv_ways_s hV gl gs1
      · exact iv_bo_s e hV gl gs1 _
    · cases e
theorem iv_u2_s {ρ : Nat → Int32} {V : iv_V} {pc : Nat} {al al' : iv_L} {st st' : List Value} {l : List (iv_V × iv_O)} (f : Int32 → Int32 → Int32) (e : iv_u2 V pc al st = some l) (hV : iv_sat ρ V) (gl : iv_γl ρ al al') (gs : iv_γs ρ st st') : ∃ o', iv_ii pc al' st' f = some o' ∧ ∃ q ∈ l, iv_sat ρ q.1 ∧ iv_R ρ q.2 o' := by
  have fin : ∀ (x y : Int32) (r r' : List Value), iv_γs ρ r r' → l = [(V, (pc + 1, al, iv_U :: r, none))] → ∃ o', iv_ii pc al' (.int y :: .int x :: r') f = some o' ∧ ∃ q ∈ l, iv_sat ρ q.1 ∧ iv_R ρ q.2 o' := by
    intro x y r r' g hl
    subst hl
    exact ⟨_, rfl, _, List.mem_singleton.mpr rfl, hV, rfl, gl, ⟨iv_γ_u ρ _, g⟩, Or.inl ⟨rfl, rfl⟩⟩
  unfold iv_u2 at e
  split at e
  · obtain ⟨y, r1, rfl, hb, gs1⟩ := iv_γs_f gs
    obtain ⟨r2, rfl, gs2⟩ := iv_γs_i gs1
    exact fin _ _ _ _ gs2 (Option.some.inj e).symm
  · obtain ⟨r1, rfl, gs1⟩ := iv_γs_i gs
    obtain ⟨y, r2, rfl, hb, gs2⟩ := iv_γs_f gs1
    exact fin _ _ _ _ gs2 (Option.some.inj e).symm
  · obtain ⟨y, r1, rfl, hb, gs1⟩ := iv_γs_f gs
    obtain ⟨x, r2, rfl, hb2, gs2⟩ := iv_γs_f gs1
    exact fin _ _ _ _ gs2 (Option.some.inj e).symm
  · cases e
theorem iv_fk_s {α : Type} {ρ : Nat → Int32} {V : iv_V} {b : Nat} {l : List (iv_V × α)} {g : Int → α} (hV : iv_sat ρ V) (hw : (iv_iv V b).2 - (iv_iv V b).1 ≤ 15) (hl : l = (iv_wy V b (iv_vals (iv_iv V b).1 16)).map fun q => (q.1, g q.2)) : ∃ q ∈ l, iv_sat ρ q.1 ∧ q.2 = g (ρ b).toInt := by
  obtain ⟨g1, g2⟩ := iv_iv_s hV b
  have m := iv_vals_s 16 (iv_iv V b).1 (ρ b).toInt g1 (by omega)
  obtain ⟨V', m1, m2⟩ := iv_wy_s hV m (Int.le_refl _) (Int.le_refl _)
  subst hl
  exact ⟨_, List.mem_map.mpr ⟨_, m1, rfl⟩, m2, rfl⟩
theorem iv_a2_s {ρ : Nat → Int32} {V : iv_V} {pc : Nat} {al al' : iv_L} {st st' : List Value} {l : List (iv_V × iv_O)} (f : Int32 → Int32 → Int32) (e : iv_a2 V pc al st f = some l) (hV : iv_sat ρ V) (gl : iv_γl ρ al al') (gs : iv_γs ρ st st') : ∃ o', iv_ii pc al' st' f = some o' ∧ ∃ q ∈ l, iv_sat ρ q.1 ∧ iv_R ρ q.2 o' := by
  unfold iv_a2 at e
  split at e
  · rename_i b x r
    obtain ⟨y, r1, rfl, hb, gs1⟩ := iv_γs_f gs
    obtain ⟨r2, rfl, gs2⟩ := iv_γs_i gs1
    refine ⟨_, rfl, ?_⟩
    split at e
    · rename_i hc
      obtain ⟨q, m1, m2, m3⟩ := iv_fk_s (g := fun v => ((pc + 1, al, .int (f x (Int32.ofInt v)) :: r, none) : iv_O)) hV hc.2 (Option.some.inj e).symm
      refine ⟨q, m1, m2, ?_⟩
      rw [m3]
      refine ⟨rfl, gl, ⟨?_, gs2⟩, Or.inl ⟨rfl, rfl⟩⟩
      show Value.int (f x y) = Value.int (f x (Int32.ofInt (ρ b.toNat).toInt))
      rw [hb hc.1, Int32.ofInt_toInt]
    · cases e
      exact ⟨_, List.mem_singleton.mpr rfl, hV, rfl, gl, ⟨iv_γ_u ρ _, gs2⟩, Or.inl ⟨rfl, rfl⟩⟩
  · rename_i y b r
    obtain ⟨r1, rfl, gs1⟩ := iv_γs_i gs
    obtain ⟨x, r2, rfl, hb, gs2⟩ := iv_γs_f gs1
    refine ⟨_, rfl, ?_⟩
    split at e
    · rename_i hc
      obtain ⟨q, m1, m2, m3⟩ := iv_fk_s (g := fun v => ((pc + 1, al, .int (f (Int32.ofInt v) y) :: r, none) : iv_O)) hV hc.2 (Option.some.inj e).symm
      refine ⟨q, m1, m2, ?_⟩
      rw [m3]
      refine ⟨rfl, gl, ⟨?_, gs2⟩, Or.inl ⟨rfl, rfl⟩⟩
      show Value.int (f x y) = Value.int (f (Int32.ofInt (ρ b.toNat).toInt) y)
      rw [hb hc.1, Int32.ofInt_toInt]
    · cases e
      exact ⟨_, List.mem_singleton.mpr rfl, hV, rfl, gl, ⟨iv_γ_u ρ _, gs2⟩, Or.inl ⟨rfl, rfl⟩⟩
  · exact iv_u2_s f e hV gl gs
theorem iv_xin_s {ρ : Nat → Int32} {z : iv_Z} {V : iv_V} {mi pc i : Nat} {n : Int} {al al' : iv_L} {st st' : List Value} {h' : iv_H} {l : List (iv_V × iv_O)} (e : iv_xin V mi al i n pc st = some l) (hV : iv_sat ρ V) (gl : iv_γl ρ al al') (gs : iv_γs ρ st st') : ∃ o', iv_op z mi pc (.iinc i n) al' st' h' = some o' ∧ ∃ q ∈ l, iv_sat ρ q.1 ∧ iv_R ρ q.2 o' := by
  unfold iv_xin at e
  split at e
  · rename_i b hb
    split at e
    · rename_i hc
      obtain ⟨c, b1, b2⟩ := iv_γl_get gl hb
      obtain ⟨x, rfl, b3⟩ := b2
      obtain ⟨q, m1, m2, m3⟩ := iv_fk_s (g := fun v => ((pc + 3, iv_s1 al i (.int (Int32.ofInt v + Int32.ofInt n)), st, none) : iv_O)) hV hc.2.1 (Option.some.inj e).symm
      refine ⟨(pc + 3, iv_s1 al' i (.int (x + Int32.ofInt n)), st', none), ?_, q, m1, m2, ?_⟩
      · show iv_li al' i _ = _
        unfold iv_li
        rw [b1]
        show iv_sl mi i 0 _ = _
        unfold iv_sl
        rw [if_pos hc.2.2]
      · rw [m3]
        refine ⟨rfl, iv_γl_s1 gl i ?_, gs, Or.inl ⟨rfl, rfl⟩⟩
        show Value.int (x + Int32.ofInt n) = Value.int (Int32.ofInt (ρ b.toNat).toInt + Int32.ofInt n)
        rw [b3 hc.1, Int32.ofInt_toInt]
    · cases e
  · cases e
theorem iv_in_of {x : Int32} {n : Nat} (h1 : 0 ≤ x.toInt) (h2 : x.toInt < n) : iv_in x n = true := by
  unfold iv_in
  rw [Bool.and_eq_true]
  refine ⟨decide_eq_true (Int32.le_iff_toInt_le.mpr (by rw [Int32.toInt_zero]; exact h1)), decide_eq_true ?_⟩
  show x.toInt.toNat < n
  omega
theorem iv_ak_s {h h' : iv_H} {k : Nat} {q : Nat × Nat} (e : iv_ak h k = some q) (gh : iv_γh h h') : ∃ f, h'[k]? = some (.inr (q.1, q.2, .inl f)) := by
  unfold iv_ak at e
  split at e
  · rename_i t n f hk
    cases e
    exact ⟨f, iv_γh_i gh hk⟩
  · rename_i t n f hk
    cases e
    obtain ⟨c, h1, h2⟩ := gh.2 k _ hk
    rcases h2 with ⟨h2, -⟩ | ⟨t2, n2, f2, g2, h2, rfl⟩
    · cases h2
    · cases h2
      exact ⟨g2, h1⟩
  · cases e
theorem iv_isn_s {ρ : Nat → Int32} {v c : Value} (h : iv_isn v = true) (g : iv_γ ρ v c) : ∃ x : Int32, c = .int x := by
  cases v with
  | int x => exact ⟨x, g⟩
  | float b => obtain ⟨x, e, -⟩ := g; exact ⟨x, e⟩
  | _ => cases h
theorem iv_ix_s {ρ : Nat → Int32} {V : iv_V} {v : Value} {x : Int32} {n : Nat} (hV : iv_sat ρ V) (h : iv_ix V v n = true) (g : iv_γ ρ v (.int x)) : iv_in x n = true := by
  cases v with
  | int y => cases g; exact h
  | float b =>
    obtain ⟨y, e, hb⟩ := g
    cases e
    have h := of_decide_eq_true h
    obtain ⟨g1, g2⟩ := iv_iv_s hV b.toNat
    rw [hb h.1]
    exact iv_in_of (by omega) (by omega)
  | _ => cases h
theorem iv_xas_s {ρ : Nat → Int32} {V : iv_V} {ty : FieldType} {pc : Nat} {al al' : iv_L} {st st' : List Value} {h h' : iv_H} {l : List (iv_V × iv_O)} (e : iv_xas V ty pc al st h = some l) (hV : iv_sat ρ V) (gl : iv_γl ρ al al') (gs : iv_γs ρ st st') (gh : iv_γh h h') : ∃ o', iv_ast ty pc al' st' h' = some o' ∧ ∃ q ∈ l, iv_sat ρ q.1 ∧ iv_R ρ q.2 o' := by
  unfold iv_xas at e
  split at e
  · rename_i v i k r
    split at e
    · rename_i hv
      split at e
      · rename_i q hq
        split at e
        · rename_i hc
          cases e
          obtain ⟨c1, r1, rfl, k1, gs1⟩ := iv_γs_c gs
          obtain ⟨x, rfl⟩ := iv_isn_s hv.1 k1
          obtain ⟨c2, r2, rfl, k2, gs2⟩ := iv_γs_c gs1
          have hi : ∃ j : Int32, c2 = .int j := by
            cases i with
            | int j => exact ⟨j, k2⟩
            | float b => obtain ⟨j, e, -⟩ := k2; exact ⟨j, e⟩
            | _ => cases hc.1
          obtain ⟨j, rfl⟩ := hi
          obtain ⟨r3, rfl, gs3⟩ := iv_γs_r gs2
          obtain ⟨f, hf⟩ := iv_ak_s hq gh
          have f1 : iv_ai h' k = some (q.1, q.2, f) := by unfold iv_ai; rw [hf]
          refine ⟨(pc + 1, al', r3, some (some k, .inr (q.1, q.2, .inl (upd f j.toNatClampNeg (vp_nar ty x))))), ?_, _, List.mem_singleton.mpr rfl, hV, rfl, gl, gs3, Or.inr ⟨k, q.1, q.2, _, _, rfl, rfl⟩⟩
          show (iv_ai h' k).bind _ = _
          rw [f1]
          show (if _ then _ else _) = _
          rw [if_pos ⟨iv_ix_s hV hc.1 k2, hc.2⟩]
        · cases e
      · cases e
    · cases e
  · cases e
theorem iv_xal_s {ρ : Nat → Int32} {V : iv_V} {pc : Nat} {al al' : iv_L} {st st' : List Value} {h h' : iv_H} {l : List (iv_V × iv_O)} (e : iv_xal V pc al st h = some l) (hV : iv_sat ρ V) (gl : iv_γl ρ al al') (gs : iv_γs ρ st st') (gh : iv_γh h h') : ∃ (j : Int32) (k : Nat) (r : List Value) (o' : iv_O), st' = .int j :: .ref k :: r ∧ iv_ald .int pc al' st' h' = some o' ∧ ∃ q ∈ l, iv_sat ρ q.1 ∧ iv_R ρ q.2 o' := by
  unfold iv_xal at e
  split at e
  · rename_i b k r
    split at e
    · rename_i q hq
      split at e
      · rename_i hc
        obtain ⟨c1, c2, c3, c4, c5⟩ := hc
        cases e
        obtain ⟨j, r1, rfl, hb, gs1⟩ := iv_γs_f gs
        obtain ⟨r2, rfl, gs2⟩ := iv_γs_r gs1
        obtain ⟨g1, g2⟩ := iv_iv_s hV b.toNat
        have hj := hb c1
        rw [← hj] at g1 g2
        have f1 : iv_ai h' k = some q := by unfold iv_ai; rw [iv_γh_i gh (iv_ai_s hq)]
        have eq1 : q.2.2 j.toNatClampNeg = q.2.2 (iv_iv V b.toNat).1.toNat := by
          have m := of_decide_eq_true (List.all_eq_true.mp c5 (j.toInt - (iv_iv V b.toNat).1).toNat (List.mem_range.mpr (by omega)))
          rw [show (iv_iv V b.toNat).1.toNat + (j.toInt - (iv_iv V b.toNat).1).toNat = j.toInt.toNat by omega] at m
          exact m
        refine ⟨j, k, r2, (pc + 1, al', .int (q.2.2 j.toNatClampNeg) :: r2, none), rfl, ?_, _, List.mem_singleton.mpr rfl, hV, rfl, gl, ⟨?_, gs2⟩, Or.inl ⟨rfl, rfl⟩⟩
        · show (iv_ai h' k).bind _ = _
          rw [f1]
          show (if _ then _ else _) = _
          rw [if_pos ⟨iv_in_of (by omega) (by omega), c4⟩]
          rfl
        · show Value.int _ = Value.int _
          rw [eq1]
      · cases e
    · cases e
  · cases e
theorem iv_xaq_s {ρ : Nat → Int32} {z : iv_Z} {V : iv_V} {mi pc : Nat} {al al' : iv_L} {st st' : List Value} {h h' : iv_H} {l : List (iv_V × iv_O)} (e : iv_xaq V pc al st h = some l) (hV : iv_sat ρ V) (gl : iv_γl ρ al al') (gs : iv_γs ρ st st') (gh : iv_γh h h') : ∃ o', iv_op z mi pc .aaload al' st' h' = some o' ∧ ∃ q ∈ l, iv_sat ρ q.1 ∧ iv_R ρ q.2 o' := by
  unfold iv_xaq at e
  split at e
  · rename_i b k r
    split at e
    · rename_i q hq
      split at e
      · rename_i hc
        obtain ⟨c1, c2, c3, c4, c5, c6⟩ := hc
        obtain ⟨j, r1, rfl, hb, gs1⟩ := iv_γs_f gs
        obtain ⟨r2, rfl, gs2⟩ := iv_γs_r gs1
        obtain ⟨g1, g2⟩ := iv_iv_s hV b.toNat
        have f1 : iv_aq h' k = some q := by unfold iv_aq; rw [iv_γh_q gh (iv_aq_s hq)]
        have m := iv_vals_s 16 (iv_iv V b.toNat).1 (ρ b.toNat).toInt g1 (by omega)
        obtain ⟨V', m1, m2⟩ := iv_wy_s hV m (Int.le_refl _) (Int.le_refl _)
        have hs := List.all_eq_true.mp c6 _ m1
        obtain ⟨b', hb'⟩ := Option.isSome_iff_exists.mp hs
        dsimp only at hb'
        rw [← hb c1] at hb' m1 g1 g2
        cases e
        refine ⟨(pc + 1, al', .ref b' :: r2, none), ?_, _, List.mem_map.mpr ⟨_, m1, rfl⟩, m2, rfl, gl, ⟨?_, gs2⟩, Or.inl ⟨rfl, rfl⟩⟩
        · show (iv_aq h' k).bind _ = _
          rw [f1]
          show (if _ then _ else _) = _
          rw [if_pos ⟨iv_in_of (by omega) (by omega), c5⟩]
          show (match q.2.2 j.toInt.toNat with
            | some b => some (pc + 1, al', Value.ref b :: r2, none)
            | none => none) = _
          rw [hb']
        · dsimp only
          rw [hb']
          rfl
      · cases e
    · cases e
  · cases e
theorem iv_xsw_s {ρ : Nat → Int32} {z : iv_Z} {V : iv_V} {mi pc : Nat} {d lo hi : Int} {offs : Array Int} {al al' : iv_L} {st st' : List Value} {h' : iv_H} {l : List (iv_V × iv_O)} (e : iv_xsw V pc d lo hi offs.toList al st = some l) (hV : iv_sat ρ V) (gl : iv_γl ρ al al') (gs : iv_γs ρ st st') : ∃ o', iv_op z mi pc (.tableswitch d lo hi offs) al' st' h' = some o' ∧ ∃ q ∈ l, iv_sat ρ q.1 ∧ iv_R ρ q.2 o' := by
  unfold iv_xsw at e
  split at e
  · rename_i b r
    split at e
    · rename_i hsz
      split at e
      · cases e
      · rename_i t ht
        split at e
        · cases e
        · rename_i q hq
          obtain ⟨x, r1, rfl, hb, gs1⟩ := iv_γs_f gs
          obtain ⟨g1, g2⟩ := iv_rng x
          have key : ∃ (p : Nat) (w : Int × Int × iv_O), iv_op z mi pc (.tableswitch d lo hi offs) al' (.int x :: r1) h' = some (p, al', r1, none) ∧ w ∈ (-9999999999, lo - 1, ((t, al, r, none) : iv_O)) :: (hi + 1, 9999999999, (t, al, r, none)) :: q ∧ w.1 ≤ x.toInt ∧ x.toInt ≤ w.2.1 ∧ w.2.2 = (p, al, r, none) := by
            by_cases h1 : x.toInt < lo ∨ hi < x.toInt
            · refine ⟨t, ?_⟩
              have e1 : iv_op z mi pc (.tableswitch d lo hi offs) al' (.int x :: r1) h' = some (t, al', r1, none) := by
                show (if _ then _ else _) = _
                rw [if_pos h1]
                unfold iv_jp
                rw [ht]
                rfl
              rcases h1 with h1 | h1
              · exact ⟨_, e1, List.mem_cons_self, g1, by show x.toInt ≤ lo - 1; omega, rfl⟩
              · exact ⟨_, e1, List.mem_cons_of_mem _ List.mem_cons_self, by show hi + 1 ≤ x.toInt; omega, g2, rfl⟩
            · have h2 : lo ≤ x.toInt ∧ x.toInt ≤ hi := by omega
              have h3 : (x.toInt - lo).toNat < offs.toList.length := by omega
              obtain ⟨off, ho⟩ : ∃ off, offs.toList[(x.toInt - lo).toNat]? = some off := ⟨_, List.getElem?_eq_getElem h3⟩
              obtain ⟨t2, a1, a2⟩ := iv_swr_s _ _ _ hq _ _ ho
              have e9 : lo + (((x.toInt - lo).toNat : Nat) : Int) = x.toInt := by omega
              rw [e9] at a2
              refine ⟨t2, _, ?_, List.mem_cons_of_mem _ (List.mem_cons_of_mem _ a2), Int.le_refl _, Int.le_refl _, rfl⟩
              show (if _ then _ else _) = _
              rw [if_neg h1]
              rw [Array.getElem?_toList] at ho
              rw [ho]
              show iv_jp pc off al' r1 = _
              unfold iv_jp
              rw [a1]
              rfl
          obtain ⟨p, w, k1, k2, k3, k4, k5⟩ := key
          refine ⟨_, k1, ?_⟩
          split at e
          · rename_i hc
            cases e
            rw [hb hc] at k3 k4
            obtain ⟨V', n1, n2⟩ := iv_wy_s hV k2 k3 k4
            refine ⟨_, n1, n2, ?_⟩
            rw [k5]
            exact ⟨rfl, gl, gs1, Or.inl ⟨rfl, rfl⟩⟩
          · cases e
            refine ⟨_, iv_an_s k2, hV, ?_⟩
            show iv_R ρ w.2.2 _
            rw [k5]
            exact ⟨rfl, gl, gs1, Or.inl ⟨rfl, rfl⟩⟩
    · cases e
  · cases e
theorem iv_lcmp_o (x c : Int64) : lg_cmp x c = if x.toInt < c.toInt then -1 else if x.toInt = c.toInt then 0 else 1 := by
  unfold lg_cmp
  by_cases h1 : c < x
  · have h1' := Int64.lt_iff_toInt_lt.mp h1
    rw [if_pos h1, if_neg (by omega), if_neg (by omega)]
  · have h1' : ¬ c.toInt < x.toInt := fun q => h1 (Int64.lt_iff_toInt_lt.mpr q)
    rw [if_neg h1]
    by_cases h2 : x = c
    · subst h2
      rw [if_pos rfl, if_neg (by omega), if_pos rfl]
    · have h2' : ¬ x.toInt = c.toInt := fun q => h2 (Int64.toInt_inj.mp q)
      rw [if_neg h2, if_pos (by omega)]
set_option maxHeartbeats 2000000 in
theorem iv_xs_s {ρ : Nat → Int32} {z : iv_Z} {scr : Option (Nat × Int32)} {V : iv_V} {mi pc : Nat} {op : Jvm.ClassFile.Instr} {al al' : iv_L} {st st' : List Value} {h h' : iv_H} {l : List (iv_V × iv_O)} (e : iv_xs scr V mi pc op al st h = some l) (hz : ∀ c, scr = some c → z = some (c.1, ρ) ∧ (c.1 = 6 → ρ 0 &&& 31 = c.2)) (hV : iv_sat ρ V) (gl : iv_γl ρ al al') (gs : iv_γs ρ st st') (gh : iv_γh h h') : ∃ o', iv_op z mi pc op al' st' h' = some o' ∧ ∃ q ∈ l, iv_sat ρ q.1 ∧ iv_R ρ q.2 o' := by
  cases op with
  | iload_n k =>
    obtain ⟨x, a1, a2⟩ := iv_xl_s e hV gl gs
    refine ⟨_, ?_, a2⟩
    show iv_li al' (k : Nat) _ = _
    unfold iv_li
    rw [a1]
    rfl
  | iload k =>
    obtain ⟨x, a1, a2⟩ := iv_xl_s e hV gl gs
    refine ⟨_, ?_, a2⟩
    show iv_li al' k _ = _
    unfold iv_li
    rw [a1]
    rfl
  | lload_n k =>
    obtain ⟨x, a1, a2⟩ := iv_xll_s e hV gl gs
    refine ⟨_, ?_, a2⟩
    show iv_lj al' (k : Nat) _ = _
    unfold iv_lj
    rw [a1]
    rfl
  | lload k =>
    obtain ⟨x, a1, a2⟩ := iv_xll_s e hV gl gs
    refine ⟨_, ?_, a2⟩
    show iv_lj al' k _ = _
    unfold iv_lj
    rw [a1]
    rfl
  | iinc i n => exact iv_xin_s e hV gl gs
  | istore_n k => exact iv_xst_s e hV gl gs
  | istore k => exact iv_xst_s e hV gl gs
  | i2l =>
    simp only [iv_xs, iv_xsem] at e
    split at e
    · rename_i b r
      split at e
      · rename_i hc
        cases e
        obtain ⟨x, r1, rfl, hb, gs1⟩ := iv_γs_f gs
        refine ⟨_, rfl, _, List.mem_singleton.mpr rfl, hV, rfl, gl, ⟨?_, gs1⟩, Or.inl ⟨rfl, rfl⟩⟩
        show Value.long x.toInt64 = Value.long (ρ (UInt64.ofNat b.toNat).toNat).toInt64
        have e1 : (UInt64.ofNat b.toNat).toNat = b.toNat := by
          rw [UInt64.toNat_ofNat']
          exact Nat.mod_eq_of_lt (by omega)
        rw [e1, hb hc]
      · cases e
    · cases e
  | lcmp =>
    simp only [iv_xs, iv_xsem] at e
    split at e
    · rename_i c b r
      cases e
      obtain ⟨r1, rfl, gs1⟩ := iv_γs_j gs
      obtain ⟨r2, rfl, gs2⟩ := iv_γs_d gs1
      refine ⟨_, rfl, ?_⟩
      have g0 := iv_rng (ρ b.toNat)
      have e1 : (ρ b.toNat).toInt64.toInt = (ρ b.toNat).toInt := Int32.toInt_toInt64 _
      rw [iv_lcmp_o, e1]
      by_cases h1 : (ρ b.toNat).toInt < c.toInt
      · obtain ⟨V', n1, n2⟩ := iv_wy_s (k := b.toNat) (q := (-9999999999, c.toInt - 1, ((pc + 1, al, .int (-1) :: r, none) : iv_O))) hV List.mem_cons_self g0.1 (by show _ ≤ c.toInt - 1; omega)
        refine ⟨_, n1, n2, rfl, gl, ⟨?_, gs2⟩, Or.inl ⟨rfl, rfl⟩⟩
        rw [if_pos h1]
        rfl
      · by_cases h2 : (ρ b.toNat).toInt = c.toInt
        · obtain ⟨V', n1, n2⟩ := iv_wy_s (k := b.toNat) (q := (c.toInt, c.toInt, ((pc + 1, al, .int 0 :: r, none) : iv_O))) hV (List.mem_cons_of_mem _ List.mem_cons_self) (by show c.toInt ≤ _; omega) (by show _ ≤ c.toInt; omega)
          refine ⟨_, n1, n2, rfl, gl, ⟨?_, gs2⟩, Or.inl ⟨rfl, rfl⟩⟩
          rw [if_neg h1, if_pos h2]
          rfl
        · obtain ⟨V', n1, n2⟩ := iv_wy_s (k := b.toNat) (q := (c.toInt + 1, 9999999999, ((pc + 1, al, .int 1 :: r, none) : iv_O))) hV (List.mem_cons_of_mem _ (List.mem_cons_of_mem _ List.mem_cons_self)) (by show c.toInt + 1 ≤ _; omega) g0.2
          refine ⟨_, n1, n2, rfl, gl, ⟨?_, gs2⟩, Or.inl ⟨rfl, rfl⟩⟩
          rw [if_neg h1, if_neg h2]
          rfl
    · cases e
  | if_icmp cc off => exact iv_xc2_s e hV gl gs
  | ifCond cc off => exact iv_xc1_s e hV gl gs
  | iadd => exact iv_a2_s _ e hV gl gs
  | isub => exact iv_a2_s _ e hV gl gs
  | imul => exact iv_a2_s _ e hV gl gs
  | ior => exact iv_u2_s _ e hV gl gs
  | ishl => exact iv_u2_s _ e hV gl gs
  | ishr => exact iv_u2_s _ e hV gl gs
  | iushr => exact iv_u2_s _ e hV gl gs
  | iand =>
    simp only [iv_xs, iv_xsem] at e
    split at e
    · exact iv_u2_s (fun x y => x &&& y) e hV gl gs
    · rename_i c
      split at e
      · rename_i m b r
        split at e
        · rename_i hc
          cases e
          obtain ⟨r1, rfl, gs1⟩ := iv_γs_i gs
          obtain ⟨x, r2, rfl, hb, gs2⟩ := iv_γs_f gs1
          refine ⟨_, rfl, _, List.mem_singleton.mpr rfl, hV, rfl, gl, ⟨?_, gs2⟩, Or.inl ⟨rfl, rfl⟩⟩
          show Value.int (x &&& m) = Value.int c.2
          rw [hb (by rw [hc.2.1]; decide), hc.1, hc.2.1, (hz c rfl).2 hc.2.2]
        · exact iv_u2_s (fun x y => x &&& y) e hV gl gs
      · exact iv_u2_s (fun x y => x &&& y) e hV gl gs
  | i2b =>
    simp only [iv_xs, iv_xsem] at e
    split at e
    · cases e
      obtain ⟨x, r1, rfl, hb, gs1⟩ := iv_γs_f gs
      exact ⟨_, rfl, _, List.mem_singleton.mpr rfl, hV, rfl, gl, ⟨iv_γ_u ρ _, gs1⟩, Or.inl ⟨rfl, rfl⟩⟩
    · cases e
  | tableswitch d lo hi offs => exact iv_xsw_s e hV gl gs
  | iaload =>
    simp only [iv_xs, iv_xsem] at e
    split at e
    · rename_i i k r
      split at e
      · rename_i c
        split at e
        · rename_i hc
          cases e
          obtain ⟨rfl, hz2⟩ := hz c rfl
          obtain ⟨r1, rfl, gs1⟩ := iv_γs_i gs
          obtain ⟨r2, rfl, gs2⟩ := iv_γs_q gs1
          refine ⟨(pc + 1, al', .int (ρ i.toNatClampNeg) :: r2, none), ?_, _, List.mem_singleton.mpr rfl, hV, rfl, gl, ⟨⟨_, rfl, fun hb => ?_⟩, gs2⟩, Or.inl ⟨rfl, rfl⟩⟩
          · show (if iv_in i c.1 = true then _ else _) = _
            rw [if_pos hc.1]
            rfl
          · have hlt := hc.2
            have e1 : (UInt32.ofNat i.toNatClampNeg).toNat = i.toNatClampNeg := by
              rw [UInt32.toNat_ofNat']
              exact Nat.mod_eq_of_lt (by omega)
            rw [e1]
        · cases e
      · cases e
    · obtain ⟨j, k, r, o', rfl, a1, a2⟩ := iv_xal_s e hV gl gs gh
      exact ⟨o', a1, a2⟩
  | aaload => exact iv_xaq_s e hV gl gs gh
  | arraylength =>
    simp only [iv_xs, iv_xsem] at e
    split at e
    · rename_i k r
      split at e
      · rename_i c
        cases e
        obtain ⟨rfl, hz2⟩ := hz c rfl
        obtain ⟨r2, rfl, gs2⟩ := iv_γs_q gs
        exact ⟨(pc + 1, al', .int (Int32.ofNat c.1) :: r2, none), rfl, _, List.mem_singleton.mpr rfl, hV, rfl, gl, ⟨rfl, gs2⟩, Or.inl ⟨rfl, rfl⟩⟩
      · cases e
    · cases e
  | iastore => exact iv_xas_s e hV gl gs gh
  | bastore =>
    obtain ⟨o', a1, a2⟩ := iv_xas_s e hV gl gs gh
    refine ⟨o', ?_, a2⟩
    show (match iv_ast .byte pc al' st' h' with
      | some S => some S
      | none => iv_ast .boolean pc al' st' h') = _
    rw [a1]
  | _ =>
    have e : (none : Option (List (iv_V × iv_O))) = some l := e
    cases e
