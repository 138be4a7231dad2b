/-! WHAT A NUMBERED HEAP IS IN THE MACHINE: ad.1 k the address of cell k, ad.2 k the read-only thing k (none: null) -/
abbrev iv_A : Type := (Nat → Nat) × (Nat → Option Nat)
def iv_v (ad : iv_A) (v : Value) : Value := match v with
  | .ref k => .ref (ad.1 k)
  | .retAddr k => va_rf (ad.2 k)
  | w => w
def iv_a (ad : iv_A) (a : vp_A) : vp_A := match a with
  | (n, .inr (.inr (.inr (.inr f)))) => (n, .inr (.inr (.inr (.inr (fun j => (f j).map (fun k => ad.1 k))))))
  | (n, .inl f) => (n, .inl f)
  | (n, .inr (.inl f)) => (n, .inr (.inl f))
  | (n, .inr (.inr (.inl f))) => (n, .inr (.inr (.inl f)))
  | (n, .inr (.inr (.inr (.inl f)))) => (n, .inr (.inr (.inr (.inl f))))
def iv_e (ad : iv_A) (cO : Nat → ClassId) (c : iv_C) : va_E := match c with
  | .inl o => .inr (o.1, o.2.map (iv_v ad))
  | .inr a => .inl (cO a.1, iv_a ad a.2)
def iv_w (ad : iv_A) (cO : Nat → ClassId) (h : iv_H) : va_W := h.mapIdx (fun i c => (ad.1 i, iv_e ad cO c))
def iv_ll (ad : iv_A) (al : iv_L) : List (Nat × Value) := al.zipIdx.filterMap fun q => q.1.map fun v => (q.2, iv_v ad v)
theorem iv_v_cat (ad : iv_A) (v : Value) : (iv_v ad v).category = v.category := by
  cases v with
  | retAddr k =>
    show (va_rf (ad.2 k)).category = _
    cases ad.2 k <;> rfl
  | _ => rfl
theorem iv_cats (ad : iv_A) (r : List Value) : ((r.map (iv_v ad)).map fun v => v.category) = r.map fun v => v.category := by
  rw [List.map_map]
  exact List.map_congr_left fun v _ => iv_v_cat ad v
theorem iv_w_get {ad : iv_A} {cO : Nat → ClassId} {h : iv_H} {k : Nat} {c : iv_C} (hk : h[k]? = some c) : (iv_w ad cO h)[k]? = some (ad.1 k, iv_e ad cO c) := by
  unfold iv_w
  rw [List.getElem?_mapIdx, hk]
  rfl
theorem iv_w_len (ad : iv_A) (cO : Nat → ClassId) (h : iv_H) : (iv_w ad cO h).length = h.length := by simp [iv_w]
theorem iv_w_set (ad : iv_A) (cO : Nat → ClassId) (h : iv_H) (k : Nat) (c : iv_C) : (iv_w ad cO h).set k (ad.1 k, iv_e ad cO c) = iv_w ad cO (h.set k c) := by
  apply List.ext_getElem?
  intro j
  unfold iv_w
  rw [List.getElem?_mapIdx, List.getElem?_set, List.getElem?_set, List.getElem?_mapIdx, List.length_mapIdx]
  by_cases hj : k = j
  · subst hj
    by_cases hl : k < h.length <;> simp [hl]
  · simp [hj]
theorem iv_ll_mem {ad : iv_A} {al : iv_L} {q : Nat × Value} : q ∈ iv_ll ad al ↔ ∃ v, al[q.1]? = some (some v) ∧ q.2 = iv_v ad v := by
  unfold iv_ll
  rw [List.mem_filterMap]
  constructor
  · rintro ⟨⟨o, i⟩, h1, h2⟩
    rw [List.mem_zipIdx_iff_getElem?] at h1
    cases o with
    | none => cases h2
    | some v =>
      cases h2
      exact ⟨v, h1, rfl⟩
  · rintro ⟨v, h1, h2⟩
    refine ⟨(some v, q.1), List.mem_zipIdx_iff_getElem?.mpr h1, ?_⟩
    show some (q.1, iv_v ad v) = some q
    rw [← h2]
theorem iv_lv {ad : iv_A} {al : iv_L} {ls : Array Slot} {nL i : Nat} {v : Value} (h : lv_has ls nL (iv_ll ad al)) (hi : al[i]? = some (some v)) : ls[i]? = some (.val (iv_v ad v)) := h.2.2 (i, iv_v ad v) (iv_ll_mem.mpr ⟨v, hi, rfl⟩)
theorem iv_lv_sub {ls : Array Slot} {nL : Nat} {l l' : List (Nat × Value)} (h : lv_has ls nL l) (hs : ∀ q, q ∈ l' → q ∈ l) : lv_has ls nL l' := ⟨h.1, h.2.1, fun q hq => h.2.2 q (hs q hq)⟩
theorem iv_k_get {al : iv_L} {i j : Nat} {w : Value} (h : (iv_k al i)[j]? = some (some w)) : al[j]? = some (some w) ∧ ¬ (j + 1 = i ∧ w.category = 2) := by
  cases i with
  | zero => exact ⟨h, fun q => by omega⟩
  | succ a =>
    unfold iv_k at h
    dsimp only at h
    split at h
    · rename_i w0 h0
      split at h
      · rename_i hc
        rw [List.getElem?_set] at h
        split at h
        · split at h
          · cases h
          · cases h
        · exact ⟨h, fun q => by omega⟩
      · rename_i hc
        refine ⟨h, fun q => ?_⟩
        obtain ⟨q1, q2⟩ := q
        have : j = a := by omega
        subst this
        rw [h0] at h
        cases h
        exact hc q2
    · rename_i hn
      refine ⟨h, fun q => ?_⟩
      obtain ⟨q1, q2⟩ := q
      have : j = a := by omega
      subst this
      exact hn w h
theorem iv_s1_lv {ad : iv_A} {al : iv_L} {ls : Array Slot} {nL i : Nat} {v : Value} (h : lv_has ls nL ((i, iv_v ad v) :: (iv_ll ad al).filter (fun q => !(q.1 == i) && !(q.1 + 1 == i && q.2.category == 2)))) : lv_has ls nL (iv_ll ad (iv_s1 al i v)) := by
  refine iv_lv_sub h fun q hq => ?_
  obtain ⟨w, h1, h2⟩ := iv_ll_mem.mp hq
  unfold iv_s1 at h1
  rw [List.getElem?_set] at h1
  obtain ⟨a, b⟩ := q
  dsimp only at h1 h2
  subst h2
  split at h1
  · rename_i e
    subst e
    split at h1
    · cases h1
      exact List.mem_cons_self
    · cases h1
  · rename_i e
    obtain ⟨g1, g2⟩ := iv_k_get h1
    refine List.mem_cons_of_mem _ (List.mem_filter.mpr ⟨iv_ll_mem.mpr ⟨w, g1, rfl⟩, ?_⟩)
    have e' : ¬ a = i := fun z => e z.symm
    simp only [iv_v_cat]
    by_cases hx : a + 1 = i
    · have : ¬ w.category = 2 := fun z => g2 ⟨hx, z⟩
      simp [e', this]
    · simp [e', hx]
theorem iv_s2_lv {ad : iv_A} {al : iv_L} {ls : Array Slot} {nL i : Nat} {v : Value} (h : lv_has ls nL ((i, iv_v ad v) :: (iv_ll ad al).filter (fun q => !(q.1 == i) && (!(q.1 == i + 1) && !(q.1 + 1 == i && q.2.category == 2))))) : lv_has ls nL (iv_ll ad (iv_s2 al i v)) := by
  refine iv_lv_sub h fun q hq => ?_
  obtain ⟨w, h1, h2⟩ := iv_ll_mem.mp hq
  unfold iv_s2 at h1
  rw [List.getElem?_set] at h1
  obtain ⟨a, b⟩ := q
  dsimp only at h1 h2
  subst h2
  split at h1
  · rename_i e
    subst e
    split at h1
    · cases h1
      exact List.mem_cons_self
    · cases h1
  · rename_i e
    rw [List.getElem?_set] at h1
    split at h1
    · split at h1 <;> cases h1
    · rename_i e2
      obtain ⟨g1, g2⟩ := iv_k_get h1
      refine List.mem_cons_of_mem _ (List.mem_filter.mpr ⟨iv_ll_mem.mpr ⟨w, g1, rfl⟩, ?_⟩)
      have e' : ¬ a = i := fun z => e z.symm
      have e3 : ¬ a = i + 1 := fun z => e2 z.symm
      simp only [iv_v_cat]
      by_cases hx : a + 1 = i
      · have : ¬ w.category = 2 := fun z => g2 ⟨hx, z⟩
        simp [e', e3, this]
      · simp [e', e3, hx]
/-- references are numbers of cells -/
def iv_g (n : Nat) (v : Value) : Prop := ∀ k, v = .ref k → k < n
def iv_gl (n : Nat) (st : List Value) : Prop := ∀ v ∈ st, iv_g n v
def iv_ga (n : Nat) (al : iv_L) : Prop := ∀ (i : Nat) (v : Value), al[i]? = some (some v) → iv_g n v
/-- a byte -/
def iv_bt (x : Int32) : Prop := x.toInt8.toInt32 = x
def iv_gc (n : Nat) (c : iv_C) : Prop := match c with
  | .inr (t, _, .inl f) => t = 3 → ∀ j, iv_bt (f j)
  | .inl o => iv_gl n o.2
  | .inr (_, _, .inr (.inr (.inr (.inr f)))) => ∀ j k, f j = some k → k < n
  | _ => True
def iv_gh (n : Nat) (h : iv_H) : Prop := ∀ (k : Nat) (c : iv_C), h[k]? = some c → iv_gc n c
theorem iv_g_i (n : Nat) (x : Int32) : iv_g n (.int x) := fun k h => by cases h
theorem iv_g_j (n : Nat) (x : Int64) : iv_g n (.long x) := fun k h => by cases h
theorem iv_g_d (n : Nat) (x : UInt64) : iv_g n (.double x) := fun k h => by cases h
theorem iv_g_f (n : Nat) (x : UInt32) : iv_g n (.float x) := fun k h => by cases h
theorem iv_g_a (n : Nat) (x : Nat) : iv_g n (.retAddr x) := fun k h => by cases h
theorem iv_g_r {n k : Nat} (h : k < n) : iv_g n (.ref k) := fun q e => by cases e; exact h
theorem iv_g_n (n : Nat) : iv_g n .null := fun k h => by cases h
theorem iv_g.mono {n m : Nat} {v : Value} (h : iv_g n v) (hm : n ≤ m) : iv_g m v := fun k e => Nat.lt_of_lt_of_le (h k e) hm
theorem iv_gl_nil (n : Nat) : iv_gl n [] := fun v h => by cases h
theorem iv_gl.cons {n : Nat} {v : Value} {r : List Value} (h1 : iv_g n v) (h2 : iv_gl n r) : iv_gl n (v :: r) := fun w hw => by
  rcases List.mem_cons.mp hw with rfl | h
  · exact h1
  · exact h2 w h
theorem iv_gl.hd {n : Nat} {v : Value} {r : List Value} (h : iv_gl n (v :: r)) : iv_g n v := h v List.mem_cons_self
theorem iv_gl.tl {n : Nat} {v : Value} {r : List Value} (h : iv_gl n (v :: r)) : iv_gl n r := fun w hw => h w (List.mem_cons_of_mem _ hw)
theorem iv_gl.mono {n m : Nat} {st : List Value} (h : iv_gl n st) (hm : n ≤ m) : iv_gl m st := fun v hv => (h v hv).mono hm
theorem iv_ga.mono {n m : Nat} {al : iv_L} (h : iv_ga n al) (hm : n ≤ m) : iv_ga m al := fun i v hv => (h i v hv).mono hm
theorem iv_gc.mono {n m : Nat} {c : iv_C} (h : iv_gc n c) (hm : n ≤ m) : iv_gc m c := by
  obtain o | ⟨t, k, f | f | f | f | f⟩ := c
  · exact iv_gl.mono h hm
  · exact h
  · trivial
  · trivial
  · trivial
  · exact fun j k e => Nat.lt_of_lt_of_le (h j k e) hm
theorem iv_gh.mono {n m : Nat} {h : iv_H} (g : iv_gh n h) (hm : n ≤ m) : iv_gh m h := fun k c e => (g k c e).mono hm
theorem iv_ga_s1 {n i : Nat} {al : iv_L} {v : Value} (h : iv_ga n al) (hv : iv_g n v) : iv_ga n (iv_s1 al i v) := fun j w hw => by
  unfold iv_s1 at hw
  rw [List.getElem?_set] at hw
  split at hw
  · split at hw
    · cases hw; exact hv
    · cases hw
  · exact h j w (iv_k_get hw).1
theorem iv_ga_s2 {n i : Nat} {al : iv_L} {v : Value} (h : iv_ga n al) (hv : iv_g n v) : iv_ga n (iv_s2 al i v) := fun j w hw => by
  unfold iv_s2 at hw
  rw [List.getElem?_set] at hw
  split at hw
  · split at hw
    · cases hw; exact hv
    · cases hw
  · rw [List.getElem?_set] at hw
    split at hw
    · split at hw <;> cases hw
    · exact h j w (iv_k_get hw).1
/-- addresses that agree on the first n cells -/
def iv_ag (n : Nat) (ad ad' : iv_A) : Prop := ad'.2 = ad.2 ∧ ∀ k, k < n → ad'.1 k = ad.1 k
theorem iv_ag.rf {n : Nat} {ad : iv_A} : iv_ag n ad ad := ⟨rfl, fun _ _ => rfl⟩
theorem iv_ag.tr {n m : Nat} {a b c : iv_A} (h1 : iv_ag n a b) (h2 : iv_ag m b c) (hm : n ≤ m) : iv_ag n a c := ⟨h2.1.trans h1.1, fun k hk => (h2.2 k (by omega)).trans (h1.2 k hk)⟩
theorem iv_v_ag {n : Nat} {ad ad' : iv_A} (h : iv_ag n ad ad') {v : Value} (g : iv_g n v) : iv_v ad' v = iv_v ad v := by
  cases v with
  | ref k => show Value.ref _ = Value.ref _; rw [h.2 k (g k rfl)]
  | retAddr k => show va_rf _ = va_rf _; rw [h.1]
  | _ => rfl
theorem iv_st_ag {n : Nat} {ad ad' : iv_A} (h : iv_ag n ad ad') {st : List Value} (g : iv_gl n st) : st.map (iv_v ad') = st.map (iv_v ad) := List.map_congr_left fun v hv => iv_v_ag h (g v hv)
theorem iv_ll_ag {n : Nat} {ad ad' : iv_A} (h : iv_ag n ad ad') {al : iv_L} (g : iv_ga n al) {ls : Array Slot} {nL : Nat} (hl : lv_has ls nL (iv_ll ad al)) : lv_has ls nL (iv_ll ad' al) := iv_lv_sub hl fun q hq => by
  obtain ⟨v, h1, h2⟩ := iv_ll_mem.mp hq
  exact iv_ll_mem.mpr ⟨v, h1, by rw [h2, iv_v_ag h (g _ v h1)]⟩
theorem iv_e_ag {n : Nat} {ad ad' : iv_A} (h : iv_ag n ad ad') {cO : Nat → ClassId} {c : iv_C} (g : iv_gc n c) : iv_e ad' cO c = iv_e ad cO c := by
  obtain o | ⟨t, m, f | f | f | f | f⟩ := c
  · show Sum.inr (o.1, o.2.map (iv_v ad')) = Sum.inr (o.1, o.2.map (iv_v ad))
    rw [iv_st_ag h g]
  · rfl
  · rfl
  · rfl
  · rfl
  · have e : (fun j => (f j).map (fun k => ad'.1 k)) = (fun j => (f j).map (fun k => ad.1 k)) := by
      funext j
      cases hj : f j with
      | none => rfl
      | some k => show some (ad'.1 k) = some (ad.1 k); rw [h.2 k (g j k hj)]
    show Sum.inl (cO t, (m, Sum.inr (Sum.inr (Sum.inr (Sum.inr (fun j => (f j).map (fun k => ad'.1 k))))))) = Sum.inl (cO t, (m, Sum.inr (Sum.inr (Sum.inr (Sum.inr (fun j => (f j).map (fun k => ad.1 k)))))))
    rw [e]
theorem iv_w_ag {ad ad' : iv_A} {h : iv_H} (ha : iv_ag h.length ad ad') {cO : Nat → ClassId} (g : iv_gh h.length h) : iv_w ad' cO h = iv_w ad cO h := by
  apply List.ext_getElem?
  intro j
  unfold iv_w
  rw [List.getElem?_mapIdx, List.getElem?_mapIdx]
  cases hj : h[j]? with
  | none => rfl
  | some c =>
    show some (ad'.1 j, iv_e ad' cO c) = some (ad.1 j, iv_e ad cO c)
    rw [ha.2 j (List.getElem?_eq_some_iff.mp hj).1, iv_e_ag ha (g j c hj)]
/-- one cell more, at the address q -/
def iv_up (ad : iv_A) (n q : Nat) : iv_A := (fun k => if k = n then q else ad.1 k, ad.2)
theorem iv_up_ag (ad : iv_A) (n q : Nat) : iv_ag n ad (iv_up ad n q) := ⟨rfl, fun k hk => if_neg (by omega)⟩
theorem iv_w_push {ad : iv_A} {cO : Nat → ClassId} {h : iv_H} (g : iv_gh h.length h) {c : iv_C} (gc : iv_gc h.length c) (q : Nat) : iv_w ad cO h ++ [(q, iv_e ad cO c)] = iv_w (iv_up ad h.length q) cO (h ++ [c]) := by
  have ha := iv_up_ag ad h.length q
  have e1 : iv_w (iv_up ad h.length q) cO (h ++ [c]) = iv_w (iv_up ad h.length q) cO h ++ [((iv_up ad h.length q).1 h.length, iv_e (iv_up ad h.length q) cO c)] := by
    unfold iv_w
    rw [List.mapIdx_append]
    simp
  rw [e1, iv_w_ag ha g, iv_e_ag ha gc]
  simp [iv_up]
theorem iv_sz_set {h : iv_H} {k : Nat} {c : iv_C} (e : (h[k]?).map iv_cz = some (iv_cz c)) : iv_sz (h.set k c) = iv_sz h := by
  induction h generalizing k with
  | nil => rfl
  | cons a h ih =>
    cases k with
    | zero =>
      have e' : iv_cz a = iv_cz c := by simpa using e
      show iv_cz c + iv_sz h = iv_cz a + iv_sz h
      rw [e']
    | succ k =>
      show iv_cz a + iv_sz (h.set k c) = iv_cz a + iv_sz h
      rw [ih (by simpa using e)]
theorem iv_sz_app (h : iv_H) (c : iv_C) : iv_sz (h ++ [c]) = iv_sz h + iv_cz c := by
  induction h with
  | nil => show iv_cz c + 0 = 0 + iv_cz c; omega
  | cons a h ih =>
    show iv_cz a + iv_sz (h ++ [c]) = iv_cz a + iv_sz h + iv_cz c
    rw [ih]; omega
theorem iv_ef_le {h h' : iv_H} {f : iv_F} (e : iv_ef h f = some h') : h.length ≤ h'.length ∧ iv_sz h ≤ iv_sz h' := by
  unfold iv_ef at e
  split at e
  · cases e; exact ⟨Nat.le_refl _, Nat.le_refl _⟩
  · cases e
    rw [iv_sz_app, List.length_append]
    exact ⟨by omega, by omega⟩
  · split at e
    · cases e
      rw [iv_sz_set (by assumption), List.length_set]
      exact ⟨Nat.le_refl _, Nat.le_refl _⟩
    · cases e
theorem iv_sz_app2 (a b : iv_H) : iv_sz (a ++ b) = iv_sz a + iv_sz b := by
  induction a with
  | nil => show iv_sz b = 0 + iv_sz b; omega
  | cons c a ih =>
    show iv_cz c + iv_sz (a ++ b) = iv_cz c + iv_sz a + iv_sz b
    rw [ih]; omega
theorem iv_sz_rep (n : Nat) (c : iv_C) : iv_sz (List.replicate n c) = n * iv_cz c := by
  induction n with
  | zero => show 0 = 0 * iv_cz c; omega
  | succ n ih =>
    show iv_cz c + iv_sz (List.replicate n c) = (n + 1) * iv_cz c
    rw [ih, Nat.succ_mul]; omega
theorem iv_mu_s {mi : Nat} {op : Jvm.ClassFile.Instr} {st : List Value} {h : iv_H} {c : List Value × iv_H} (e : iv_mu mi op st h = some c) : ∃ (idx : Nat) (k n : Int32) (r : List Value), op = .multianewarray idx 2 ∧ (iv_mn (iv_kf mi) idx).isSome = true ∧ st = .int k :: .int n :: r ∧ 0 ≤ n ∧ 0 ≤ k ∧ n.toNatClampNeg ≤ 1000 ∧ k.toNatClampNeg ≤ 1000 ∧ c = (.ref h.length :: r, iv_muh h n.toNatClampNeg k.toNatClampNeg) := by
  unfold iv_mu at e
  split at e
  · split at e
    · rename_i hm
      split at e
      · split at e
        · rename_i hc
          exact ⟨_, _, _, _, rfl, hm, rfl, hc.1, hc.2.1, hc.2.2.1, hc.2.2.2, (Option.some.inj e).symm⟩
        · cases e
      · cases e
    · cases e
  · cases e
theorem iv_muh_len (h : iv_H) (n k : Nat) : (iv_muh h n k).length = h.length + 1 + n := by
  unfold iv_muh
  rw [List.length_append, List.length_cons, List.length_replicate]; omega
theorem iv_muh_sz (h : iv_H) (n k : Nat) : iv_sz (iv_muh h n k) = iv_sz h + n + n * k := by
  unfold iv_muh
  rw [iv_sz_app2]
  show iv_sz h + (n + iv_sz (List.replicate n _)) = _
  rw [iv_sz_rep]
  show iv_sz h + (n + n * k) = _
  omega
theorem iv_run_le : ∀ (n : Nat) (z : iv_Z) (d mi : Nat) (S : iv_S) (r : Option Value × iv_H), iv_run z n d mi S = some r → S.2.2.2.length ≤ r.2.length ∧ iv_sz S.2.2.2 ≤ iv_sz r.2 := by
  intro n
  induction n with
  | zero => intro z d mi S r h; cases h
  | succ n ih =>
    intro z d mi S r h
    unfold iv_run at h
    split at h
    · cases h
    · split at h
      · obtain ⟨v, h1, h2⟩ := Option.map_eq_some_iff.mp h
        subst h2
        exact ⟨Nat.le_refl _, Nat.le_refl _⟩
      · split at h
        · split at h
          · cases h
          · split at h
            · cases h
            · rename_i q hq
              have a := ih _ _ _ _ _ hq
              have b := ih _ _ _ _ _ h
              exact ⟨Nat.le_trans a.1 b.1, Nat.le_trans a.2 b.2⟩
        · split at h
          · rename_i c hmu
            obtain ⟨idx, k, n, r0, -, -, -, -, -, -, -, rfl⟩ := iv_mu_s hmu
            have b := ih _ _ _ _ _ h
            have b1 : (iv_muh S.2.2.2 n.toNatClampNeg k.toNatClampNeg).length ≤ r.2.length := b.1
            have b2 : iv_sz (iv_muh S.2.2.2 n.toNatClampNeg k.toNatClampNeg) ≤ iv_sz r.2 := b.2
            rw [iv_muh_len] at b1
            rw [iv_muh_sz] at b2
            exact ⟨by omega, by omega⟩
          · split at h
            · cases h
            · split at h
              · cases h
              · rename_i h' he
                have a := iv_ef_le he
                have b := ih _ _ _ _ _ h
                exact ⟨Nat.le_trans a.1 b.1, Nat.le_trans a.2 b.2⟩
