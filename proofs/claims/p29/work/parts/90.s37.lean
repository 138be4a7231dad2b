/-! THE REFERENCE's BALANCED TABLE: canBe's tables and checks -/
theorem seta_on (s : gx_S) (r c : Nat) (v : Int) (j : Nat) : (seta s r c v).1 232 j = if j = 9 * r + c then v else s.1 232 j := by
  show (if _ then _ else _) = _
  by_cases e : j = 9 * r + c
  · rw [if_pos ⟨rfl, e⟩, if_pos e]
  · rw [if_neg (fun h => e h.2), if_neg e]
theorem seta_1 (s : gx_S) (r c : Nat) (v : Int) (k j : Nat) (h : k ≠ 232) : (seta s r c v).1 k j = s.1 k j := if_neg fun x => h x.1
theorem seta_w (s : gx_S) (r c : Nat) (v : Int) (j : Nat) : (seta s r c v).2 231 j = s.2 231 j - if j = r then v else 0 := by
  show (gw2 (gw2 (gw1 s 232 (9 * r + c) v) 231 r (s.2 231 r - v)) 230 c (s.2 230 c + v)).2 231 j = _
  rw [gw2_2, if_neg (show ¬ (231 = 230 ∧ j = c) by omega), gw2_2, gw1_2]
  by_cases e : j = r
  · rw [if_pos ⟨rfl, e⟩, if_pos e, e]
  · rw [if_neg (fun h => e h.2), if_neg e]
    exact (Int.sub_zero _).symm
theorem seta_f (s : gx_S) (r c : Nat) (v : Int) (j : Nat) : (seta s r c v).2 230 j = s.2 230 j + if j = c then v else 0 := by
  show (gw2 (gw2 (gw1 s 232 (9 * r + c) v) 231 r (s.2 231 r - v)) 230 c (s.2 230 c + v)).2 230 j = _
  rw [gw2_2]
  by_cases e : j = c
  · rw [if_pos ⟨rfl, e⟩, if_pos e, e]
  · rw [if_neg (fun h => e h.2), gw2_2, gw1_2, if_neg (by omega), if_neg e]
    exact (Int.add_zero _).symm
theorem seta_2 (s : gx_S) (r c : Nat) (v : Int) (k j : Nat) (h : k ≠ 230) (h' : k ≠ 231) : (seta s r c v).2 k j = s.2 k j := (if_neg fun x => h x.1).trans (if_neg fun x => h' x.1)
theorem JC_step {s0 s : gx_S} {R m r c : Nat} (hr : r < R) (hc : c < m) (m9 : m ≤ 9) (J : JC s0 s R m r c) : JC s0 (seta s r c (vl s0 (9 * r + c))) R m r (c + 1) := by
  obtain ⟨j1, j2, j3, j4, j5, j6, j7, j8, j9⟩ := J
  have e0 : ¬ ev r c r c := by unfold ev; omega
  have e1 : ev r (c + 1) r c := by unfold ev; omega
  have eo : ∀ x y, ¬ (x = r ∧ y = c) → (ev r (c + 1) x y ↔ ev r c x y) := fun x y h => by unfold ev; omega
  have io : ∀ (x y : Nat) (v : Int), ¬ (x = r ∧ y = c) → (if ev r (c + 1) x y then v else 0) = if ev r c x y then v else 0 := fun x y v h => by
    by_cases q : ev r c x y
    · rw [if_pos q, if_pos ((eo x y h).mpr q)]
    · rw [if_neg q, if_neg (fun z => q ((eo x y h).mp z))]
  refine ⟨cb_tr j1 ⟨fun k j h _ => seta_1 s r c _ k j h, fun k j _ h h' => seta_2 s r c _ k j h h'⟩, fun j => (seta_1 s r c _ 235 j (by decide)).trans (j2 j), fun j => (seta_2 s r c _ 229 j (by decide) (by decide)).trans (j3 j), fun x hx => ?_, fun x hx => ?_, fun y hy => ?_, fun y hy => ?_, fun x y hx hy h => ?_, fun j hj => ?_⟩
  · rw [seta_w, j4 x hx]
    by_cases e : x = r
    · rw [if_pos e, e, sg_updn (f := fun y => if ev r c r y then vl s0 (9 * r + y) else 0) (g := fun y => if ev r (c + 1) r y then vl s0 (9 * r + y) else 0) (i := c) (x := vl s0 (9 * r + c)) hc (by
        show (if _ then _ else _) = (if _ then _ else _) + _
        rw [if_pos e1, if_neg e0]
        omega) fun d _ h2 => io r d _ (by omega)]
      omega
    · rw [if_neg e, sg_eq (f := fun y => if ev r (c + 1) x y then vl s0 (9 * x + y) else 0) (g := fun y => if ev r c x y then vl s0 (9 * x + y) else 0) fun d _ => io x d _ (by omega)]
      omega
  · rw [seta_w, if_neg (by omega), j5 x hx]
    exact Int.sub_zero _
  · rw [seta_f, j6 y hy]
    by_cases e : y = c
    · rw [if_pos e, e, sg_updn (f := fun x => if ev r c x c then vl s0 (9 * x + c) else 0) (g := fun x => if ev r (c + 1) x c then vl s0 (9 * x + c) else 0) (i := r) (x := vl s0 (9 * r + c)) hr (by
        show (if _ then _ else _) = (if _ then _ else _) + _
        rw [if_pos e1, if_neg e0]
        omega) fun d _ h2 => io d c _ (by omega)]
      omega
    · rw [if_neg e, sg_eq (f := fun x => if ev r (c + 1) x y then vl s0 (9 * x + y) else 0) (g := fun x => if ev r c x y then vl s0 (9 * x + y) else 0) fun d _ => io d y _ (by omega)]
      omega
  · rw [seta_f, if_neg (by omega), j7 y hy]
    exact Int.add_zero _
  · rw [seta_on]
    by_cases e : x = r ∧ y = c
    · rw [if_pos (by omega), e.1, e.2]
    · rw [if_neg (by omega)]
      exact j8 x y hx hy ((eo x y e).mp h)
  · rw [seta_on]
    by_cases e : j = 9 * r + c
    · rw [if_pos e]
      exact .inr (vl_01 s0 _)
    · rw [if_neg e]
      exact j9 j hj
theorem JC_row {s0 s : gx_S} {R m r : Nat} (J : JC s0 s R m r m) : JC s0 s R m (r + 1) 0 := by
  obtain ⟨j1, j2, j3, j4, j5, j6, j7, j8, j9⟩ := J
  have eo : ∀ x y, y < m → (ev (r + 1) 0 x y ↔ ev r m x y) := fun x y h => by unfold ev; omega
  have io : ∀ (x y : Nat) (v : Int), y < m → (if ev r m x y then v else 0) = if ev (r + 1) 0 x y then v else 0 := fun x y v h => by
    by_cases q : ev r m x y
    · rw [if_pos q, if_pos ((eo x y h).mpr q)]
    · rw [if_neg q, if_neg (fun z => q ((eo x y h).mp z))]
  refine ⟨j1, j2, j3, fun x hx => ?_, j5, fun y hy => ?_, j7, fun x y hx hy h => j8 x y hx hy ((eo x y hy).mp h), j9⟩
  · rw [j4 x hx, sg_eq (g := fun y => if ev (r + 1) 0 x y then vl s0 (9 * x + y) else 0) fun d hd => io x d _ hd]
  · rw [j6 y hy, sg_eq (g := fun x => if ev (r + 1) 0 x y then vl s0 (9 * x + y) else 0) fun d _ => io d y _ hy]
theorem se_171_75 (k : Int → gx_S → Option (Bool × gx_S)) {s : gx_S} {m r c : Nat} (n : Nat) (hr : r < 8) (hc : c < m) (m9 : m ≤ 9) (h18 : s.1 215 18 = m) (h3 : s.1 233 (9 * r + c) = 0 ∨ s.1 233 (9 * r + c) = 1) (h4 : s.1 234 (9 * r + c) = 0 ∨ s.1 234 (9 * r + c) = 1) : gm_171_75 k (n + 1) r c s = gm_171_75 k n r ((c + 1 : Nat) : Int) (seta s r c (vl s (9 * r + c))) := by
  have i1 : ((9 * (r : Int) + (c : Int))).toNat = 9 * r + c := by omega
  have hx : (-2147483648 ≤ (c : Int) ∧ (c : Int) ≤ 2147483647) := by omega
  have hm : (-2147483648 ≤ (m : Int) ∧ (m : Int) ≤ 2147483647) := by omega
  have hn : ¬ (m : Int) ≤ (c : Int) := by omega
  have h72 : 0 ≤ 9 * (r : Int) + (c : Int) ∧ 9 * (r : Int) + (c : Int) < 72 := by omega
  have g3 : -2147483648 ≤ s.1 233 (9 * r + c) ∧ s.1 233 (9 * r + c) ≤ 2147483647 := by omega
  have g4 : -2147483648 ≤ s.1 234 (9 * r + c) ∧ s.1 234 (9 * r + c) ≤ 2147483647 := by omega
  rw [gm_171_75, h18, if_pos hx, if_pos hm, if_neg hn, sp_160, Option.bind_some]
  show ((gm_160 r c s).bind _) = _
  rw [sp_160, Option.bind_some, if_pos h72]
  show (if (-2147483648 ≤ s.1 233 (9 * (r : Int) + (c : Int)).toNat ∧ s.1 233 (9 * (r : Int) + (c : Int)).toNat ≤ 2147483647) then _ else _) = _
  rw [i1, if_pos g3]
  by_cases z3 : s.1 233 (9 * r + c) = 0
  · rw [if_pos z3, se_171_123 _ hr (by omega) (.inl rfl), show vl s (9 * r + c) = 0 from if_pos z3]
  · rw [if_neg z3]
    show ((gm_160 r c s).bind _) = _
    rw [sp_160, Option.bind_some, if_pos h72]
    show (if (-2147483648 ≤ s.1 234 (9 * (r : Int) + (c : Int)).toNat ∧ s.1 234 (9 * (r : Int) + (c : Int)).toNat ≤ 2147483647) then _ else _) = _
    rw [i1, if_pos g4]
    by_cases z4 : s.1 234 (9 * r + c) = 0
    · rw [if_pos z4, se_171_123 _ hr (by omega) (.inl rfl), show vl s (9 * r + c) = 0 from (if_neg z3).trans (if_pos z4)]
    · rw [if_neg z4, se_171_123 _ hr (by omega) (.inr rfl), show vl s (9 * r + c) = 1 from (if_neg z3).trans (if_neg z4)]
def C01 (s : gx_S) : Prop := ∀ j, j < 72 → (s.1 233 j = 0 ∨ s.1 233 j = 1) ∧ (s.1 234 j = 0 ∨ s.1 234 j = 1)
theorem vl_cb {s t : gx_S} (a : cb s t) (j : Nat) : vl t j = vl s j := by
  unfold vl
  rw [a.1 233 j (by omega) (by omega), a.1 234 j (by omega) (by omega)]
theorem sl_171_75 {s0 : gx_S} {R m r : Nat} (k : Int → gx_S → Option (Bool × gx_S)) (hr : r < R) (R8 : R ≤ 8) (m9 : m ≤ 9) (h18 : s0.1 215 18 = m) (h01 : C01 s0) : ∀ (n c : Nat) (s : gx_S), m < n + c → c ≤ m → JC s0 s R m r c → ∃ u : gx_S, gm_171_75 k n r c s = k ((r + 1 : Nat) : Int) u ∧ JC s0 u R m r m := by
  intro n
  induction n with
  | zero => intro c s h; omega
  | succ n ih =>
    intro c s h hc J
    have a := J.1
    have e18 : s.1 215 18 = m := (a.1 215 18 (by omega) (by omega)).trans h18
    by_cases q : c = m
    · refine ⟨s, ?_, q ▸ J⟩
      rw [gm_171_75, e18, q]
      have ce : ((r : Int) + 1) = ((r + 1 : Nat) : Int) := rfl
      simp (disch := omega) only [if_pos, ce]
    · rw [se_171_75 k n (by omega) (by omega) m9 e18 (by rw [a.1 233 _ (by omega) (by omega)]; exact (h01 _ (by omega)).1) (by rw [a.1 234 _ (by omega) (by omega)]; exact (h01 _ (by omega)).2), vl_cb a]
      exact ih (c + 1) _ (by omega) (by omega) (JC_step hr (by omega) m9 J)
theorem sl_171_65 {s0 : gx_S} {R m : Nat} (R8 : R ≤ 8) (m9 : m ≤ 9) (h17 : s0.1 215 17 = R) (h18 : s0.1 215 18 = m) (h01 : C01 s0) : ∀ (n r : Nat) (s : gx_S), R < n + r → r ≤ R → JC s0 s R m r 0 → ∃ u : gx_S, gm_171_65 n r s = ((gm_170 u).bind fun q => gm_171_188 100000 0 q) ∧ JC s0 u R m R 0 := by
  intro n
  induction n with
  | zero => intro c s h; omega
  | succ n ih =>
    intro r s h hr J
    have e17 : s.1 215 17 = R := (J.1.1 215 17 (by omega) (by omega)).trans h17
    by_cases q : r = R
    · refine ⟨s, ?_, q ▸ J⟩
      rw [gm_171_65, e17, q]
      simp (disch := omega) only [if_pos]
    · obtain ⟨u, u1, u2⟩ := sl_171_75 (gm_171_65 n) (show r < R by omega) R8 m9 h18 h01 100000 0 s (by omega) (by omega) J
      have u1 : gm_171_75 (gm_171_65 n) 100000 r 0 s = gm_171_65 n ((r + 1 : Nat) : Int) u := u1
      obtain ⟨v, v1, v2⟩ := ih (r + 1) u (by omega) (by omega) (JC_row u2)
      refine ⟨v, ?_, v2⟩
      rw [gm_171_65, e17, if_pos (by omega), if_pos (by omega), if_neg (by omega), u1, v1]
theorem sl_171_254 {R : Nat} {s : gx_S} (R8 : R ≤ 8) (h17 : s.1 215 17 = R) (W : WB s) : ∀ (n r : Nat), R < n + r → r ≤ R → ∃ v : Bool, gm_171_254 n r s = some (v, s) ∧ (v = true ↔ ∀ x, r ≤ x → x < R → s.2 231 x = 0) := by
  intro n
  induction n with
  | zero => intro r h; omega
  | succ n ih =>
    intro r h hr
    have i5 : ((r : Int)).toNat = r := by omega
    have ce : ((r : Int) + 1) = ((r + 1 : Nat) : Int) := rfl
    rw [gm_171_254, h17, if_pos (by omega), if_pos (by omega)]
    by_cases q : r = R
    · rw [if_pos (by omega)]
      exact ⟨true, rfl, fun _ x h1 h2 => absurd h2 (by omega), fun _ => rfl⟩
    · have w := W r (by omega)
      rw [if_neg (by omega), if_pos (by omega), i5, if_pos (by omega)]
      by_cases z : s.2 231 r = 0
      · rw [if_pos z, ce]
        obtain ⟨v, v1, v2⟩ := ih (r + 1) (by omega) (by omega)
        refine ⟨v, v1, fun h x h1 h2 => ?_, fun h => v2.mpr fun x h1 h2 => h x (by omega) h2⟩
        by_cases e : x = r
        · rw [e]; exact z
        · exact v2.mp h x (by omega) h2
      · rw [if_neg z]
        exact ⟨false, rfl, fun h => Bool.noConfusion h, fun h => absurd (h r (by omega) (by omega)) z⟩
def i64 (x : Int) : Prop := -9223372036854775808 ≤ x ∧ x ≤ 9223372036854775807
theorem sl_171_188 {m : Nat} (m9 : m ≤ 9) : ∀ (n c : Nat) (s : gx_S), m < n + c → c ≤ m → s.1 215 18 = m → (∀ j, j < 9 → i64 (s.2 230 j) ∧ i64 (s.2 227 j) ∧ i64 (s.2 228 j)) → ∃ u : gx_S, u.1 = s.1 ∧ (∀ k j, k ≠ 229 → u.2 k j = s.2 k j) ∧ (((∃ j, j < m ∧ ¬ (s.2 227 j ≤ s.2 230 j ∧ s.2 230 j ≤ s.2 228 j)) ∧ (∀ j, u.2 229 j = s.2 229 j ∨ (j < m ∧ u.2 229 j = s.2 228 j)) ∧ gm_171_188 n c s = some (false, u)) ∨ ((∀ j, c ≤ j → j < m → s.2 227 j ≤ s.2 230 j ∧ s.2 230 j ≤ s.2 228 j) ∧ (∀ j, u.2 229 j = if c ≤ j ∧ j < m then s.2 228 j else s.2 229 j) ∧ gm_171_188 n c s = ((gm_170 u).bind fun q => gm_171_254 100000 0 q))) := by
  intro n
  induction n with
  | zero => intro c s h; omega
  | succ n ih =>
    intro c s h hc e g
    have i5 : ((c : Int)).toNat = c := by omega
    have ce : ((c : Int) + 1) = ((c + 1 : Nat) : Int) := rfl
    rw [gm_171_188, e, if_pos (by omega), if_pos (by omega)]
    by_cases q : c = m
    · rw [if_pos (by omega)]
      exact ⟨s, rfl, fun _ _ _ => rfl, .inr ⟨fun j h1 h2 => by omega, fun j => by rw [if_neg (by omega)], rfl⟩⟩
    · obtain ⟨g0, g7, g8⟩ := g c (by omega)
      unfold i64 at g0 g7 g8
      rw [if_neg (by omega), if_pos (by omega), i5, if_pos g0, if_pos g7]
      by_cases z1 : s.2 230 c < s.2 227 c
      · rw [if_pos z1]
        exact ⟨s, rfl, fun _ _ _ => rfl, .inl ⟨⟨c, by omega, by omega⟩, fun j => .inl rfl, rfl⟩⟩
      · rw [if_neg z1, if_pos g8]
        by_cases z2 : s.2 230 c ≤ s.2 228 c
        · rw [if_pos z2, ce]
          have o : ∀ k j, k ≠ 229 → (gw2 s 229 c (s.2 228 c)).2 k j = s.2 k j := fun k j h => if_neg fun x => h x.1
          have o9 : ∀ j, (gw2 s 229 c (s.2 228 c)).2 229 j = if j = c then s.2 228 c else s.2 229 j := fun j => by
            show (if _ then _ else _) = _
            by_cases q' : j = c
            · rw [if_pos ⟨rfl, q'⟩, if_pos q']
            · rw [if_neg (fun x => q' x.2), if_neg q']
          obtain ⟨u, u1, u2, u3⟩ := ih (c + 1) (gw2 s 229 c (s.2 228 c)) (by omega) (by omega) e (fun j hj => by rw [o 230 j (by decide), o 227 j (by decide), o 228 j (by decide)]; exact g j hj)
          refine ⟨u, u1, fun k j h => (u2 k j h).trans (o k j h), ?_⟩
          rcases u3 with ⟨⟨j, p1, p2⟩, p3, p4⟩ | ⟨p1, p2, p3⟩
          · refine .inl ⟨⟨j, p1, ?_⟩, fun j => ?_, p4⟩
            · rw [o 230 j (by decide), o 227 j (by decide), o 228 j (by decide)] at p2
              exact p2
            · have a := p3 j
              rw [o9, o 228 j (by decide)] at a
              by_cases q' : j = c
              · rw [if_pos q', q'] at a
                rw [q']
                exact .inr ⟨by omega, by rcases a with a | a; exact a; exact a.2⟩
              · rw [if_neg q'] at a
                exact a
          · refine .inr ⟨fun j h1 h2 => ?_, fun j => ?_, p3⟩
            · by_cases q' : j = c
              · rw [q']; omega
              · have a := p1 j (by omega) h2
                rw [o 230 j (by decide), o 227 j (by decide), o 228 j (by decide)] at a
                exact a
            · rw [p2 j, o9, o 228 j (by decide)]
              by_cases q' : j = c
              · rw [if_neg (by omega), if_pos q', if_pos (by omega), q']
              · by_cases q2 : c + 1 ≤ j ∧ j < m
                · rw [if_pos q2, if_pos (by omega)]
                · rw [if_neg q2, if_neg q', if_neg (by omega)]
        · rw [if_neg z2]
          exact ⟨s, rfl, fun _ _ _ => rfl, .inl ⟨⟨c, by omega, by omega⟩, fun j => .inl rfl, rfl⟩⟩
