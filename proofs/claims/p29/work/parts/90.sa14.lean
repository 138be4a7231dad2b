/-! FIT: the class finds the best row -/
section
variable {X : Nat → Nat → Int} {c : Nat → Int} {P : Int} {o : Nat → Int}
theorem WS_c {s : gx_S} {w w' : Nat → Int} (h : ∀ l, l < 4 → w l = w' l) (W : WS s X w) : WS s X w' := by
  refine ⟨fun z hz k => (W.1 z hz k).trans ?_, W.2.trans ?_⟩
  · exact sg_eq fun l hl => by rw [h l hl]
  · exact sg_eq fun l hl => by rw [h l hl]
theorem WS_u {s u : gx_S} {w w' : Nat → Int} {m : Nat} {d : Int} (hm : m < 4) (W : WS s X w) (e1 : ∀ z, z < 8 → KZ X z → u.1 68 (rk X z) = s.1 68 (rk X z) + d * X z m) (e2 : u.2 62 8 = s.2 62 8 + d * LC X m) (h1 : w' m = w m + d) (h2 : ∀ j, j ≠ m → w' j = w j) : WS u X w' := by
  refine ⟨fun z hz k => ?_, ?_⟩
  · rw [e1 z hz k, W.1 z hz k]
    exact (sg_upd (f := fun l => w l * X z l) (g := fun l => w' l * X z l) (i := m) (x := d * X z m) (by show w' m * X z m = _; rw [h1, Int.add_mul]) (fun j hj => by show w' j * X z j = _; rw [h2 j hj]) hm).symm
  · rw [e2, W.2]
    exact (sg_upd (f := fun l => w l * LC X l) (g := fun l => w' l * LC X l) (i := m) (x := d * LC X m) (by show w' m * LC X m = _; rw [h1, Int.add_mul]) (fun j hj => by show w' j * LC X j = _; rw [h2 j hj]) hm).symm
/-- weighed by r, which is the row -/
def OD (s : gx_S) (X : Nat → Nat → Int) (c : Nat → Int) (P : Int) (r : Nat → Int) : Prop := FS s X c P ∧ WS s X r ∧ ∀ l, l < 4 → s.1 67 l = r l
theorem OD_c {s : gx_S} {w w' : Nat → Int} (h : ∀ l, l < 4 → w l = w' l) (D : OD s X c P w) : OD s X c P w' := ⟨D.1, WS_c h D.2.1, fun l hl => (D.2.2 l hl).trans (h l hl)⟩
def FQ (s u : gx_S) : Prop := (∀ a i, a ≠ 67 → a ≠ 68 → u.1 a i = s.1 a i) ∧ ∀ a i, ¬ (a = 62 ∧ i = 8) → u.2 a i = s.2 a i
theorem FQ_tr {s t u : gx_S} (x : FQ s t) (y : FQ t u) : FQ s u := ⟨fun a i h1 h2 => (y.1 a i h1 h2).trans (x.1 a i h1 h2), fun a i h => (y.2 a i h).trans (x.2 a i h)⟩
theorem FQ_rf (s : gx_S) : FQ s s := ⟨fun _ _ _ _ => rfl, fun _ _ _ => rfl⟩
/-- the next row -/
theorem sl_17 {e : Nat} (B : XB X c P) (ho : wB9 o) : ∀ (m n : Nat) (t : gx_S) (r : Nat → Int), m < n → m ≤ 4 → OD t X c P r → (∀ j, j < m → r j = RE X o e j) → (∀ j, m ≤ j → j < 4 → r j = RE X o (e + 1) j) → zq X (4 - m) ∣ e + 1 → ∃ u : gx_S, gm_17_2 n ((m : Int) - 1) t = some u ∧ OD u X c P (RE X o (e + 1)) ∧ FQ t u := by
  intro m
  induction m with
  | zero =>
    intro n t r hn _ D h1 h2 _
    obtain ⟨n, rfl⟩ : ∃ k, n = k + 1 := ⟨n - 1, by omega⟩
    rw [gm_17_2, if_pos (by omega), if_pos (by omega)]
    exact ⟨t, rfl, OD_c (fun l hl => h2 l (by omega) hl) D, FQ_rf t⟩
  | succ m ih =>
    intro n t r hn hm D h1 h2 hz
    obtain ⟨n, rfl⟩ : ∃ k, n = k + 1 := ⟨n - 1, by omega⟩
    have em : (((m + 1 : Nat) : Int) - 1) = (m : Int) := by omega
    have i1 : ((m : Int)).toNat = m := by omega
    have ce : ((m : Int) + (-1)) = (m : Int) - 1 := rfl
    have hz : zq X (3 - m) ∣ e + 1 := by rw [show 3 - m = 4 - (m + 1) by omega]; exact hz
    have lr := LC_r B (show m < 4 by omega)
    have rm := h1 m (by omega)
    have rb := RE_B X ho e m (by omega)
    have e66 := D.1.2.2.1 m (by omega)
    have e67 := D.2.2 m (by omega)
    rw [gm_17_2, em, if_pos (by omega), if_neg (by omega), if_pos (by omega), i1, e66, if_pos (by omega)]
    by_cases q : LC X m ≤ 0
    · rw [if_pos q]
      unfold gm_17_43 gm_17_71
      rw [if_pos (by omega), i1, e66, if_pos (by omega), if_pos q, ce]
      refine ih n t r (by omega) (by omega) D (fun j hj => h1 j (by omega)) (fun j h3 h4 => ?_) ?_
      · by_cases p : j = m
        · rw [p, rm, RE_z (by omega), RE_z (by omega)]
        · exact h2 j (by omega) h4
      · rw [show 4 - m = (3 - m) + 1 by omega]
        show bsz X (3 - (3 - m)) * zq X (3 - m) ∣ e + 1
        rw [show 3 - (3 - m) = m by omega]
        unfold bsz
        rw [if_neg (by omega), Nat.one_mul]
        exact hz
    · obtain ⟨up1, up2⟩ := RE_up (o := o) (show m < 4 by omega) (show 0 < LC X m by omega) hz
      rw [if_neg q, e67, rm, if_pos (by omega)]
      by_cases y : 9 ≤ RE X o e m
      · obtain ⟨z1, z2⟩ := up2 (by omega)
        rw [if_pos y]
        unfold gm_17_43 gm_17_71
        obtain ⟨v, v1, v2, v3, v4, v5⟩ := sp_13 (w := -RE X o e m) (l := m) D.1 B (by omega) (by omega)
        rw [if_pos (by omega), i1, e66, if_pos (by omega), if_neg q, e67, rm, v1, Option.bind_some, ce]
        obtain ⟨a, ha⟩ : ∃ a, a = gw1 v 67 m 0 := ⟨_, rfl⟩
        have a1 : ∀ b i, ¬ (b = 67 ∧ i = m) → a.1 b i = v.1 b i := fun b i h => by rw [ha, gw1_1, if_neg h]
        have a2 : a.1 67 m = 0 := by rw [ha, gw1_1, if_pos ⟨rfl, rfl⟩]
        have a3 : a.2 = v.2 := by rw [ha]; rfl
        have fa : FQ t a := ⟨fun b i h3 h4 => by rw [a1 b i (by omega), v2 b i h4], fun b i h3 => by rw [a3, v5 b i h3]⟩
        rw [← ha]
        have Da : OD a X c P (fun j => if j = m then 0 else r j) := by
          refine ⟨FS_o (fun b i h3 => fa.1 b i (by omega) (by omega)) (fa.2 _ _ (by omega)) D.1, WS_u (m := m) (d := -RE X o e m) (by omega) D.2.1 (fun z hz k => by rw [a1 _ _ (by omega)]; exact v3 z hz k) (by rw [a3]; exact v4) ?_ (fun j hj => if_neg hj), fun l hl => ?_⟩
          · show (if m = m then (0 : Int) else r m) = _
            rw [if_pos rfl, rm]
            omega
          · show _ = (if l = m then (0 : Int) else r l)
            by_cases p : l = m
            · rw [if_pos p, p]; exact a2
            · rw [if_neg p, a1 _ _ (fun x => p x.2), v2 _ _ (by decide)]
              exact D.2.2 l hl
        obtain ⟨u, u1, u2, u3⟩ := ih n a (fun j => if j = m then 0 else r j) (by omega) (by omega) Da (fun j hj => by
          show (if j = m then (0 : Int) else r j) = _
          rw [if_neg (by omega)]
          exact h1 j (by omega)) (fun j h3 h4 => by
          show (if j = m then (0 : Int) else r j) = _
          by_cases p : j = m
          · rw [if_pos p, p, z1]
          · rw [if_neg p]
            exact h2 j (by omega) h4) z2
        exact ⟨u, u1, u2, FQ_tr fa u3⟩
      · obtain ⟨z1, z2⟩ := up1 (by omega)
        rw [if_neg y]
        obtain ⟨a, ha⟩ : ∃ a, a = gw1 t 67 m (RE X o e m + 1) := ⟨_, rfl⟩
        have a1 : ∀ b i, ¬ (b = 67 ∧ i = m) → a.1 b i = t.1 b i := fun b i h => by rw [ha, gw1_1, if_neg h]
        have a2 : a.1 67 m = RE X o e m + 1 := by rw [ha, gw1_1, if_pos ⟨rfl, rfl⟩]
        have a3 : a.2 = t.2 := by rw [ha]; rfl
        have Fa : FS a X c P := FS_o (fun b i h3 => a1 b i (by omega)) (by rw [a3]) D.1
        obtain ⟨v, v1, v2, v3, v4, v5⟩ := sp_13 (w := 1) (l := m) Fa B (by omega) (by omega)
        rw [← ha, v1, Option.bind_some]
        refine ⟨v, rfl, OD_c (w := fun j => if j = m then RE X o e m + 1 else r j) (fun l hl => ?_) ⟨FS_o (fun b i h3 => v2 b i (by omega)) (v5 _ _ (by omega)) Fa, WS_u (m := m) (d := 1) (by omega) D.2.1 (fun z hz k => by rw [v3 z hz k, a1 _ _ (by omega)]) (by rw [v4, a3]) ?_ (fun j hj => if_neg hj), fun l hl => ?_⟩, ⟨fun b i h3 h4 => by rw [v2 b i h4, a1 b i (by omega)], fun b i h3 => by rw [v5 b i h3, a3]⟩⟩
        · show (if l = m then RE X o e m + 1 else r l) = _
          by_cases p : l = m
          · rw [if_pos p, p, z1]
          · rw [if_neg p]
            by_cases p2 : l < m
            · rw [h1 l (by omega), z2 l p2]
            · exact h2 l (by omega) hl
        · show (if m = m then RE X o e m + 1 else r m) = _
          rw [if_pos rfl, rm]
        · show _ = (if l = m then RE X o e m + 1 else r l)
          rw [v2 _ _ (by decide)]
          by_cases p : l = m
          · rw [if_pos p, p]; exact a2
          · rw [if_neg p, a1 _ _ (fun x => p x.2)]
            exact D.2.2 l hl
theorem sp_17 {e : Nat} {s : gx_S} (B : XB X c P) (ho : wB9 o) (D : OD s X c P (RE X o e)) : ∃ u : gx_S, gm_17 s = some u ∧ OD u X c P (RE X o (e + 1)) ∧ FQ s u := by
  obtain ⟨u, u1, u2, u3⟩ := sl_17 B ho 4 100000 s (RE X o e) (by omega) (by omega) D (fun _ _ => rfl) (fun j h1 h2 => absurd h2 (by omega)) ⟨e + 1, (Nat.one_mul _).symm⟩
  exact ⟨u, u1, u2, u3⟩
/-- the best so far -/
def CBf (s : gx_S) (X : Nat → Nat → Int) (c : Nat → Int) (P : Int) (o : Nat → Int) (e : Nat) : Prop := (BI X c P o e = none → s.2 62 10 = 0 ∧ s.2 62 9 = 1 ∧ ∀ l, l < 4 → s.1 63 l = o l) ∧ ∀ i, BI X c P o e = some i → s.2 62 10 = SA X (RE X o i) ∧ s.2 62 9 = MS X c P (RE X o i) ∧ ∀ l, l < 4 → s.1 63 l = RE X o i l
theorem CBf_FQ {s u : gx_S} {e : Nat} (h : FQ s u) (C : CBf s X c P o e) : CBf u X c P o e := by
  refine ⟨fun q => ?_, fun i q => ?_⟩
  · obtain ⟨a, b, d⟩ := C.1 q
    exact ⟨(h.2 _ _ (by omega)).trans a, (h.2 _ _ (by omega)).trans b, fun l hl => (h.1 _ _ (by omega) (by omega)).trans (d l hl)⟩
  · obtain ⟨a, b, d⟩ := C.2 i q
    exact ⟨(h.2 _ _ (by omega)).trans a, (h.2 _ _ (by omega)).trans b, fun l hl => (h.1 _ _ (by omega) (by omega)).trans (d l hl)⟩
def FRf (s u : gx_S) : Prop := (∀ a i, a ≠ 63 → a ≠ 67 → a ≠ 68 → u.1 a i = s.1 a i) ∧ ∀ a i, ¬ (a = 62 ∧ 8 ≤ i) → u.2 a i = s.2 a i
theorem FRf_tr {s t u : gx_S} (x : FRf s t) (y : FRf t u) : FRf s u := ⟨fun a i h1 h2 h3 => (y.1 a i h1 h2 h3).trans (x.1 a i h1 h2 h3), fun a i h => (y.2 a i h).trans (x.2 a i h)⟩
theorem FRf_rf (s : gx_S) : FRf s s := ⟨fun _ _ _ _ _ => rfl, fun _ _ _ => rfl⟩
theorem FQ_FRf {s u : gx_S} (h : FQ s u) : FRf s u := ⟨fun a i _ h2 h3 => h.1 a i h2 h3, fun a i q => h.2 a i (by omega)⟩
theorem sp_16 {e : Nat} {s : gx_S} (B : XB X c P) (ho : wB9 o) (D : OD s X c P (RE X o e)) (C : CBf s X c P o e) (sp : 0 < SA X (RE X o e)) : ∃ u : gx_S, gm_16 s = some u ∧ OD u X c P (RE X o e) ∧ CBf u X c P o (e + 1) ∧ FRf s u := by
  have We := RE_B X ho e
  have c14 := sp_14 D.1 B We D.2.1
  have mr := MS_r B We
  have sr := SA_r B We
  have e8 : s.2 62 8 = SA X (RE X o e) := D.2.1.2
  -- what is kept if it is better
  have st : BI X c P o (e + 1) = some e → ∃ u : gx_S, gm_16_33 (MS X c P (RE X o e)) s = some u ∧ OD u X c P (RE X o e) ∧ CBf u X c P o (e + 1) ∧ FRf s u := fun hb => by
    unfold gm_16_33
    obtain ⟨u, hu⟩ : ∃ u, u = gcp (gw2 (gw2 s 62 9 (MS X c P (RE X o e))) 62 10 ((gw2 s 62 9 (MS X c P (RE X o e))).2 62 8)) 67 0 63 0 4 := ⟨_, rfl⟩
    have u1 : ∀ a i, a ≠ 63 → u.1 a i = s.1 a i := fun a i h => by rw [hu, gcp_1, if_neg (fun x => h x.1)]; rfl
    have uu : u.2 = (gw2 (gw2 s 62 9 (MS X c P (RE X o e))) 62 10 ((gw2 s 62 9 (MS X c P (RE X o e))).2 62 8)).2 := by rw [hu]; rfl
    have u2 : ∀ a i, ¬ (a = 62 ∧ (i = 9 ∨ i = 10)) → u.2 a i = s.2 a i := fun a i h => by rw [uu, gw2_2, if_neg (by omega), gw2_2, if_neg (by omega)]
    have u3 : u.2 62 10 = SA X (RE X o e) := by rw [uu, gw2_2, if_pos ⟨rfl, rfl⟩, gw2_2, if_neg (by omega), e8]
    have u4 : u.2 62 9 = MS X c P (RE X o e) := by rw [uu, gw2_2, if_neg (by omega), gw2_2, if_pos ⟨rfl, rfl⟩]
    have u5 : ∀ l, l < 4 → u.1 63 l = RE X o e l := fun l hl => by
      rw [hu, gcp_1, if_pos ⟨rfl, by omega, by omega⟩]
      show s.1 67 (0 + (l - 0)) = _
      rw [show 0 + (l - 0) = l by omega]
      exact D.2.2 l hl
    refine ⟨u, by rw [hu], ⟨FS_o (fun b i h => u1 b i (by omega)) (u2 _ _ (by omega)) D.1, ⟨fun z hz k => (u1 _ _ (by decide)).trans (D.2.1.1 z hz k), (u2 _ _ (by omega)).trans e8⟩, fun l hl => (u1 _ _ (by decide)).trans (D.2.2 l hl)⟩, ⟨fun q => ?_, fun i q => ?_⟩, ⟨fun a i h1 _ _ => u1 a i h1, fun a i h => u2 a i (by omega)⟩⟩
    · rw [hb] at q; cases q
    · rw [hb] at q
      cases q
      exact ⟨u3, u4, u5⟩
  unfold gm_16
  rw [c14, Option.bind_some]
  dsimp only
  cases q : BI X c P o e with
  | none =>
    obtain ⟨a, b, d⟩ := C.1 q
    rw [a, if_pos (by omega), if_pos rfl]
    exact st (by rw [BI_n q, if_pos sp])
  | some i =>
    obtain ⟨a, b, d⟩ := C.2 i q
    have pi := (BI_p e i q).2
    have m1 := MS_r B (RE_B X ho i)
    have s1 := SA_r B (RE_B X ho i)
    have p1 := mul_r mr s1
    have p2 := mul_r m1 sr
    rw [a, if_pos (by omega), if_neg (by omega), if_pos (by omega), b, e8, if_pos (by omega)]
    by_cases y : MS X c P (RE X o i) * SA X (RE X o e) ≤ MS X c P (RE X o e) * SA X (RE X o i)
    · rw [if_pos y]
      have hb : BI X c P o (e + 1) = some i := by rw [BI_s q, if_neg (by omega)]
      refine ⟨s, rfl, D, ⟨fun p => ?_, fun k p => ?_⟩, FRf_rf s⟩
      · rw [hb] at p; cases p
      · rw [hb] at p
        cases p
        exact ⟨a, b, d⟩
    · rw [if_neg y]
      exact st (by rw [BI_s q, if_pos ⟨sp, by omega⟩])
theorem sl_15_80 (B : XB X c P) (ho : wB9 o) : ∀ (n e : Nat) (t : gx_S), zq X 4 < n + e → e ≤ zq X 4 → OD t X c P (RE X o e) → CBf t X c P o e → ∃ u : gx_S, gm_15_80 n (zq X 4 : Nat) e t = some u ∧ CBf u X c P o (zq X 4) ∧ FRf t u := by
  have z4 := zq_r X 4
  intro n
  induction n with
  | zero => intro e t h; omega
  | succ n ih =>
    intro e t h he D C
    rw [gm_15_80, if_pos (by omega), if_pos (by omega)]
    by_cases q : e = zq X 4
    · rw [if_pos (by omega)]
      rw [q] at C
      exact ⟨t, rfl, C, FRf_rf t⟩
    · have ce : ((e : Int) + 1) = ((e + 1 : Nat) : Int) := rfl
      have e8 : t.2 62 8 = SA X (RE X o e) := D.2.1.2
      have sr := SA_r B (RE_B X ho e)
      have r9 : 0 ≤ t.2 62 9 ∧ t.2 62 9 ≤ 19904569344 := by
        cases p : BI X c P o e with
        | none => rw [(C.1 p).2.1]; omega
        | some i => rw [(C.2 i p).2.1]; exact MS_r B (RE_B X ho i)
      rw [if_neg (by omega), if_pos (by omega)]
      by_cases y : t.2 62 9 ≤ 0
      · rw [if_pos y]
        refine ⟨t, rfl, ?_, FRf_rf t⟩
        cases p : BI X c P o e with
        | none => rw [(C.1 p).2.1] at y; omega
        | some i =>
          rw [(C.2 i p).2.1] at y
          have hs := BI_stop B ho p y (zq X 4 - e)
          rw [show e + (zq X 4 - e) = zq X 4 by omega] at hs
          refine ⟨fun k => ?_, fun k hk => ?_⟩
          · rw [hs] at k; cases k
          · rw [hs] at hk
            cases hk
            exact C.2 i p
      · have nx : ∀ v : gx_S, OD v X c P (RE X o e) → CBf v X c P o (e + 1) → FRf t v → ∃ u : gx_S, gm_15_107 (gm_15_80 n) (zq X 4 : Nat) e v = some u ∧ CBf u X c P o (zq X 4) ∧ FRf t u := fun v Dv Cv fv => by
          obtain ⟨a, a1, a2, a3⟩ := sp_17 B ho Dv
          obtain ⟨u, u1, u2, u3⟩ := ih (e + 1) a (by omega) (by omega) a2 (CBf_FQ a3 Cv)
          refine ⟨u, ?_, u2, FRf_tr fv (FRf_tr (FQ_FRf a3) u3)⟩
          unfold gm_15_107
          rw [a1, Option.bind_some, ce, u1]
        rw [if_neg y, e8, if_pos (by omega)]
        by_cases k : SA X (RE X o e) ≤ 0
        · rw [if_pos k]
          have hb := BI_0 (X := X) (c := c) (P := P) (o := o) (e := e) (by omega)
          refine nx t D ?_ (FRf_rf t)
          unfold CBf
          rw [hb]
          exact C
        · rw [if_neg k]
          obtain ⟨v, v1, v2, v3, v4⟩ := sp_16 B ho D C (by omega)
          rw [v1, Option.bind_some]
          exact nx v v2 v3 v4
theorem sl_15_4 (B : XB X c P) (ho : wB9 o) : ∀ (n j A : Nat) (t : gx_S), 4 < n + j → j ≤ 4 → A * zq X (4 - j) = zq X 4 → FS t X c P → (∀ l, l < 4 → t.1 63 l = o l) → (∀ l, l < j → t.1 67 l = RE X o 0 l) → ∃ u : gx_S, gm_15_4 n A j t = some u ∧ CBf u X c P o (zq X 4) ∧ FRf t u := by
  have z4 := zq_r X 4
  intro n
  induction n with
  | zero => intro j A t h; omega
  | succ n ih =>
    intro j A t h hj eA F e63 e67
    rw [gm_15_4, if_pos (by omega)]
    by_cases q : j = 4
    · have eA : A = zq X 4 := by
        rw [q] at eA
        have : A * 1 = zq X 4 := eA
        omega
      rw [if_pos (by omega), eA]
      obtain ⟨v, v1, v2, v3, v4⟩ := sp_12 (k := 67) (a := 0) (m := 4) (w := RE X o 0) F B (by decide +kernel) (by omega) (by decide) (RE_B X ho 0) fun l hl => by rw [Nat.zero_add]; exact e67 l (by omega)
      have v1 : gm_12 67 0 t = _ := v1
      rw [v1, Option.bind_some]
      obtain ⟨b, hb⟩ : ∃ b, b = gw2 (gw2 v 62 10 0) 62 9 1 := ⟨_, rfl⟩
      have b1 : b.1 = v.1 := by rw [hb]; rfl
      have b2 : ∀ a i, ¬ (a = 62 ∧ (i = 9 ∨ i = 10)) → b.2 a i = v.2 a i := fun a i h => by rw [hb, gw2_2, if_neg (by omega), gw2_2, if_neg (by omega)]
      show ∃ u : gx_S, gm_15_80 100000 (zq X 4 : Nat) 0 (gw2 (gw2 v 62 10 0) 62 9 1) = some u ∧ _
      rw [← hb]
      have fb : FRf t b := ⟨fun a i _ _ h3 => by rw [b1]; exact v3 a i h3, fun a i h => by rw [b2 a i (by omega)]; exact v4 a i (by omega)⟩
      obtain ⟨u, u1, u2, u3⟩ := sl_15_80 B ho 100000 0 b (by omega) (by omega) ⟨FS_o (fun a i h => fb.1 a i (by omega) (by omega) (by omega)) (fb.2 _ _ (by omega)) F, ⟨fun z hz k => by rw [b1]; exact v2.1 z hz k, (b2 _ _ (by omega)).trans v2.2⟩, fun l hl => by rw [b1, v3 _ _ (by decide)]; exact e67 l (by omega)⟩ ⟨fun _ => ⟨by rw [hb, gw2_2, if_neg (by omega), gw2_2, if_pos ⟨rfl, rfl⟩], by rw [hb, gw2_2, if_pos ⟨rfl, rfl⟩], fun l hl => by rw [b1, v3 _ _ (by decide)]; exact e63 l hl⟩, fun i p => by cases p⟩
      have u1 : gm_15_80 100000 (zq X 4 : Nat) 0 b = _ := u1
      exact ⟨u, u1, u2, FRf_tr fb u3⟩
    · have ce : ((j : Int) + 1) = ((j + 1 : Nat) : Int) := rfl
      have i1 : ((j : Int)).toNat = j := by omega
      have lr := LC_r B (show j < 4 by omega)
      have e66 := F.2.2.1 j (by omega)
      have z4 : zq X (4 - j) = bsz X j * zq X (4 - (j + 1)) := by
        rw [show 4 - j = (4 - (j + 1)) + 1 by omega]
        show bsz X (3 - (4 - (j + 1))) * _ = _
        rw [show 3 - (4 - (j + 1)) = j by omega]
      have nx : ∀ (b : Nat) (x : Int), b = bsz X j → x = RE X o 0 j → ∃ u : gx_S, gm_15_4 n ((A : Int) * (b : Int)) ((j + 1 : Nat) : Int) (gw1 t 67 j x) = some u ∧ CBf u X c P o (zq X 4) ∧ FRf t u := fun b x hb hx => by
        rw [← Int.natCast_mul]
        obtain ⟨u, u1, u2, u3⟩ := ih (j + 1) (A * b) (gw1 t 67 j x) (by omega) (by omega) (by rw [hb, Nat.mul_assoc, ← z4]; exact eA) (FS_o (fun a i h => by rw [gw1_1, if_neg (by omega)]) rfl F) (fun l hl => by rw [gw1_1, if_neg (by omega)]; exact e63 l hl) (fun l hl => by
          rw [gw1_1]
          by_cases p : l = j
          · rw [if_pos ⟨rfl, p⟩, hx, p]
          · rw [if_neg (fun y => p y.2)]
            exact e67 l (by omega))
        exact ⟨u, u1, u2, FRf_tr (t := gw1 t 67 j x) ⟨fun a i _ h2 _ => by rw [gw1_1, if_neg (fun y => h2 y.1)], fun _ _ _ => rfl⟩ u3⟩
      rw [if_neg (by omega), if_pos (by omega), i1, e66, if_pos (by omega)]
      by_cases y : LC X j ≤ 0
      · rw [if_pos y]
        unfold gm_15_25 gm_15_51
        rw [if_pos (by omega), i1, e66, if_pos (by omega), if_pos y, if_pos (by omega), ce, e63 j (by omega)]
        exact nx 1 (o j) (by unfold bsz; rw [if_neg (by omega)]) (RE_z (by omega) 0).symm
      · rw [if_neg y]
        unfold gm_15_25 gm_15_51
        rw [if_pos (by omega), i1, e66, if_pos (by omega), if_neg y, if_pos (by omega), ce]
        exact nx 10 0 (by unfold bsz; rw [if_pos (by omega)]) (RE_0 (by omega)).symm
theorem sp_15 {s : gx_S} (B : XB X c P) (ho : wB9 o) (F : FS s X c P) (e63 : ∀ l, l < 4 → s.1 63 l = o l) : ∃ u : gx_S, gm_15 s = some u ∧ CBf u X c P o (zq X 4) ∧ FRf s u := by
  obtain ⟨u, u1, u2, u3⟩ := sl_15_4 B ho 100000 0 1 s (by omega) (by omega) (Nat.one_mul _) F e63 (fun l hl => absurd hl (Nat.not_lt_zero l))
  exact ⟨u, u1, u2, u3⟩
end
