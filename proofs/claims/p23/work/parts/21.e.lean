theorem iv_ckM_all (i : Nat) (h : i < 236) : iv_ckM i = true := by
  have hk : i / 10 = 0 ∨ i / 10 = 1 ∨ i / 10 = 2 ∨ i / 10 = 3 ∨ i / 10 = 4 ∨ i / 10 = 5 ∨ i / 10 = 6 ∨ i / 10 = 7 ∨ i / 10 = 8 ∨ i / 10 = 9 ∨ i / 10 = 10 ∨ i / 10 = 11 ∨ i / 10 = 12 ∨ i / 10 = 13 ∨ i / 10 = 14 ∨ i / 10 = 15 ∨ i / 10 = 16 ∨ i / 10 = 17 ∨ i / 10 = 18 ∨ i / 10 = 19 ∨ i / 10 = 20 ∨ i / 10 = 21 ∨ i / 10 = 22 ∨ i / 10 = 23 := by omega
  rcases hk with e | e | e | e | e | e | e | e | e | e | e | e | e | e | e | e | e | e | e | e | e | e | e | e
  · have a := List.all_eq_true.mp iv_ckMA_0 i (List.mem_range.mpr h)
    rw [e] at a
    exact a
  · have a := List.all_eq_true.mp iv_ckMA_1 i (List.mem_range.mpr h)
    rw [e] at a
    exact a
  · have a := List.all_eq_true.mp iv_ckMA_2 i (List.mem_range.mpr h)
    rw [e] at a
    exact a
  · have a := List.all_eq_true.mp iv_ckMA_3 i (List.mem_range.mpr h)
    rw [e] at a
    exact a
  · have a := List.all_eq_true.mp iv_ckMA_4 i (List.mem_range.mpr h)
    rw [e] at a
    exact a
  · have a := List.all_eq_true.mp iv_ckMA_5 i (List.mem_range.mpr h)
    rw [e] at a
    exact a
  · have a := List.all_eq_true.mp iv_ckMA_6 i (List.mem_range.mpr h)
    rw [e] at a
    exact a
  · have a := List.all_eq_true.mp iv_ckMA_7 i (List.mem_range.mpr h)
    rw [e] at a
    exact a
  · have a := List.all_eq_true.mp iv_ckMA_8 i (List.mem_range.mpr h)
    rw [e] at a
    exact a
  · have a := List.all_eq_true.mp iv_ckMA_9 i (List.mem_range.mpr h)
    rw [e] at a
    exact a
  · have a := List.all_eq_true.mp iv_ckMA_10 i (List.mem_range.mpr h)
    rw [e] at a
    exact a
  · have a := List.all_eq_true.mp iv_ckMA_11 i (List.mem_range.mpr h)
    rw [e] at a
    exact a
  · have a := List.all_eq_true.mp iv_ckMA_12 i (List.mem_range.mpr h)
    rw [e] at a
    exact a
  · have a := List.all_eq_true.mp iv_ckMA_13 i (List.mem_range.mpr h)
    rw [e] at a
    exact a
  · have a := List.all_eq_true.mp iv_ckMA_14 i (List.mem_range.mpr h)
    rw [e] at a
    exact a
  · have a := List.all_eq_true.mp iv_ckMA_15 i (List.mem_range.mpr h)
    rw [e] at a
    exact a
  · have a := List.all_eq_true.mp iv_ckMA_16 i (List.mem_range.mpr h)
    rw [e] at a
    exact a
  · have a := List.all_eq_true.mp iv_ckMA_17 i (List.mem_range.mpr h)
    rw [e] at a
    exact a
  · have a := List.all_eq_true.mp iv_ckMA_18 i (List.mem_range.mpr h)
    rw [e] at a
    exact a
  · have a := List.all_eq_true.mp iv_ckMA_19 i (List.mem_range.mpr h)
    rw [e] at a
    exact a
  · have a := List.all_eq_true.mp iv_ckMA_20 i (List.mem_range.mpr h)
    rw [e] at a
    exact a
  · have a := List.all_eq_true.mp iv_ckMA_21 i (List.mem_range.mpr h)
    rw [e] at a
    exact a
  · have a := List.all_eq_true.mp iv_ckMA_22 i (List.mem_range.mpr h)
    rw [e] at a
    exact a
  · have a := List.all_eq_true.mp iv_ckMA_23 i (List.mem_range.mpr h)
    rw [e] at a
    exact a
theorem iv_fM {i : Nat} (h : i < 236) (hi : iv_inc i = true) : Cond.code (iv_y i) (iv_by i) (iv_mx i) (iv_rt i) ∈ iv_Wd ∧ Cond.initialized (iv_y i).cls ∈ iv_Wd ∧ plainName (iv_y i).cls = true ∧ ((iv_y i).cls ≠ "java/lang/invoke/MethodHandle" ∧ (iv_y i).cls ≠ "java/lang/invoke/VarHandle" ∧ (parseMethodDescriptor (iv_y i).desc).map (fun d => d.parameters.length) = some (iv_na i)) ∧ iv_mx i ≤ 21 ∧ (iv_y i).cls = iv_cn (iv_kf i) ∧ (iv_rc i = none → Cond.static (iv_y i) ∈ iv_Wd ∧ iv_ini i = false) ∧ (∀ c, iv_rc i = some c → Cond.instanceMethod (iv_y i) ∈ iv_Wd ∧ (∃ (T : u_T) (N : Nat), iv_cl[c]? = some ((iv_y i).cls, T, N)) ∧ (iv_ini i = true → (iv_y i).name = "<init>" ∧ iv_rt i = none) ∧ (iv_ini i = false → Cond.selects (iv_y i).cls (iv_y i) (iv_y i) ∈ iv_Wd)) := by
  have a := iv_ckM_all i h
  unfold iv_ckM at a
  rw [hi] at a
  simp only [Bool.not_true, Bool.false_or, Bool.and_eq_true, decide_eq_true_eq] at a
  obtain ⟨⟨⟨⟨⟨⟨⟨a1, a2⟩, a3⟩, a4⟩, a5⟩, a6⟩, a7⟩, a8⟩ := a
  refine ⟨iv_atC_s a1, iv_at_s a2, a3, ⟨a4.1, a4.2, a5⟩, Nat.le_of_ble_eq_true a6, a7, fun hc => ?_, fun c hc => ?_⟩
  · rw [hc] at a8
    simp only [Bool.and_eq_true, Bool.not_eq_true'] at a8
    exact ⟨iv_at_s a8.1, a8.2⟩
  · rw [hc] at a8
    simp only [Bool.and_eq_true] at a8
    obtain ⟨⟨b1, b2⟩, b3⟩ := a8
    refine ⟨iv_at_s b1, ?_, fun hi => ?_, fun hi => ?_⟩
    · split at b2
      · rename_i r hr
        have e := of_decide_eq_true b2
        exact ⟨r.2.1, r.2.2, by rw [hr, ← e]⟩
      · cases b2
    · rw [hi] at b3
      have b3 := Bool.and_eq_true_iff.mp (show (_ && _) = true from b3)
      exact ⟨of_decide_eq_true b3.1, of_decide_eq_true b3.2⟩
    · rw [hi] at b3
      exact iv_at_s b3
def iv_ckT (f i : Nat) : Bool := match iv_mt f i with
  | none => true
  | some j => (Nat.ble (j + 1) 236 && iv_inc j) && (match iv_nn f i with
    | none => iv_wo (iv_mp f i) (.methodLink (iv_cn f) i (iv_y j))
    | some h => decide ((iv_cn f, i, iv_y j, h) ∈ iv_nw))
set_option maxRecDepth 1000000 in
theorem iv_ckT_all_mt : iv_tall 14 iv_mtT 0 (fun k => iv_ckT (k / 1024) (k % 1024)) = true := by decide +kernel
theorem iv_fT {f i j : Nat} (h : iv_mt f i = some j) : (j < 236 ∧ iv_inc j = true) ∧ (iv_nn f i = none → Cond.methodLink (iv_cn f) i (iv_y j) ∈ iv_Wd) ∧ (∀ x, iv_nn f i = some x → (iv_cn f, i, iv_y j, x) ∈ iv_nw) := by
  obtain ⟨a1, a2⟩ := iv_mt_in h
  have a := iv_tls iv_ckT_all_mt a1 a2 (iv_t3 h)
  unfold iv_ckT at a
  rw [h] at a
  dsimp only at a
  simp only [Bool.and_eq_true] at a
  refine ⟨⟨Nat.le_of_ble_eq_true a.1.1, a.1.2⟩, fun hn => ?_, fun x hx => ?_⟩
  · have b := a.2
    rw [hn] at b
    exact iv_wo_s b
  · have b := a.2
    rw [hx] at b
    exact of_decide_eq_true b
set_option maxRecDepth 1000000 in
theorem iv_ckA_all : iv_wo (iv_apos[0]?) (.arrayClass .int) = true ∧ iv_wo (iv_apos[1]?) (.arrayClass .long) = true ∧ iv_wo (iv_apos[2]?) (.arrayClass .boolean) = true ∧ iv_wo (iv_apos[3]?) (.arrayClass .byte) = true := by decide +kernel
theorem iv_nfw : nativeFrameWords "java/lang/System" "arraycopy" 5 + 11 + 8 ≤ 100 := by decide +kernel
set_option maxRecDepth 1000000 in
theorem iv_ckX : (iv_nw.all fun q => decide (Cond.methodLinkNest q.1 q.2.1 q.2.2.1 q.2.2.2 ∈ lw_tbl)) = true ∧ (iv_ao.all fun C => decide (Cond.arrayOver (.object C) ∈ lw_tbl)) = true := by decide +kernel
