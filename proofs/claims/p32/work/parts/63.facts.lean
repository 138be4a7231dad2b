/-! FACTS of the world that the methods ask for -/
theorem ks_1023 : (Int16.ofInt (1023)).toInt32 = (1023 : Int32) := by decide +kernel
theorem kb_52 : (Int8.ofInt (52)).toInt32 = (52 : Int32) := by decide +kernel
theorem kb_127 : (Int8.ofInt (127)).toInt32 = (127 : Int32) := by decide +kernel
theorem kb_23 : (Int8.ofInt (23)).toInt32 = (23 : Int32) := by decide +kernel
theorem kc_0 : Int32.ofInt (0) = (0 : Int32) := by decide +kernel
theorem kc_1 : Int32.ofInt (1) = (1 : Int32) := by decide +kernel
theorem kc_m1 : Int32.ofInt (-1) = (-1 : Int32) := by decide +kernel
theorem kl_1 : Int64.ofNat ((1 : Fin 2) : Nat) = (1 : Int64) := by decide +kernel
theorem fo_60 : fx_oc 60 0 = true := by decide +kernel
theorem fo_14 : fx_oc 14 8 = true := by decide +kernel
theorem fr_a60_0 : fx_rf 60 0 = 61 := by decide +kernel
theorem kb_63 : (Int8.ofInt (63)).toInt32 = (63 : Int32) := by decide +kernel
theorem kb_97 : (Int8.ofInt (97)).toInt32 = (97 : Int32) := by decide +kernel
theorem kb_104 : (Int8.ofInt (104)).toInt32 = (104 : Int32) := by decide +kernel
theorem kb_8 : (Int8.ofInt (8)).toInt32 = (8 : Int32) := by decide +kernel
theorem kb_48 : (Int8.ofInt (48)).toInt32 = (48 : Int32) := by decide +kernel
theorem kb_57 : (Int8.ofInt (57)).toInt32 = (57 : Int32) := by decide +kernel
theorem fo_62 : fx_oc 62 1 = true := by decide +kernel
theorem fr_a62_4 : fx_rf 62 4 = 65 := by decide +kernel
theorem fr_a62_7 : fx_rf 62 7 = 68 := by decide +kernel
theorem fr_a62_5 : fx_rf 62 5 = 66 := by decide +kernel
theorem kc_4 : Int32.ofInt (4) = (4 : Int32) := by decide +kernel
theorem kl_0 : Int64.ofNat ((0 : Fin 2) : Nat) = (0 : Int64) := by decide +kernel
theorem fr_a62_3 : fx_rf 62 3 = 64 := by decide +kernel
theorem fr_a62_6 : fx_rf 62 6 = 67 := by decide +kernel
theorem fr_a62_0 : fx_rf 62 0 = 63 := by decide +kernel
theorem kc_3 : Int32.ofInt (3) = (3 : Int32) := by decide +kernel
theorem kb_9 : (Int8.ofInt (9)).toInt32 = (9 : Int32) := by decide +kernel
theorem fr_2_12 {k : Nat} (h : fx_oc k 2 = true) : fx_rf k 12 = k + 39 := by
  have q : (List.range fx_N).all (fun k => !(fx_oc k 2) || Nat.beq (fx_rf k 12) (k + 39)) = true := by decide +kernel
  have q2 := List.all_eq_true.mp q k (List.mem_range.mpr (fx_oc_s h).1)
  rw [h] at q2
  exact Nat.eq_of_beq_eq_true q2
theorem fg_2_12 {k : Nat} (h : fx_oc k 2 = true) : fx_oc (k + 39) 7 = true := by
  have q : (List.range fx_N).all (fun k => !(fx_oc k 2) || fx_oc (k + 39) 7) = true := by decide +kernel
  have q2 := List.all_eq_true.mp q k (List.mem_range.mpr (fx_oc_s h).1)
  rw [h] at q2
  exact q2
theorem fr_2_2 {k : Nat} (h : fx_oc k 2 = true) : fx_rf k 2 = k + 3 := by
  have q : (List.range fx_N).all (fun k => !(fx_oc k 2) || Nat.beq (fx_rf k 2) (k + 3)) = true := by decide +kernel
  have q2 := List.all_eq_true.mp q k (List.mem_range.mpr (fx_oc_s h).1)
  rw [h] at q2
  exact Nat.eq_of_beq_eq_true q2
theorem fg_2_2 {k : Nat} (h : fx_oc k 2 = true) : fx_oc (k + 3) 7 = true := by
  have q : (List.range fx_N).all (fun k => !(fx_oc k 2) || fx_oc (k + 3) 7) = true := by decide +kernel
  have q2 := List.all_eq_true.mp q k (List.mem_range.mpr (fx_oc_s h).1)
  rw [h] at q2
  exact q2
theorem fr_2_3 {k : Nat} (h : fx_oc k 2 = true) : fx_rf k 3 = k + 12 := by
  have q : (List.range fx_N).all (fun k => !(fx_oc k 2) || Nat.beq (fx_rf k 3) (k + 12)) = true := by decide +kernel
  have q2 := List.all_eq_true.mp q k (List.mem_range.mpr (fx_oc_s h).1)
  rw [h] at q2
  exact Nat.eq_of_beq_eq_true q2
theorem fg_2_3 {k : Nat} (h : fx_oc k 2 = true) : fx_oc (k + 12) 7 = true := by
  have q : (List.range fx_N).all (fun k => !(fx_oc k 2) || fx_oc (k + 12) 7) = true := by decide +kernel
  have q2 := List.all_eq_true.mp q k (List.mem_range.mpr (fx_oc_s h).1)
  rw [h] at q2
  exact q2
theorem fr_2_4 {k : Nat} (h : fx_oc k 2 = true) : fx_rf k 4 = k + 21 := by
  have q : (List.range fx_N).all (fun k => !(fx_oc k 2) || Nat.beq (fx_rf k 4) (k + 21)) = true := by decide +kernel
  have q2 := List.all_eq_true.mp q k (List.mem_range.mpr (fx_oc_s h).1)
  rw [h] at q2
  exact Nat.eq_of_beq_eq_true q2
theorem fg_2_4 {k : Nat} (h : fx_oc k 2 = true) : fx_oc (k + 21) 7 = true := by
  have q : (List.range fx_N).all (fun k => !(fx_oc k 2) || fx_oc (k + 21) 7) = true := by decide +kernel
  have q2 := List.all_eq_true.mp q k (List.mem_range.mpr (fx_oc_s h).1)
  rw [h] at q2
  exact q2
theorem fr_2_5 {k : Nat} (h : fx_oc k 2 = true) : fx_rf k 5 = k + 30 := by
  have q : (List.range fx_N).all (fun k => !(fx_oc k 2) || Nat.beq (fx_rf k 5) (k + 30)) = true := by decide +kernel
  have q2 := List.all_eq_true.mp q k (List.mem_range.mpr (fx_oc_s h).1)
  rw [h] at q2
  exact Nat.eq_of_beq_eq_true q2
theorem fg_2_5 {k : Nat} (h : fx_oc k 2 = true) : fx_oc (k + 30) 7 = true := by
  have q : (List.range fx_N).all (fun k => !(fx_oc k 2) || fx_oc (k + 30) 7) = true := by decide +kernel
  have q2 := List.all_eq_true.mp q k (List.mem_range.mpr (fx_oc_s h).1)
  rw [h] at q2
  exact q2
theorem fr_2_10 {k : Nat} (h : fx_oc k 2 = true) : fx_rf k 10 = 1 := by
  have q : (List.range fx_N).all (fun k => !(fx_oc k 2) || Nat.beq (fx_rf k 10) 1) = true := by decide +kernel
  have q2 := List.all_eq_true.mp q k (List.mem_range.mpr (fx_oc_s h).1)
  rw [h] at q2
  exact Nat.eq_of_beq_eq_true q2
theorem fo_1 : fx_oc 1 6 = true := by decide +kernel
theorem fo_16 : fx_oc 16 3 = true := by decide +kernel
theorem fr_a16_0 : fx_rf 16 0 = 17 := by decide +kernel
theorem fa_17 {i : Int32} {g : Nat} (h : fx_ldr 5 17 i = some g) : fx_oc g 6 = true := by
  obtain ⟨h1, h2⟩ | ⟨h1, h2⟩ := fx_if h
  · cases h2
    have q : (List.range (fx_sh 17).2).all (fun j => fx_oc (fx_rf 17 j) 6) = true := by decide +kernel
    exact List.all_eq_true.mp q _ (List.mem_range.mpr (fx_ok_s h1).2.2.2)
  · cases h2
theorem fo_58 : fx_oc 58 4 = true := by decide +kernel
theorem kb_12 : (Int8.ofInt (12)).toInt32 = (12 : Int32) := by decide +kernel
theorem kc_2 : Int32.ofInt (2) = (2 : Int32) := by decide +kernel
theorem kb_46 : (Int8.ofInt (46)).toInt32 = (46 : Int32) := by decide +kernel
theorem kb_51 : (Int8.ofInt (51)).toInt32 = (51 : Int32) := by decide +kernel
theorem kb_47 : (Int8.ofInt (47)).toInt32 = (47 : Int32) := by decide +kernel
theorem kb_96 : (Int8.ofInt (96)).toInt32 = (96 : Int32) := by decide +kernel
theorem fr_a58_0 : fx_rf 58 0 = 59 := by decide +kernel
theorem fo_6 : fx_oc 6 5 = true := by decide +kernel
theorem kb_17 : (Int8.ofInt (17)).toInt32 = (17 : Int32) := by decide +kernel
theorem fr_a6_4 : fx_rf 6 4 = 11 := by decide +kernel
theorem fr_a6_2 : fx_rf 6 2 = 9 := by decide +kernel
theorem fr_a6_0 : fx_rf 6 0 = 7 := by decide +kernel
theorem fr_a6_1 : fx_rf 6 1 = 8 := by decide +kernel
theorem fr_a6_5 : fx_rf 6 5 = 12 := by decide +kernel
theorem kb_18 : (Int8.ofInt (18)).toInt32 = (18 : Int32) := by decide +kernel
theorem fr_a6_6 : fx_rf 6 6 = 13 := by decide +kernel
theorem fr_a6_3 : fx_rf 6 3 = 10 := by decide +kernel
theorem fr_6_0 {k : Nat} (h : fx_oc k 6 = true) : fx_rf k 0 = k + 1 := by
  have q : (List.range fx_N).all (fun k => !(fx_oc k 6) || Nat.beq (fx_rf k 0) (k + 1)) = true := by decide +kernel
  have q2 := List.all_eq_true.mp q k (List.mem_range.mpr (fx_oc_s h).1)
  rw [h] at q2
  exact Nat.eq_of_beq_eq_true q2
theorem ks_288 : (Int16.ofInt (288)).toInt32 = (288 : Int32) := by decide +kernel
theorem fr_6_1 {k : Nat} (h : fx_oc k 6 = true) : fx_rf k 1 = k + 2 := by
  have q : (List.range fx_N).all (fun k => !(fx_oc k 6) || Nat.beq (fx_rf k 1) (k + 2)) = true := by decide +kernel
  have q2 := List.all_eq_true.mp q k (List.mem_range.mpr (fx_oc_s h).1)
  rw [h] at q2
  exact Nat.eq_of_beq_eq_true q2
theorem kb_27 : (Int8.ofInt (27)).toInt32 = (27 : Int32) := by decide +kernel
theorem fr_6_2 {k : Nat} (h : fx_oc k 6 = true) : fx_rf k 2 = k + 3 := by
  have q : (List.range fx_N).all (fun k => !(fx_oc k 6) || Nat.beq (fx_rf k 2) (k + 3)) = true := by decide +kernel
  have q2 := List.all_eq_true.mp q k (List.mem_range.mpr (fx_oc_s h).1)
  rw [h] at q2
  exact Nat.eq_of_beq_eq_true q2
theorem fr_6_3 {k : Nat} (h : fx_oc k 6 = true) : fx_rf k 3 = k + 4 := by
  have q : (List.range fx_N).all (fun k => !(fx_oc k 6) || Nat.beq (fx_rf k 3) (k + 4)) = true := by decide +kernel
  have q2 := List.all_eq_true.mp q k (List.mem_range.mpr (fx_oc_s h).1)
  rw [h] at q2
  exact Nat.eq_of_beq_eq_true q2
theorem kb_7 : (Int8.ofInt (7)).toInt32 = (7 : Int32) := by decide +kernel
theorem fr_7_0 {k : Nat} (h : fx_oc k 7 = true) : fx_rf k 0 = k + 1 := by
  have q : (List.range fx_N).all (fun k => !(fx_oc k 7) || Nat.beq (fx_rf k 0) (k + 1)) = true := by decide +kernel
  have q2 := List.all_eq_true.mp q k (List.mem_range.mpr (fx_oc_s h).1)
  rw [h] at q2
  exact Nat.eq_of_beq_eq_true q2
theorem fr_7_3 {k : Nat} (h : fx_oc k 7 = true) : fx_rf k 3 = k + 4 := by
  have q : (List.range fx_N).all (fun k => !(fx_oc k 7) || Nat.beq (fx_rf k 3) (k + 4)) = true := by decide +kernel
  have q2 := List.all_eq_true.mp q k (List.mem_range.mpr (fx_oc_s h).1)
  rw [h] at q2
  exact Nat.eq_of_beq_eq_true q2
theorem fr_7_4 {k : Nat} (h : fx_oc k 7 = true) : fx_rf k 4 = k + 5 := by
  have q : (List.range fx_N).all (fun k => !(fx_oc k 7) || Nat.beq (fx_rf k 4) (k + 5)) = true := by decide +kernel
  have q2 := List.all_eq_true.mp q k (List.mem_range.mpr (fx_oc_s h).1)
  rw [h] at q2
  exact Nat.eq_of_beq_eq_true q2
theorem fr_7_5 {k : Nat} (h : fx_oc k 7 = true) : fx_rf k 5 = k + 6 := by
  have q : (List.range fx_N).all (fun k => !(fx_oc k 7) || Nat.beq (fx_rf k 5) (k + 6)) = true := by decide +kernel
  have q2 := List.all_eq_true.mp q k (List.mem_range.mpr (fx_oc_s h).1)
  rw [h] at q2
  exact Nat.eq_of_beq_eq_true q2
theorem fr_7_6 {k : Nat} (h : fx_oc k 7 = true) : fx_rf k 6 = k + 7 := by
  have q : (List.range fx_N).all (fun k => !(fx_oc k 7) || Nat.beq (fx_rf k 6) (k + 7)) = true := by decide +kernel
  have q2 := List.all_eq_true.mp q k (List.mem_range.mpr (fx_oc_s h).1)
  rw [h] at q2
  exact Nat.eq_of_beq_eq_true q2
theorem fr_7_7 {k : Nat} (h : fx_oc k 7 = true) : fx_rf k 7 = k + 8 := by
  have q : (List.range fx_N).all (fun k => !(fx_oc k 7) || Nat.beq (fx_rf k 7) (k + 8)) = true := by decide +kernel
  have q2 := List.all_eq_true.mp q k (List.mem_range.mpr (fx_oc_s h).1)
  rw [h] at q2
  exact Nat.eq_of_beq_eq_true q2
theorem fr_7_1 {k : Nat} (h : fx_oc k 7 = true) : fx_rf k 1 = k + 2 := by
  have q : (List.range fx_N).all (fun k => !(fx_oc k 7) || Nat.beq (fx_rf k 1) (k + 2)) = true := by decide +kernel
  have q2 := List.all_eq_true.mp q k (List.mem_range.mpr (fx_oc_s h).1)
  rw [h] at q2
  exact Nat.eq_of_beq_eq_true q2
theorem kb_24 : (Int8.ofInt (24)).toInt32 = (24 : Int32) := by decide +kernel
theorem ks_200 : (Int16.ofInt (200)).toInt32 = (200 : Int32) := by decide +kernel
theorem fr_a14_0 : fx_rf 14 0 = 15 := by decide +kernel
theorem ks_255 : (Int16.ofInt (255)).toInt32 = (255 : Int32) := by decide +kernel
theorem kc_m8 : Int32.ofInt (-8) = (-8 : Int32) := by decide +kernel
theorem fo_0 : fx_oc 0 9 = true := by decide +kernel
theorem fr_a0_0 : fx_rf 0 0 = 14 := by decide +kernel
theorem kb_20 : (Int8.ofInt (20)).toInt32 = (20 : Int32) := by decide +kernel
theorem fr_a0_1 : fx_rf 0 1 = 1 := by decide +kernel
theorem fr_a0_3 : fx_rf 0 3 = 58 := by decide +kernel
theorem fr_a0_2 : fx_rf 0 2 = 16 := by decide +kernel
theorem fr_a0_6 : fx_rf 0 6 = 70 := by decide +kernel
theorem fa_70 {i : Int32} {g : Nat} (h : fx_ldr 4 70 i = some g) : fx_oc g 2 = true := by
  obtain ⟨h1, h2⟩ | ⟨h1, h2⟩ := fx_if h
  · cases h2
    have q : (List.range (fx_sh 70).2).all (fun j => fx_oc (fx_rf 70 j) 2) = true := by decide +kernel
    exact List.all_eq_true.mp q _ (List.mem_range.mpr (fx_ok_s h1).2.2.2)
  · cases h2
theorem fr_a0_5 : fx_rf 0 5 = 62 := by decide +kernel
theorem fr_a1_1 : fx_rf 1 1 = 3 := by decide +kernel
theorem fr_a0_7 : fx_rf 0 7 = 69 := by decide +kernel
theorem kb_100 : (Int8.ofInt (100)).toInt32 = (100 : Int32) := by decide +kernel
theorem ks_340 : (Int16.ofInt (340)).toInt32 = (340 : Int32) := by decide +kernel
theorem ks_2720 : (Int16.ofInt (2720)).toInt32 = (2720 : Int32) := by decide +kernel
theorem kb_m2 : (Int8.ofInt (-2)).toInt32 = (-2 : Int32) := by decide +kernel
theorem kb_61 : (Int8.ofInt (61)).toInt32 = (61 : Int32) := by decide +kernel
theorem ks_10000 : (Int16.ofInt (10000)).toInt32 = (10000 : Int32) := by decide +kernel
theorem kb_10 : (Int8.ofInt (10)).toInt32 = (10 : Int32) := by decide +kernel
theorem ks_9999 : (Int16.ofInt (9999)).toInt32 = (9999 : Int32) := by decide +kernel
theorem kb_44 : (Int8.ofInt (44)).toInt32 = (44 : Int32) := by decide +kernel
theorem kc_5 : Int32.ofInt (5) = (5 : Int32) := by decide +kernel
theorem kb_32 : (Int8.ofInt (32)).toInt32 = (32 : Int32) := by decide +kernel
theorem kb_72 : (Int8.ofInt (72)).toInt32 = (72 : Int32) := by decide +kernel
theorem kb_36 : (Int8.ofInt (36)).toInt32 = (36 : Int32) := by decide +kernel
theorem kc_16 : Int32.ofInt (16) = (16 : Int32) := by decide +kernel
theorem kb_16 : (Int8.ofInt (16)).toInt32 = (16 : Int32) := by decide +kernel
theorem ks_256 : (Int16.ofInt (256)).toInt32 = (256 : Int32) := by decide +kernel
theorem kc_8 : Int32.ofInt (8) = (8 : Int32) := by decide +kernel
theorem fr_7_2 {k : Nat} (h : fx_oc k 7 = true) : fx_rf k 2 = k + 3 := by
  have q : (List.range fx_N).all (fun k => !(fx_oc k 7) || Nat.beq (fx_rf k 2) (k + 3)) = true := by decide +kernel
  have q2 := List.all_eq_true.mp q k (List.mem_range.mpr (fx_oc_s h).1)
  rw [h] at q2
  exact Nat.eq_of_beq_eq_true q2
theorem fr_2_0 {k : Nat} (h : fx_oc k 2 = true) : fx_rf k 0 = k + 1 := by
  have q : (List.range fx_N).all (fun k => !(fx_oc k 2) || Nat.beq (fx_rf k 0) (k + 1)) = true := by decide +kernel
  have q2 := List.all_eq_true.mp q k (List.mem_range.mpr (fx_oc_s h).1)
  rw [h] at q2
  exact Nat.eq_of_beq_eq_true q2
theorem fr_2_1 {k : Nat} (h : fx_oc k 2 = true) : fx_rf k 1 = k + 2 := by
  have q : (List.range fx_N).all (fun k => !(fx_oc k 2) || Nat.beq (fx_rf k 1) (k + 2)) = true := by decide +kernel
  have q2 := List.all_eq_true.mp q k (List.mem_range.mpr (fx_oc_s h).1)
  rw [h] at q2
  exact Nat.eq_of_beq_eq_true q2
theorem fr_a0_4 : fx_rf 0 4 = 60 := by decide +kernel
theorem fr_a1_2 : fx_rf 1 2 = 4 := by decide +kernel
theorem fr_a1_3 : fx_rf 1 3 = 5 := by decide +kernel
theorem fr_2_11 {k : Nat} (h : fx_oc k 2 = true) : fx_rf k 11 = 6 := by
  have q : (List.range fx_N).all (fun k => !(fx_oc k 2) || Nat.beq (fx_rf k 11) 6) = true := by decide +kernel
  have q2 := List.all_eq_true.mp q k (List.mem_range.mpr (fx_oc_s h).1)
  rw [h] at q2
  exact Nat.eq_of_beq_eq_true q2
theorem fr_a1_0 : fx_rf 1 0 = 2 := by decide +kernel
theorem ks_148 : (Int16.ofInt (148)).toInt32 = (148 : Int32) := by decide +kernel
theorem kb_6 : (Int8.ofInt (6)).toInt32 = (6 : Int32) := by decide +kernel
theorem kb_31 : (Int8.ofInt (31)).toInt32 = (31 : Int32) := by decide +kernel
theorem kc_6 : Int32.ofInt (6) = (6 : Int32) := by decide +kernel
