/-! FACTS of arrays and numbers -/
theorem kg_1023 : (1023 : Int32) = Int32.ofInt (1023) := by decide +kernel
theorem kg_52 : (52 : Int32) = Int32.ofInt (52) := by decide +kernel
theorem kg_127 : (127 : Int32) = Int32.ofInt (127) := by decide +kernel
theorem kg_23 : (23 : Int32) = Int32.ofInt (23) := by decide +kernel
theorem kg_0 : (0 : Int32) = Int32.ofInt (0) := by decide +kernel
theorem kg_1 : (1 : Int32) = Int32.ofInt (1) := by decide +kernel
theorem kg_m1 : (-1 : Int32) = Int32.ofInt (-1) := by decide +kernel
theorem kgl_1 : (1 : Int64) = Int64.ofInt (1) := by decide +kernel
theorem kg_63 : (63 : Int32) = Int32.ofInt (63) := by decide +kernel
theorem kg_97 : (97 : Int32) = Int32.ofInt (97) := by decide +kernel
theorem kg_104 : (104 : Int32) = Int32.ofInt (104) := by decide +kernel
theorem kg_8 : (8 : Int32) = Int32.ofInt (8) := by decide +kernel
theorem kg_48 : (48 : Int32) = Int32.ofInt (48) := by decide +kernel
theorem kg_57 : (57 : Int32) = Int32.ofInt (57) := by decide +kernel
theorem ga_66 : gx_a 0 66 4 = true := by decide +kernel
theorem ga_68 : gx_a 0 68 8 = true := by decide +kernel
theorem kg_4 : (4 : Int32) = Int32.ofInt (4) := by decide +kernel
theorem ga_65 : gx_a 0 65 32 = true := by decide +kernel
theorem kgl_0 : (0 : Int64) = Int64.ofInt (0) := by decide +kernel
theorem ga_64 : gx_a 0 64 8 = true := by decide +kernel
theorem ga_67 : gx_a 0 67 4 = true := by decide +kernel
theorem ga_63 : gx_a 0 63 4 = true := by decide +kernel
theorem kg_3 : (3 : Int32) = Int32.ofInt (3) := by decide +kernel
theorem kg_9 : (9 : Int32) = Int32.ofInt (9) := by decide +kernel
theorem ga_17 : gx_a 5 17 8 = true := by decide +kernel
theorem kg_12 : (12 : Int32) = Int32.ofInt (12) := by decide +kernel
theorem kg_2 : (2 : Int32) = Int32.ofInt (2) := by decide +kernel
theorem kg_46 : (46 : Int32) = Int32.ofInt (46) := by decide +kernel
theorem kg_51 : (51 : Int32) = Int32.ofInt (51) := by decide +kernel
theorem kg_47 : (47 : Int32) = Int32.ofInt (47) := by decide +kernel
theorem kg_96 : (96 : Int32) = Int32.ofInt (96) := by decide +kernel
theorem ga_59 : gx_a 0 59 96 = true := by decide +kernel
theorem kg_17 : (17 : Int32) = Int32.ofInt (17) := by decide +kernel
theorem ga_11 : gx_a 0 11 9 = true := by decide +kernel
theorem ga_9 : gx_a 0 9 9 = true := by decide +kernel
theorem ga_7 : gx_a 0 7 72 = true := by decide +kernel
theorem ga_8 : gx_a 0 8 72 = true := by decide +kernel
theorem ga_12 : gx_a 0 12 18 = true := by decide +kernel
theorem kg_18 : (18 : Int32) = Int32.ofInt (18) := by decide +kernel
theorem ga_13 : gx_a 0 13 18 = true := by decide +kernel
theorem ga_10 : gx_a 0 10 9 = true := by decide +kernel
theorem ga_6_0 {k : Nat} (h : fx_oc k 6 = true) : gx_a 0 (k + 1) 288 = true := by
  have q : (List.range fx_N).all (fun k => !(fx_oc k 6) || gx_a 0 (k + 1) 288) = true := by decide +kernel
  have q2 := List.all_eq_true.mp q k (List.mem_range.mpr (fx_oc_s h).1)
  rw [h] at q2
  exact q2
theorem kg_288 : (288 : Int32) = Int32.ofInt (288) := by decide +kernel
theorem ga_6_1 {k : Nat} (h : fx_oc k 6 = true) : gx_a 0 (k + 2) 27 = true := by
  have q : (List.range fx_N).all (fun k => !(fx_oc k 6) || gx_a 0 (k + 2) 27) = true := by decide +kernel
  have q2 := List.all_eq_true.mp q k (List.mem_range.mpr (fx_oc_s h).1)
  rw [h] at q2
  exact q2
theorem kg_27 : (27 : Int32) = Int32.ofInt (27) := by decide +kernel
theorem ga_6_2 {k : Nat} (h : fx_oc k 6 = true) : gx_a 0 (k + 3) 12 = true := by
  have q : (List.range fx_N).all (fun k => !(fx_oc k 6) || gx_a 0 (k + 3) 12) = true := by decide +kernel
  have q2 := List.all_eq_true.mp q k (List.mem_range.mpr (fx_oc_s h).1)
  rw [h] at q2
  exact q2
theorem ga_6_3 {k : Nat} (h : fx_oc k 6 = true) : gx_a 0 (k + 4) 8 = true := by
  have q : (List.range fx_N).all (fun k => !(fx_oc k 6) || gx_a 0 (k + 4) 8) = true := by decide +kernel
  have q2 := List.all_eq_true.mp q k (List.mem_range.mpr (fx_oc_s h).1)
  rw [h] at q2
  exact q2
theorem kg_7 : (7 : Int32) = Int32.ofInt (7) := by decide +kernel
theorem ga_7_0 {k : Nat} (h : fx_oc k 7 = true) : gx_a 0 (k + 1) 8 = true := by
  have q : (List.range fx_N).all (fun k => !(fx_oc k 7) || gx_a 0 (k + 1) 8) = true := by decide +kernel
  have q2 := List.all_eq_true.mp q k (List.mem_range.mpr (fx_oc_s h).1)
  rw [h] at q2
  exact q2
theorem ga_7_3 {k : Nat} (h : fx_oc k 7 = true) : gx_a 0 (k + 4) 72 = true := by
  have q : (List.range fx_N).all (fun k => !(fx_oc k 7) || gx_a 0 (k + 4) 72) = true := by decide +kernel
  have q2 := List.all_eq_true.mp q k (List.mem_range.mpr (fx_oc_s h).1)
  rw [h] at q2
  exact q2
theorem ga_7_4 {k : Nat} (h : fx_oc k 7 = true) : gx_a 0 (k + 5) 72 = true := by
  have q : (List.range fx_N).all (fun k => !(fx_oc k 7) || gx_a 0 (k + 5) 72) = true := by decide +kernel
  have q2 := List.all_eq_true.mp q k (List.mem_range.mpr (fx_oc_s h).1)
  rw [h] at q2
  exact q2
theorem ga_7_5 {k : Nat} (h : fx_oc k 7 = true) : gx_a 0 (k + 6) 72 = true := by
  have q : (List.range fx_N).all (fun k => !(fx_oc k 7) || gx_a 0 (k + 6) 72) = true := by decide +kernel
  have q2 := List.all_eq_true.mp q k (List.mem_range.mpr (fx_oc_s h).1)
  rw [h] at q2
  exact q2
theorem ga_7_6 {k : Nat} (h : fx_oc k 7 = true) : gx_a 0 (k + 7) 72 = true := by
  have q : (List.range fx_N).all (fun k => !(fx_oc k 7) || gx_a 0 (k + 7) 72) = true := by decide +kernel
  have q2 := List.all_eq_true.mp q k (List.mem_range.mpr (fx_oc_s h).1)
  rw [h] at q2
  exact q2
theorem ga_7_7 {k : Nat} (h : fx_oc k 7 = true) : gx_a 0 (k + 8) 72 = true := by
  have q : (List.range fx_N).all (fun k => !(fx_oc k 7) || gx_a 0 (k + 8) 72) = true := by decide +kernel
  have q2 := List.all_eq_true.mp q k (List.mem_range.mpr (fx_oc_s h).1)
  rw [h] at q2
  exact q2
theorem ga_7_1 {k : Nat} (h : fx_oc k 7 = true) : gx_a 0 (k + 2) 8 = true := by
  have q : (List.range fx_N).all (fun k => !(fx_oc k 7) || gx_a 0 (k + 2) 8) = true := by decide +kernel
  have q2 := List.all_eq_true.mp q k (List.mem_range.mpr (fx_oc_s h).1)
  rw [h] at q2
  exact q2
theorem kg_24 : (24 : Int32) = Int32.ofInt (24) := by decide +kernel
theorem kg_200 : (200 : Int32) = Int32.ofInt (200) := by decide +kernel
theorem kg_255 : (255 : Int32) = Int32.ofInt (255) := by decide +kernel
theorem ga_15 : gx_a 0 15 200 = true := by decide +kernel
theorem kg_m8 : (-8 : Int32) = Int32.ofInt (-8) := by decide +kernel
theorem kg_20 : (20 : Int32) = Int32.ofInt (20) := by decide +kernel
theorem ga_70 : gx_a 4 70 3 = true := by decide +kernel
theorem ga_3 : gx_a 0 3 27 = true := by decide +kernel
theorem ga_69 : gx_a 0 69 288 = true := by decide +kernel
theorem kg_100 : (100 : Int32) = Int32.ofInt (100) := by decide +kernel
theorem kg_340 : (340 : Int32) = Int32.ofInt (340) := by decide +kernel
theorem kg_2720 : (2720 : Int32) = Int32.ofInt (2720) := by decide +kernel
theorem kgl_97 : (97 : Int64) = Int64.ofInt (97) := by decide +kernel
theorem kgl_104 : (104 : Int64) = Int64.ofInt (104) := by decide +kernel
theorem kgl_48 : (48 : Int64) = Int64.ofInt (48) := by decide +kernel
theorem kgl_51 : (51 : Int64) = Int64.ofInt (51) := by decide +kernel
theorem kgl_2 : (2 : Int64) = Int64.ofInt (2) := by decide +kernel
theorem kg_m2 : (-2 : Int32) = Int32.ofInt (-2) := by decide +kernel
theorem kg_61 : (61 : Int32) = Int32.ofInt (61) := by decide +kernel
theorem kgl_57 : (57 : Int64) = Int64.ofInt (57) := by decide +kernel
theorem kg_10000 : (10000 : Int32) = Int32.ofInt (10000) := by decide +kernel
theorem kg_10 : (10 : Int32) = Int32.ofInt (10) := by decide +kernel
theorem kg_9999 : (9999 : Int32) = Int32.ofInt (9999) := by decide +kernel
theorem kg_44 : (44 : Int32) = Int32.ofInt (44) := by decide +kernel
theorem kg_5 : (5 : Int32) = Int32.ofInt (5) := by decide +kernel
theorem kg_32 : (32 : Int32) = Int32.ofInt (32) := by decide +kernel
theorem kg_72 : (72 : Int32) = Int32.ofInt (72) := by decide +kernel
theorem kgl_10 : (10 : Int64) = Int64.ofInt (10) := by decide +kernel
theorem kgl_m1 : (-1 : Int64) = Int64.ofInt (-1) := by decide +kernel
theorem kgl_7 : (7 : Int64) = Int64.ofInt (7) := by decide +kernel
theorem kgl_8 : (8 : Int64) = Int64.ofInt (8) := by decide +kernel
theorem kgl_3 : (3 : Int64) = Int64.ofInt (3) := by decide +kernel
theorem kgl_9 : (9 : Int64) = Int64.ofInt (9) := by decide +kernel
theorem kg_36 : (36 : Int32) = Int32.ofInt (36) := by decide +kernel
theorem kg_11 : (11 : Int32) = Int32.ofInt (11) := by decide +kernel
theorem kg_65536 : (65536 : Int32) = Int32.ofInt (65536) := by decide +kernel
theorem kg_16 : (16 : Int32) = Int32.ofInt (16) := by decide +kernel
theorem kg_256 : (256 : Int32) = Int32.ofInt (256) := by decide +kernel
theorem kg_1431655765 : (1431655765 : Int32) = Int32.ofInt (1431655765) := by decide +kernel
theorem kg_858993459 : (858993459 : Int32) = Int32.ofInt (858993459) := by decide +kernel
theorem kg_252645135 : (252645135 : Int32) = Int32.ofInt (252645135) := by decide +kernel
theorem ga_7_2 {k : Nat} (h : fx_oc k 7 = true) : gx_a 0 (k + 3) 8 = true := by
  have q : (List.range fx_N).all (fun k => !(fx_oc k 7) || gx_a 0 (k + 3) 8) = true := by decide +kernel
  have q2 := List.all_eq_true.mp q k (List.mem_range.mpr (fx_oc_s h).1)
  rw [h] at q2
  exact q2
theorem ga_2_0 {k : Nat} (h : fx_oc k 2 = true) : gx_a 0 (k + 1) 8 = true := by
  have q : (List.range fx_N).all (fun k => !(fx_oc k 2) || gx_a 0 (k + 1) 8) = true := by decide +kernel
  have q2 := List.all_eq_true.mp q k (List.mem_range.mpr (fx_oc_s h).1)
  rw [h] at q2
  exact q2
theorem ga_2_1 {k : Nat} (h : fx_oc k 2 = true) : gx_a 0 (k + 2) 96 = true := by
  have q : (List.range fx_N).all (fun k => !(fx_oc k 2) || gx_a 0 (k + 2) 96) = true := by decide +kernel
  have q2 := List.all_eq_true.mp q k (List.mem_range.mpr (fx_oc_s h).1)
  rw [h] at q2
  exact q2
theorem ga_4 : gx_a 0 4 12 = true := by decide +kernel
theorem ga_5 : gx_a 0 5 8 = true := by decide +kernel
theorem ga_61 : gx_a 0 61 9 = true := by decide +kernel
theorem ga_2 : gx_a 0 2 288 = true := by decide +kernel
theorem kgl_m9223372036854775808 : (-9223372036854775808 : Int64) = Int64.ofInt (-9223372036854775808) := by decide +kernel
theorem kg_6 : (6 : Int32) = Int32.ofInt (6) := by decide +kernel
theorem kg_148 : (148 : Int32) = Int32.ofInt (148) := by decide +kernel
theorem kg_31 : (31 : Int32) = Int32.ofInt (31) := by decide +kernel
theorem kg_28 : (28 : Int32) = Int32.ofInt (28) := by decide +kernel
theorem kg_26 : (26 : Int32) = Int32.ofInt (26) := by decide +kernel
theorem kg_25 : (25 : Int32) = Int32.ofInt (25) := by decide +kernel
theorem kg_22 : (22 : Int32) = Int32.ofInt (22) := by decide +kernel
theorem kg_21 : (21 : Int32) = Int32.ofInt (21) := by decide +kernel
theorem kg_19 : (19 : Int32) = Int32.ofInt (19) := by decide +kernel
theorem kg_15 : (15 : Int32) = Int32.ofInt (15) := by decide +kernel
theorem kg_14 : (14 : Int32) = Int32.ofInt (14) := by decide +kernel
theorem kg_13 : (13 : Int32) = Int32.ofInt (13) := by decide +kernel
