/-! FACTS that the law's and the JDK's methods ask for -/
theorem dl_0 : Int64.ofNat ((0 : Fin 2) : Nat) = Int64.ofInt 0 := by decide +kernel
theorem dkb_20 : (Int8.ofInt (20)).toInt32 = Int32.ofInt 20 := by decide +kernel
theorem dks_255 : (Int16.ofInt (255)).toInt32 = Int32.ofInt 255 := by decide +kernel
theorem dkb_24 : (Int8.ofInt (24)).toInt32 = Int32.ofInt 24 := by decide +kernel
theorem dkb_8 : (Int8.ofInt (8)).toInt32 = Int32.ofInt 8 := by decide +kernel
theorem dkb_19 : (Int8.ofInt (19)).toInt32 = Int32.ofInt 19 := by decide +kernel
theorem dks_7919 : (Int16.ofInt (7919)).toInt32 = Int32.ofInt 7919 := by decide +kernel
theorem dkb_16 : (Int8.ofInt (16)).toInt32 = Int32.ofInt 16 := by decide +kernel
theorem dkb_47 : (Int8.ofInt (47)).toInt32 = Int32.ofInt 47 := by decide +kernel
theorem dkb_97 : (Int8.ofInt (97)).toInt32 = Int32.ofInt 97 := by decide +kernel
theorem dkb_46 : (Int8.ofInt (46)).toInt32 = Int32.ofInt 46 := by decide +kernel
theorem dkb_48 : (Int8.ofInt (48)).toInt32 = Int32.ofInt 48 := by decide +kernel
theorem dkb_96 : (Int8.ofInt (96)).toInt32 = Int32.ofInt 96 := by decide +kernel
theorem dkb_12 : (Int8.ofInt (12)).toInt32 = Int32.ofInt 12 := by decide +kernel
theorem dkb_m10 : (Int8.ofInt (-10)).toInt32 = Int32.ofInt (-10) := by decide +kernel
theorem dkb_10 : (Int8.ofInt (10)).toInt32 = Int32.ofInt 10 := by decide +kernel
theorem dkb_m100 : (Int8.ofInt (-100)).toInt32 = Int32.ofInt (-100) := by decide +kernel
theorem dkb_m9 : (Int8.ofInt (-9)).toInt32 = Int32.ofInt (-9) := by decide +kernel
theorem dkb_100 : (Int8.ofInt (100)).toInt32 = Int32.ofInt 100 := by decide +kernel
theorem dkb_45 : (Int8.ofInt (45)).toInt32 = Int32.ofInt 45 := by decide +kernel
theorem dkb_32 : (Int8.ofInt (32)).toInt32 = Int32.ofInt 32 := by decide +kernel
theorem dkb_11 : (Int8.ofInt (11)).toInt32 = Int32.ofInt 11 := by decide +kernel
theorem dkb_44 : (Int8.ofInt (44)).toInt32 = Int32.ofInt 44 := by decide +kernel
theorem dkb_9 : (Int8.ofInt (9)).toInt32 = Int32.ofInt 9 := by decide +kernel
theorem dkb_13 : (Int8.ofInt (13)).toInt32 = Int32.ofInt 13 := by decide +kernel
theorem dkb_7 : (Int8.ofInt (7)).toInt32 = Int32.ofInt 7 := by decide +kernel
theorem dkb_17 : (Int8.ofInt (17)).toInt32 = Int32.ofInt 17 := by decide +kernel
theorem dks_10000 : (Int16.ofInt (10000)).toInt32 = Int32.ofInt 10000 := by decide +kernel
theorem dks_200 : (Int16.ofInt (200)).toInt32 = Int32.ofInt 200 := by decide +kernel
theorem dzf_278_9_5 {z : iv_Z} {L : Nat} {xs : Nat → Int32} (hz : dZ z L xs) : iv_zf z 278 9 5 = some (.retAddr 6) := dz_f5 (j := 0) hz (by decide +kernel) (by decide +kernel) rfl
theorem dzf_282_15_5 {z : iv_Z} {L : Nat} {xs : Nat → Int32} (hz : dZ z L xs) : iv_zf z 282 15 5 = some (.int (Int32.ofInt 0)) := dz_f5 (j := 1) hz (by decide +kernel) (by decide +kernel) rfl
theorem dzf_281_9_5 {z : iv_Z} {L : Nat} {xs : Nat → Int32} (hz : dZ z L xs) : iv_zf z 281 9 5 = some (.retAddr 6) := dz_f5 (j := 0) hz (by decide +kernel) (by decide +kernel) rfl
theorem dkb_63 : (Int8.ofInt (63)).toInt32 = Int32.ofInt 63 := by decide +kernel
theorem dzf_278_9_3 {z : iv_Z} {L : Nat} {xs : Nat → Int32} (hz : dZ z L xs) : iv_zf z 278 9 3 = some (.retAddr 4) := dz_f3 (j := 0) hz (by decide +kernel) (by decide +kernel) rfl
theorem dzf_282_15_3 {z : iv_Z} {L : Nat} {xs : Nat → Int32} (hz : dZ z L xs) : iv_zf z 282 15 3 = some (.int (Int32.ofInt 0)) := dz_f3 (j := 1) hz (by decide +kernel) (by decide +kernel) rfl
theorem dzf_281_9_3 {z : iv_Z} {L : Nat} {xs : Nat → Int32} (hz : dZ z L xs) : iv_zf z 281 9 3 = some (.retAddr 4) := dz_f3 (j := 0) hz (by decide +kernel) (by decide +kernel) rfl
theorem dkb_61 : (Int8.ofInt (61)).toInt32 = Int32.ofInt 61 := by decide +kernel
theorem dkb_m2 : (Int8.ofInt (-2)).toInt32 = Int32.ofInt (-2) := by decide +kernel
theorem dkb_15 : (Int8.ofInt (15)).toInt32 = Int32.ofInt 15 := by decide +kernel
theorem dl_1 : Int64.ofNat ((1 : Fin 2) : Nat) = Int64.ofInt 1 := by decide +kernel
theorem dkb_6 : (Int8.ofInt (6)).toInt32 = Int32.ofInt 6 := by decide +kernel
theorem dks_130 : (Int16.ofInt (130)).toInt32 = Int32.ofInt 130 := by decide +kernel
theorem dks_131 : (Int16.ofInt (131)).toInt32 = Int32.ofInt 131 := by decide +kernel
theorem dkb_27 : (Int8.ofInt (27)).toInt32 = Int32.ofInt 27 := by decide +kernel
