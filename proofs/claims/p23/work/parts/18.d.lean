set_option maxRecDepth 1000000 in
theorem iv_ckMA_12 : (List.range 236).all (fun i => !(Nat.beq (i / 10) 12) || iv_ckM i) = true := by decide +kernel
set_option maxRecDepth 1000000 in
theorem iv_ckMA_13 : (List.range 236).all (fun i => !(Nat.beq (i / 10) 13) || iv_ckM i) = true := by decide +kernel
set_option maxRecDepth 1000000 in
theorem iv_ckMA_14 : (List.range 236).all (fun i => !(Nat.beq (i / 10) 14) || iv_ckM i) = true := by decide +kernel
set_option maxRecDepth 1000000 in
theorem iv_ckMA_15 : (List.range 236).all (fun i => !(Nat.beq (i / 10) 15) || iv_ckM i) = true := by decide +kernel
