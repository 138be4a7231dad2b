set_option maxRecDepth 1000000 in
theorem iv_ckMA_20 : (List.range 236).all (fun i => !(Nat.beq (i / 10) 20) || iv_ckM i) = true := by decide +kernel
set_option maxRecDepth 1000000 in
theorem iv_ckMA_21 : (List.range 236).all (fun i => !(Nat.beq (i / 10) 21) || iv_ckM i) = true := by decide +kernel
set_option maxRecDepth 1000000 in
theorem iv_ckMA_22 : (List.range 236).all (fun i => !(Nat.beq (i / 10) 22) || iv_ckM i) = true := by decide +kernel
set_option maxRecDepth 1000000 in
theorem iv_ckMA_23 : (List.range 236).all (fun i => !(Nat.beq (i / 10) 23) || iv_ckM i) = true := by decide +kernel
