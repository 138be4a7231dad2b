set_option maxRecDepth 1000000 in
theorem iv_ckMA_16 : (List.range 236).all (fun i => !(Nat.beq (i / 10) 16) || iv_ckM i) = true := by decide +kernel
set_option maxRecDepth 1000000 in
theorem iv_ckMA_17 : (List.range 236).all (fun i => !(Nat.beq (i / 10) 17) || iv_ckM i) = true := by decide +kernel
set_option maxRecDepth 1000000 in
theorem iv_ckMA_18 : (List.range 236).all (fun i => !(Nat.beq (i / 10) 18) || iv_ckM i) = true := by decide +kernel
set_option maxRecDepth 1000000 in
theorem iv_ckMA_19 : (List.range 236).all (fun i => !(Nat.beq (i / 10) 19) || iv_ckM i) = true := by decide +kernel
