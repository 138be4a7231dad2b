set_option maxRecDepth 1000000 in
theorem iv_ckMA_8 : (List.range 236).all (fun i => !(Nat.beq (i / 10) 8) || iv_ckM i) = true := by decide +kernel
set_option maxRecDepth 1000000 in
theorem iv_ckMA_9 : (List.range 236).all (fun i => !(Nat.beq (i / 10) 9) || iv_ckM i) = true := by decide +kernel
set_option maxRecDepth 1000000 in
theorem iv_ckMA_10 : (List.range 236).all (fun i => !(Nat.beq (i / 10) 10) || iv_ckM i) = true := by decide +kernel
set_option maxRecDepth 1000000 in
theorem iv_ckMA_11 : (List.range 236).all (fun i => !(Nat.beq (i / 10) 11) || iv_ckM i) = true := by decide +kernel
