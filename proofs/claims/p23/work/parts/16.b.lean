set_option maxRecDepth 1000000 in
theorem iv_ckMA_0 : (List.range 236).all (fun i => !(Nat.beq (i / 10) 0) || iv_ckM i) = true := by decide +kernel
set_option maxRecDepth 1000000 in
theorem iv_ckMA_1 : (List.range 236).all (fun i => !(Nat.beq (i / 10) 1) || iv_ckM i) = true := by decide +kernel
set_option maxRecDepth 1000000 in
theorem iv_ckMA_2 : (List.range 236).all (fun i => !(Nat.beq (i / 10) 2) || iv_ckM i) = true := by decide +kernel
set_option maxRecDepth 1000000 in
theorem iv_ckMA_3 : (List.range 236).all (fun i => !(Nat.beq (i / 10) 3) || iv_ckM i) = true := by decide +kernel
set_option maxRecDepth 1000000 in
theorem iv_ckMA_4 : (List.range 236).all (fun i => !(Nat.beq (i / 10) 4) || iv_ckM i) = true := by decide +kernel
set_option maxRecDepth 1000000 in
theorem iv_ckMA_5 : (List.range 236).all (fun i => !(Nat.beq (i / 10) 5) || iv_ckM i) = true := by decide +kernel
set_option maxRecDepth 1000000 in
theorem iv_ckMA_6 : (List.range 236).all (fun i => !(Nat.beq (i / 10) 6) || iv_ckM i) = true := by decide +kernel
set_option maxRecDepth 1000000 in
theorem iv_ckMA_7 : (List.range 236).all (fun i => !(Nat.beq (i / 10) 7) || iv_ckM i) = true := by decide +kernel
