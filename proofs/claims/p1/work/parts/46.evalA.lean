set_option maxRecDepth 1000000 in
theorem iv_eA : (iv_chk 6 0 && iv_chk 6 1 && iv_chk 6 2 && iv_chk 6 3) = true := by decide +kernel
