set_option maxRecDepth 1000000 in
theorem iv_eB : (iv_chk 6 5 && iv_chk 6 6 && iv_chk 6 7 && iv_chk 6 8 && iv_chk 6 9 && iv_chk 6 10) = true := by decide +kernel
