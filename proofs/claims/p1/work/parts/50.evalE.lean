set_option maxRecDepth 1000000 in
theorem iv_eE : (iv_chk 0 0 && iv_chk 1 0 && iv_chk 2 0 && iv_chk 3 0 && iv_chk 4 0 && iv_chk 5 0 && iv_chk 6 27 && iv_chk 6 28 && iv_chk 6 29 && iv_chk 6 30 && iv_chk 6 31) = true := by decide +kernel
