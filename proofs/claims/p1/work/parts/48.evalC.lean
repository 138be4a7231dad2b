set_option maxRecDepth 1000000 in
theorem iv_eC : (iv_chk 6 11 && iv_chk 6 13 && iv_chk 6 14 && iv_chk 6 15 && iv_chk 6 16 && iv_chk 6 17) = true := by decide +kernel
