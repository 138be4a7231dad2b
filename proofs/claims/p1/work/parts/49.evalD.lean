set_option maxRecDepth 1000000 in
theorem iv_eD : (iv_chk 6 18 && iv_chk 6 19 && iv_chk 6 20 && iv_chk 6 21 && iv_chk 6 22 && iv_chk 6 23 && iv_chk 6 24 && iv_chk 6 25) = true := by decide +kernel
