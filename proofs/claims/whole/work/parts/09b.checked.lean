set_option maxRecDepth 100000 in
theorem rx_sl_0_407 : rx_okp 0 407 34 = true := by decide +kernel
set_option maxRecDepth 100000 in
theorem rx_sl_0_441 : rx_okp 0 441 32 = true := by decide +kernel
set_option maxRecDepth 100000 in
theorem rx_sl_0_473 : rx_okp 0 473 30 = true := by decide +kernel
set_option maxRecDepth 100000 in
theorem rx_sl_0_503 : rx_okp 0 503 29 = true := by decide +kernel
set_option maxRecDepth 100000 in
theorem rx_sl_0_532 : rx_okp 0 532 28 = true := by decide +kernel
set_option maxRecDepth 100000 in
theorem rx_sl_0_560 : rx_okp 0 560 27 = true := by decide +kernel
set_option maxRecDepth 100000 in
theorem rx_sl_0_587 : rx_okp 0 587 26 = true := by decide +kernel
