set_option maxRecDepth 100000 in
theorem rx_sl_0_0 : rx_okp 0 0 118 = true := by decide +kernel
set_option maxRecDepth 100000 in
theorem rx_sl_0_118 : rx_okp 0 118 67 = true := by decide +kernel
set_option maxRecDepth 100000 in
theorem rx_sl_0_185 : rx_okp 0 185 56 = true := by decide +kernel
set_option maxRecDepth 100000 in
theorem rx_sl_0_241 : rx_okp 0 241 48 = true := by decide +kernel
set_option maxRecDepth 100000 in
theorem rx_sl_0_289 : rx_okp 0 289 43 = true := by decide +kernel
set_option maxRecDepth 100000 in
theorem rx_sl_0_332 : rx_okp 0 332 39 = true := by decide +kernel
set_option maxRecDepth 100000 in
theorem rx_sl_0_371 : rx_okp 0 371 36 = true := by decide +kernel
