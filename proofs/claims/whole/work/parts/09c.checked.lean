set_option maxRecDepth 100000 in
theorem rx_sl_0_613 : rx_okp 0 613 25 = true := by decide +kernel
set_option maxRecDepth 100000 in
theorem rx_sl_0_638 : rx_okp 0 638 24 = true := by decide +kernel
set_option maxRecDepth 100000 in
theorem rx_sl_0_662 : rx_okp 0 662 23 = true := by decide +kernel
set_option maxRecDepth 100000 in
theorem rx_sl_0_685 : rx_okp 0 685 23 = true := by decide +kernel
set_option maxRecDepth 100000 in
theorem rx_sl_0_708 : rx_okp 0 708 22 = true := by decide +kernel
set_option maxRecDepth 100000 in
theorem rx_sl_0_730 : rx_okp 0 730 22 = true := by decide +kernel
set_option maxRecDepth 100000 in
theorem rx_sl_0_752 : rx_okp 0 752 11 = true := by decide +kernel
set_option maxRecDepth 100000 in
theorem rx_ok_1 : (List.range' 1 6).all rx_okj = true := by decide +kernel
