set_option maxRecDepth 100000 in
theorem rx_ok_113 : (List.range' 113 9).all rx_okj = true := by decide +kernel
set_option maxRecDepth 100000 in
theorem rx_ok_122 : (List.range' 122 5).all rx_okj = true := by decide +kernel
set_option maxRecDepth 100000 in
theorem rx_sl_127_0 : rx_okp 127 0 152 = true := by decide +kernel
set_option maxRecDepth 100000 in
theorem rx_sl_127_152 : rx_okp 127 152 22 = true := by decide +kernel
set_option maxRecDepth 100000 in
theorem rx_ok_128 : (List.range' 128 8).all rx_okj = true := by decide +kernel
set_option maxRecDepth 100000 in
theorem rx_ok_136 : (List.range' 136 6).all rx_okj = true := by decide +kernel
set_option maxRecDepth 100000 in
theorem rx_ok_142 : (List.range' 142 7).all rx_okj = true := by decide +kernel
set_option maxRecDepth 100000 in
theorem rx_ok_149 : (List.range' 149 10).all rx_okj = true := by decide +kernel
set_option maxRecDepth 100000 in
theorem rx_sl_159_0 : rx_okp 159 0 138 = true := by decide +kernel
