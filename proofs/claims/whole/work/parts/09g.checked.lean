set_option maxRecDepth 100000 in
theorem rx_sl_159_138 : rx_okp 159 138 63 = true := by decide +kernel
set_option maxRecDepth 100000 in
theorem rx_sl_159_201 : rx_okp 159 201 13 = true := by decide +kernel
set_option maxRecDepth 100000 in
theorem rx_ok_160 : (List.range' 160 5).all rx_okj = true := by decide +kernel
set_option maxRecDepth 100000 in
theorem rx_ok_165 : (List.range' 165 1).all rx_okj = true := by decide +kernel
set_option maxRecDepth 100000 in
theorem rx_ok_166 : (List.range' 166 6).all rx_okj = true := by decide +kernel
set_option maxRecDepth 100000 in
theorem rx_sl_172_0 : rx_okp 172 0 145 = true := by decide +kernel
set_option maxRecDepth 100000 in
theorem rx_sl_172_145 : rx_okp 172 145 2 = true := by decide +kernel
set_option maxRecDepth 100000 in
theorem rx_ok_173 : (List.range' 173 10).all rx_okj = true := by decide +kernel
set_option maxRecDepth 100000 in
theorem rx_ok_183 : (List.range' 183 1).all rx_okj = true := by decide +kernel
set_option maxRecDepth 100000 in
theorem rx_ok_184 : (List.range' 184 5).all rx_okj = true := by decide +kernel
