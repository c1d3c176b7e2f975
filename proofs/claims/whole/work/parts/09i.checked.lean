set_option maxRecDepth 100000 in
theorem rx_ok_221 : (List.range' 221 4).all rx_okj = true := by decide +kernel
set_option maxRecDepth 100000 in
theorem rx_ok_225 : (List.range' 225 3).all rx_okj = true := by decide +kernel
set_option maxRecDepth 100000 in
theorem rx_sl_228_0 : rx_okp 228 0 148 = true := by decide +kernel
set_option maxRecDepth 100000 in
theorem rx_sl_228_148 : rx_okp 228 148 27 = true := by decide +kernel
set_option maxRecDepth 100000 in
theorem rx_ok_229 : (List.range' 229 7).all rx_okj = true := by decide +kernel
set_option maxRecDepth 100000 in
theorem rx_ok_236 : (List.range' 236 1).all rx_okj = true := by decide +kernel
set_option maxRecDepth 100000 in
theorem rx_ok_237 : (List.range' 237 4).all rx_okj = true := by decide +kernel
set_option maxRecDepth 100000 in
theorem rx_ok_241 : (List.range' 241 3).all rx_okj = true := by decide +kernel
