set_option maxRecDepth 100000 in
theorem rx_ok_189 : (List.range' 189 4).all rx_okj = true := by decide +kernel
set_option maxRecDepth 100000 in
theorem rx_sl_193_0 : rx_okp 193 0 147 = true := by decide +kernel
set_option maxRecDepth 100000 in
theorem rx_sl_193_147 : rx_okp 193 147 2 = true := by decide +kernel
set_option maxRecDepth 100000 in
theorem rx_ok_194 : (List.range' 194 6).all rx_okj = true := by decide +kernel
set_option maxRecDepth 100000 in
theorem rx_ok_200 : (List.range' 200 3).all rx_okj = true := by decide +kernel
set_option maxRecDepth 100000 in
theorem rx_ok_203 : (List.range' 203 4).all rx_okj = true := by decide +kernel
set_option maxRecDepth 100000 in
theorem rx_ok_207 : (List.range' 207 4).all rx_okj = true := by decide +kernel
set_option maxRecDepth 100000 in
theorem rx_ok_211 : (List.range' 211 1).all rx_okj = true := by decide +kernel
set_option maxRecDepth 100000 in
theorem rx_ok_212 : (List.range' 212 9).all rx_okj = true := by decide +kernel
