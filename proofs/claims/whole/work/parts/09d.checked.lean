set_option maxRecDepth 100000 in
theorem rx_ok_7 : (List.range' 7 10).all rx_okj = true := by decide +kernel
set_option maxRecDepth 100000 in
theorem rx_ok_17 : (List.range' 17 11).all rx_okj = true := by decide +kernel
set_option maxRecDepth 100000 in
theorem rx_ok_28 : (List.range' 28 13).all rx_okj = true := by decide +kernel
set_option maxRecDepth 100000 in
theorem rx_ok_41 : (List.range' 41 8).all rx_okj = true := by decide +kernel
set_option maxRecDepth 100000 in
theorem rx_ok_49 : (List.range' 49 5).all rx_okj = true := by decide +kernel
set_option maxRecDepth 100000 in
theorem rx_ok_54 : (List.range' 54 7).all rx_okj = true := by decide +kernel
set_option maxRecDepth 100000 in
theorem rx_ok_61 : (List.range' 61 4).all rx_okj = true := by decide +kernel
set_option maxRecDepth 100000 in
theorem rx_ok_65 : (List.range' 65 5).all rx_okj = true := by decide +kernel
