set_option maxRecDepth 100000 in
theorem rx_ok_70 : (List.range' 70 3).all rx_okj = true := by decide +kernel
set_option maxRecDepth 100000 in
theorem rx_ok_73 : (List.range' 73 4).all rx_okj = true := by decide +kernel
set_option maxRecDepth 100000 in
theorem rx_ok_77 : (List.range' 77 2).all rx_okj = true := by decide +kernel
set_option maxRecDepth 100000 in
theorem rx_ok_79 : (List.range' 79 3).all rx_okj = true := by decide +kernel
set_option maxRecDepth 100000 in
theorem rx_ok_82 : (List.range' 82 9).all rx_okj = true := by decide +kernel
set_option maxRecDepth 100000 in
theorem rx_ok_91 : (List.range' 91 10).all rx_okj = true := by decide +kernel
set_option maxRecDepth 100000 in
theorem rx_ok_101 : (List.range' 101 3).all rx_okj = true := by decide +kernel
set_option maxRecDepth 100000 in
theorem rx_ok_104 : (List.range' 104 9).all rx_okj = true := by decide +kernel
