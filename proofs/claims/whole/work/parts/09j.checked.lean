set_option maxRecDepth 100000 in
theorem rx_ok_244 : (List.range' 244 2).all rx_okj = true := by decide +kernel
