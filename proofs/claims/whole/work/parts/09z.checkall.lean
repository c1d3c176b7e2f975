theorem rx_ok_0 : rx_okj 0 = true := rx_okp_all (rx_okp_cons rx_sl_0_0 (rx_okp_cons rx_sl_0_118 (rx_okp_cons rx_sl_0_185 (rx_okp_cons rx_sl_0_241 (rx_okp_cons rx_sl_0_289 (rx_okp_cons rx_sl_0_332 (rx_okp_cons rx_sl_0_371 (rx_okp_cons rx_sl_0_407 (rx_okp_cons rx_sl_0_441 (rx_okp_cons rx_sl_0_473 (rx_okp_cons rx_sl_0_503 (rx_okp_cons rx_sl_0_532 (rx_okp_cons rx_sl_0_560 (rx_okp_cons rx_sl_0_587 (rx_okp_cons rx_sl_0_613 (rx_okp_cons rx_sl_0_638 (rx_okp_cons rx_sl_0_662 (rx_okp_cons rx_sl_0_685 (rx_okp_cons rx_sl_0_708 (rx_okp_cons rx_sl_0_730 (rx_okp_cons rx_sl_0_752 (rx_okp_end 0 763 (by decide +kernel)))))))))))))))))))))))
theorem rx_ok_127 : rx_okj 127 = true := rx_okp_all (rx_okp_cons rx_sl_127_0 (rx_okp_cons rx_sl_127_152 (rx_okp_end 127 174 (by decide +kernel))))
theorem rx_ok_159 : rx_okj 159 = true := rx_okp_all (rx_okp_cons rx_sl_159_0 (rx_okp_cons rx_sl_159_138 (rx_okp_cons rx_sl_159_201 (rx_okp_end 159 214 (by decide +kernel)))))
theorem rx_ok_172 : rx_okj 172 = true := rx_okp_all (rx_okp_cons rx_sl_172_0 (rx_okp_cons rx_sl_172_145 (rx_okp_end 172 147 (by decide +kernel))))
theorem rx_ok_193 : rx_okj 193 = true := rx_okp_all (rx_okp_cons rx_sl_193_0 (rx_okp_cons rx_sl_193_147 (rx_okp_end 193 149 (by decide +kernel))))
theorem rx_ok_228 : rx_okj 228 = true := rx_okp_all (rx_okp_cons rx_sl_228_0 (rx_okp_cons rx_sl_228_148 (rx_okp_end 228 175 (by decide +kernel))))
theorem rx_ok (j : Nat) (h : j < 246) : rx_okj j = true := by
  rcases Nat.lt_or_ge j 1 with g | g
  · have e : j = 0 := by omega
    subst e; exact rx_ok_0
  rcases Nat.lt_or_ge j 7 with g | g
  · exact List.all_eq_true.mp rx_ok_1 j (List.mem_range'_1.mpr ⟨by omega, by omega⟩)
  rcases Nat.lt_or_ge j 17 with g | g
  · exact List.all_eq_true.mp rx_ok_7 j (List.mem_range'_1.mpr ⟨by omega, by omega⟩)
  rcases Nat.lt_or_ge j 28 with g | g
  · exact List.all_eq_true.mp rx_ok_17 j (List.mem_range'_1.mpr ⟨by omega, by omega⟩)
  rcases Nat.lt_or_ge j 41 with g | g
  · exact List.all_eq_true.mp rx_ok_28 j (List.mem_range'_1.mpr ⟨by omega, by omega⟩)
  rcases Nat.lt_or_ge j 49 with g | g
  · exact List.all_eq_true.mp rx_ok_41 j (List.mem_range'_1.mpr ⟨by omega, by omega⟩)
  rcases Nat.lt_or_ge j 54 with g | g
  · exact List.all_eq_true.mp rx_ok_49 j (List.mem_range'_1.mpr ⟨by omega, by omega⟩)
  rcases Nat.lt_or_ge j 61 with g | g
  · exact List.all_eq_true.mp rx_ok_54 j (List.mem_range'_1.mpr ⟨by omega, by omega⟩)
  rcases Nat.lt_or_ge j 65 with g | g
  · exact List.all_eq_true.mp rx_ok_61 j (List.mem_range'_1.mpr ⟨by omega, by omega⟩)
  rcases Nat.lt_or_ge j 70 with g | g
  · exact List.all_eq_true.mp rx_ok_65 j (List.mem_range'_1.mpr ⟨by omega, by omega⟩)
  rcases Nat.lt_or_ge j 73 with g | g
  · exact List.all_eq_true.mp rx_ok_70 j (List.mem_range'_1.mpr ⟨by omega, by omega⟩)
  rcases Nat.lt_or_ge j 77 with g | g
  · exact List.all_eq_true.mp rx_ok_73 j (List.mem_range'_1.mpr ⟨by omega, by omega⟩)
  rcases Nat.lt_or_ge j 79 with g | g
  · exact List.all_eq_true.mp rx_ok_77 j (List.mem_range'_1.mpr ⟨by omega, by omega⟩)
  rcases Nat.lt_or_ge j 82 with g | g
  · exact List.all_eq_true.mp rx_ok_79 j (List.mem_range'_1.mpr ⟨by omega, by omega⟩)
  rcases Nat.lt_or_ge j 91 with g | g
  · exact List.all_eq_true.mp rx_ok_82 j (List.mem_range'_1.mpr ⟨by omega, by omega⟩)
  rcases Nat.lt_or_ge j 101 with g | g
  · exact List.all_eq_true.mp rx_ok_91 j (List.mem_range'_1.mpr ⟨by omega, by omega⟩)
  rcases Nat.lt_or_ge j 104 with g | g
  · exact List.all_eq_true.mp rx_ok_101 j (List.mem_range'_1.mpr ⟨by omega, by omega⟩)
  rcases Nat.lt_or_ge j 113 with g | g
  · exact List.all_eq_true.mp rx_ok_104 j (List.mem_range'_1.mpr ⟨by omega, by omega⟩)
  rcases Nat.lt_or_ge j 122 with g | g
  · exact List.all_eq_true.mp rx_ok_113 j (List.mem_range'_1.mpr ⟨by omega, by omega⟩)
  rcases Nat.lt_or_ge j 127 with g | g
  · exact List.all_eq_true.mp rx_ok_122 j (List.mem_range'_1.mpr ⟨by omega, by omega⟩)
  rcases Nat.lt_or_ge j 128 with g | g
  · have e : j = 127 := by omega
    subst e; exact rx_ok_127
  rcases Nat.lt_or_ge j 136 with g | g
  · exact List.all_eq_true.mp rx_ok_128 j (List.mem_range'_1.mpr ⟨by omega, by omega⟩)
  rcases Nat.lt_or_ge j 142 with g | g
  · exact List.all_eq_true.mp rx_ok_136 j (List.mem_range'_1.mpr ⟨by omega, by omega⟩)
  rcases Nat.lt_or_ge j 149 with g | g
  · exact List.all_eq_true.mp rx_ok_142 j (List.mem_range'_1.mpr ⟨by omega, by omega⟩)
  rcases Nat.lt_or_ge j 159 with g | g
  · exact List.all_eq_true.mp rx_ok_149 j (List.mem_range'_1.mpr ⟨by omega, by omega⟩)
  rcases Nat.lt_or_ge j 160 with g | g
  · have e : j = 159 := by omega
    subst e; exact rx_ok_159
  rcases Nat.lt_or_ge j 165 with g | g
  · exact List.all_eq_true.mp rx_ok_160 j (List.mem_range'_1.mpr ⟨by omega, by omega⟩)
  rcases Nat.lt_or_ge j 166 with g | g
  · exact List.all_eq_true.mp rx_ok_165 j (List.mem_range'_1.mpr ⟨by omega, by omega⟩)
  rcases Nat.lt_or_ge j 172 with g | g
  · exact List.all_eq_true.mp rx_ok_166 j (List.mem_range'_1.mpr ⟨by omega, by omega⟩)
  rcases Nat.lt_or_ge j 173 with g | g
  · have e : j = 172 := by omega
    subst e; exact rx_ok_172
  rcases Nat.lt_or_ge j 183 with g | g
  · exact List.all_eq_true.mp rx_ok_173 j (List.mem_range'_1.mpr ⟨by omega, by omega⟩)
  rcases Nat.lt_or_ge j 184 with g | g
  · exact List.all_eq_true.mp rx_ok_183 j (List.mem_range'_1.mpr ⟨by omega, by omega⟩)
  rcases Nat.lt_or_ge j 189 with g | g
  · exact List.all_eq_true.mp rx_ok_184 j (List.mem_range'_1.mpr ⟨by omega, by omega⟩)
  rcases Nat.lt_or_ge j 193 with g | g
  · exact List.all_eq_true.mp rx_ok_189 j (List.mem_range'_1.mpr ⟨by omega, by omega⟩)
  rcases Nat.lt_or_ge j 194 with g | g
  · have e : j = 193 := by omega
    subst e; exact rx_ok_193
  rcases Nat.lt_or_ge j 200 with g | g
  · exact List.all_eq_true.mp rx_ok_194 j (List.mem_range'_1.mpr ⟨by omega, by omega⟩)
  rcases Nat.lt_or_ge j 203 with g | g
  · exact List.all_eq_true.mp rx_ok_200 j (List.mem_range'_1.mpr ⟨by omega, by omega⟩)
  rcases Nat.lt_or_ge j 207 with g | g
  · exact List.all_eq_true.mp rx_ok_203 j (List.mem_range'_1.mpr ⟨by omega, by omega⟩)
  rcases Nat.lt_or_ge j 211 with g | g
  · exact List.all_eq_true.mp rx_ok_207 j (List.mem_range'_1.mpr ⟨by omega, by omega⟩)
  rcases Nat.lt_or_ge j 212 with g | g
  · exact List.all_eq_true.mp rx_ok_211 j (List.mem_range'_1.mpr ⟨by omega, by omega⟩)
  rcases Nat.lt_or_ge j 221 with g | g
  · exact List.all_eq_true.mp rx_ok_212 j (List.mem_range'_1.mpr ⟨by omega, by omega⟩)
  rcases Nat.lt_or_ge j 225 with g | g
  · exact List.all_eq_true.mp rx_ok_221 j (List.mem_range'_1.mpr ⟨by omega, by omega⟩)
  rcases Nat.lt_or_ge j 228 with g | g
  · exact List.all_eq_true.mp rx_ok_225 j (List.mem_range'_1.mpr ⟨by omega, by omega⟩)
  rcases Nat.lt_or_ge j 229 with g | g
  · have e : j = 228 := by omega
    subst e; exact rx_ok_228
  rcases Nat.lt_or_ge j 236 with g | g
  · exact List.all_eq_true.mp rx_ok_229 j (List.mem_range'_1.mpr ⟨by omega, by omega⟩)
  rcases Nat.lt_or_ge j 237 with g | g
  · exact List.all_eq_true.mp rx_ok_236 j (List.mem_range'_1.mpr ⟨by omega, by omega⟩)
  rcases Nat.lt_or_ge j 241 with g | g
  · exact List.all_eq_true.mp rx_ok_237 j (List.mem_range'_1.mpr ⟨by omega, by omega⟩)
  rcases Nat.lt_or_ge j 244 with g | g
  · exact List.all_eq_true.mp rx_ok_241 j (List.mem_range'_1.mpr ⟨by omega, by omega⟩)
  rcases Nat.lt_or_ge j 246 with g | g
  · exact List.all_eq_true.mp rx_ok_244 j (List.mem_range'_1.mpr ⟨by omega, by omega⟩)
  omega
