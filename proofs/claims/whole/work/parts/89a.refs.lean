/-! The references behind the constructors. -/
def rx_rfin : Nat → Nat → Option Nat := k159r43 (rx_row (k1br13 (rx_rF (k1ar8 (rx_row rx_fixd 1 (fun _ => none))))) 90 (fun _ => none))
theorem rx_rf_1 {k q : Nat} (h : rx_fx1.getD k none = some q) : rx_rfin 1 k = some q := by
  match k, h with
  | 0, h => exact (by decide +kernel : rx_rfin 1 0 = some 7).trans (show some 7 = some q from h)
  | 1, h => exact (by decide +kernel : rx_rfin 1 1 = some 13).trans (show some 13 = some q from h)
  | 2, h => exact (by decide +kernel : rx_rfin 1 2 = some 76).trans (show some 76 = some q from h)
  | 3, h => exact (by decide +kernel : rx_rfin 1 3 = some 84).trans (show some 84 = some q from h)
  | 4, h => exact (by decide +kernel : rx_rfin 1 4 = some 88).trans (show some 88 = some q from h)
  | 5, h => exact (by decide +kernel : rx_rfin 1 5 = some 2).trans (show some 2 = some q from h)
  | 6, h => exact (by decide +kernel : rx_rfin 1 6 = some 5).trans (show some 5 = some q from h)
  | c + 7, h => have h : (none : Option Nat) = some q := h; cases h
theorem rx_rf_2 {k q : Nat} (h : rx_fx2.getD k none = some q) : rx_rfin 2 k = some q := by
  match k, h with
  | 0, h => exact (by decide +kernel : rx_rfin 2 0 = some 3).trans (show some 3 = some q from h)
  | 1, h => exact (by decide +kernel : rx_rfin 2 1 = some 4).trans (show some 4 = some q from h)
  | c + 2, h => have h : (none : Option Nat) = some q := h; cases h
theorem rx_rf_5 {k q : Nat} (h : rx_fx5.getD k none = some q) : rx_rfin 5 k = some q := by
  match k, h with
  | 0, h => exact (by decide +kernel : rx_rfin 5 0 = some 6).trans (show some 6 = some q from h)
  | c + 1, h => have h : (none : Option Nat) = some q := h; cases h
theorem rx_rf_7 {k q : Nat} (h : rx_fx7.getD k none = some q) : rx_rfin 7 k = some q := by
  match k, h with
  | 0, h => have h : (none : Option Nat) = some q := h; cases h
  | 1, h => have h : (none : Option Nat) = some q := h; cases h
  | 2, h => have h : (none : Option Nat) = some q := h; cases h
  | 3, h => have h : (none : Option Nat) = some q := h; cases h
  | 4, h => have h : (none : Option Nat) = some q := h; cases h
  | 5, h => exact (by decide +kernel : rx_rfin 7 5 = some 8).trans (show some 8 = some q from h)
  | 6, h => exact (by decide +kernel : rx_rfin 7 6 = some 9).trans (show some 9 = some q from h)
  | 7, h => exact (by decide +kernel : rx_rfin 7 7 = some 10).trans (show some 10 = some q from h)
  | 8, h => exact (by decide +kernel : rx_rfin 7 8 = some 11).trans (show some 11 = some q from h)
  | 9, h => exact (by decide +kernel : rx_rfin 7 9 = some 12).trans (show some 12 = some q from h)
  | c + 10, h => have h : (none : Option Nat) = some q := h; cases h
theorem rx_rf_13 {k q : Nat} (h : rx_fx13.getD k none = some q) : rx_rfin 13 k = some q := by
  match k, h with
  | 0, h => exact (by decide +kernel : rx_rfin 13 0 = some 7).trans (show some 7 = some q from h)
  | 1, h => exact (by decide +kernel : rx_rfin 13 1 = some 14).trans (show some 14 = some q from h)
  | 2, h => exact (by decide +kernel : rx_rfin 13 2 = some 15).trans (show some 15 = some q from h)
  | c + 3, h => have h : (none : Option Nat) = some q := h; cases h
theorem rx_rf_76 {k q : Nat} (h : rx_fx76.getD k none = some q) : rx_rfin 76 k = some q := by
  match k, h with
  | 0, h => exact (by decide +kernel : rx_rfin 76 0 = some 7).trans (show some 7 = some q from h)
  | 1, h => exact (by decide +kernel : rx_rfin 76 1 = some 13).trans (show some 13 = some q from h)
  | 2, h => exact (by decide +kernel : rx_rfin 76 2 = some 77).trans (show some 77 = some q from h)
  | c + 3, h => have h : (none : Option Nat) = some q := h; cases h
theorem rx_rf_77 {k q : Nat} (h : rx_fx77.getD k none = some q) : rx_rfin 77 k = some q := by
  match k, h with
  | 0, h => exact (by decide +kernel : rx_rfin 77 0 = some 7).trans (show some 7 = some q from h)
  | 1, h => exact (by decide +kernel : rx_rfin 77 1 = some 13).trans (show some 13 = some q from h)
  | 2, h => exact (by decide +kernel : rx_rfin 77 2 = some 78).trans (show some 78 = some q from h)
  | 3, h => exact (by decide +kernel : rx_rfin 77 3 = some 79).trans (show some 79 = some q from h)
  | 4, h => exact (by decide +kernel : rx_rfin 77 4 = some 80).trans (show some 80 = some q from h)
  | 5, h => exact (by decide +kernel : rx_rfin 77 5 = some 81).trans (show some 81 = some q from h)
  | 6, h => exact (by decide +kernel : rx_rfin 77 6 = some 82).trans (show some 82 = some q from h)
  | 7, h => exact (by decide +kernel : rx_rfin 77 7 = some 83).trans (show some 83 = some q from h)
  | c + 8, h => have h : (none : Option Nat) = some q := h; cases h
theorem rx_rf_84 {k q : Nat} (h : rx_fx84.getD k none = some q) : rx_rfin 84 k = some q := by
  match k, h with
  | 0, h => exact (by decide +kernel : rx_rfin 84 0 = some 7).trans (show some 7 = some q from h)
  | 1, h => exact (by decide +kernel : rx_rfin 84 1 = some 13).trans (show some 13 = some q from h)
  | 2, h => exact (by decide +kernel : rx_rfin 84 2 = some 85).trans (show some 85 = some q from h)
  | 3, h => exact (by decide +kernel : rx_rfin 84 3 = some 86).trans (show some 86 = some q from h)
  | 4, h => exact (by decide +kernel : rx_rfin 84 4 = some 87).trans (show some 87 = some q from h)
  | c + 5, h => have h : (none : Option Nat) = some q := h; cases h
theorem rx_rf_88 {k q : Nat} (h : rx_fx88.getD k none = some q) : rx_rfin 88 k = some q := by
  match k, h with
  | 0, h => exact (by decide +kernel : rx_rfin 88 0 = some 7).trans (show some 7 = some q from h)
  | 1, h => exact (by decide +kernel : rx_rfin 88 1 = some 89).trans (show some 89 = some q from h)
  | c + 2, h => have h : (none : Option Nat) = some q := h; cases h
theorem rx_rf_90 {k q : Nat} (h : rx_fx90.getD k none = some q) : rx_rfin 90 k = some q := by
  match k, h with
  | 0, h => have h : (none : Option Nat) = some q := h; cases h
  | 1, h => have h : (none : Option Nat) = some q := h; cases h
  | 2, h => have h : (none : Option Nat) = some q := h; cases h
  | 3, h => exact (by decide +kernel : rx_rfin 90 3 = some 91).trans (show some 91 = some q from h)
  | 4, h => exact (by decide +kernel : rx_rfin 90 4 = some 92).trans (show some 92 = some q from h)
  | 5, h => have h : (none : Option Nat) = some q := h; cases h
  | 6, h => have h : (none : Option Nat) = some q := h; cases h
  | 7, h => exact (by decide +kernel : rx_rfin 90 7 = some 93).trans (show some 93 = some q from h)
  | 8, h => exact (by decide +kernel : rx_rfin 90 8 = some 94).trans (show some 94 = some q from h)
  | 9, h => exact (by decide +kernel : rx_rfin 90 9 = some 95).trans (show some 95 = some q from h)
  | 10, h => exact (by decide +kernel : rx_rfin 90 10 = some 96).trans (show some 96 = some q from h)
  | 11, h => exact (by decide +kernel : rx_rfin 90 11 = some 97).trans (show some 97 = some q from h)
  | 12, h => exact (by decide +kernel : rx_rfin 90 12 = some 98).trans (show some 98 = some q from h)
  | 13, h => exact (by decide +kernel : rx_rfin 90 13 = some 99).trans (show some 99 = some q from h)
  | 14, h => exact (by decide +kernel : rx_rfin 90 14 = some 100).trans (show some 100 = some q from h)
  | 15, h => exact (by decide +kernel : rx_rfin 90 15 = some 101).trans (show some 101 = some q from h)
  | 16, h => exact (by decide +kernel : rx_rfin 90 16 = some 102).trans (show some 102 = some q from h)
  | 17, h => exact (by decide +kernel : rx_rfin 90 17 = some 103).trans (show some 103 = some q from h)
  | 18, h => exact (by decide +kernel : rx_rfin 90 18 = some 104).trans (show some 104 = some q from h)
  | 19, h => exact (by decide +kernel : rx_rfin 90 19 = some 105).trans (show some 105 = some q from h)
  | 20, h => exact (by decide +kernel : rx_rfin 90 20 = some 106).trans (show some 106 = some q from h)
  | 21, h => have h : (none : Option Nat) = some q := h; cases h
  | 22, h => exact (by decide +kernel : rx_rfin 90 22 = some 107).trans (show some 107 = some q from h)
  | 23, h => exact (by decide +kernel : rx_rfin 90 23 = some 108).trans (show some 108 = some q from h)
  | 24, h => exact (by decide +kernel : rx_rfin 90 24 = some 109).trans (show some 109 = some q from h)
  | 25, h => have h : (none : Option Nat) = some q := h; cases h
  | 26, h => exact (by decide +kernel : rx_rfin 90 26 = some 110).trans (show some 110 = some q from h)
  | 27, h => exact (by decide +kernel : rx_rfin 90 27 = some 111).trans (show some 111 = some q from h)
  | 28, h => exact (by decide +kernel : rx_rfin 90 28 = some 112).trans (show some 112 = some q from h)
  | 29, h => exact (by decide +kernel : rx_rfin 90 29 = some 113).trans (show some 113 = some q from h)
  | 30, h => have h : (none : Option Nat) = some q := h; cases h
  | 31, h => have h : (none : Option Nat) = some q := h; cases h
  | 32, h => exact (by decide +kernel : rx_rfin 90 32 = some 114).trans (show some 114 = some q from h)
  | 33, h => have h : (none : Option Nat) = some q := h; cases h
  | 34, h => have h : (none : Option Nat) = some q := h; cases h
  | 35, h => have h : (none : Option Nat) = some q := h; cases h
  | 36, h => have h : (none : Option Nat) = some q := h; cases h
  | 37, h => exact (by decide +kernel : rx_rfin 90 37 = some 115).trans (show some 115 = some q from h)
  | 38, h => exact (by decide +kernel : rx_rfin 90 38 = some 116).trans (show some 116 = some q from h)
  | 39, h => exact (by decide +kernel : rx_rfin 90 39 = some 117).trans (show some 117 = some q from h)
  | 40, h => exact (by decide +kernel : rx_rfin 90 40 = some 118).trans (show some 118 = some q from h)
  | 41, h => exact (by decide +kernel : rx_rfin 90 41 = some 119).trans (show some 119 = some q from h)
  | 42, h => exact (by decide +kernel : rx_rfin 90 42 = some 120).trans (show some 120 = some q from h)
  | 43, h => have h : (none : Option Nat) = some q := h; cases h
  | 44, h => exact (by decide +kernel : rx_rfin 90 44 = some 121).trans (show some 121 = some q from h)
  | 45, h => exact (by decide +kernel : rx_rfin 90 45 = some 122).trans (show some 122 = some q from h)
  | 46, h => exact (by decide +kernel : rx_rfin 90 46 = some 123).trans (show some 123 = some q from h)
  | 47, h => exact (by decide +kernel : rx_rfin 90 47 = some 124).trans (show some 124 = some q from h)
  | 48, h => have h : (none : Option Nat) = some q := h; cases h
  | 49, h => exact (by decide +kernel : rx_rfin 90 49 = some 125).trans (show some 125 = some q from h)
  | 50, h => have h : (none : Option Nat) = some q := h; cases h
  | 51, h => exact (by decide +kernel : rx_rfin 90 51 = some 126).trans (show some 126 = some q from h)
  | 52, h => exact (by decide +kernel : rx_rfin 90 52 = some 127).trans (show some 127 = some q from h)
  | 53, h => have h : (none : Option Nat) = some q := h; cases h
  | 54, h => exact (by decide +kernel : rx_rfin 90 54 = some 128).trans (show some 128 = some q from h)
  | 55, h => exact (by decide +kernel : rx_rfin 90 55 = some 129).trans (show some 129 = some q from h)
  | 56, h => exact (by decide +kernel : rx_rfin 90 56 = some 130).trans (show some 130 = some q from h)
  | 57, h => exact (by decide +kernel : rx_rfin 90 57 = some 131).trans (show some 131 = some q from h)
  | 58, h => exact (by decide +kernel : rx_rfin 90 58 = some 132).trans (show some 132 = some q from h)
  | 59, h => exact (by decide +kernel : rx_rfin 90 59 = some 133).trans (show some 133 = some q from h)
  | c + 60, h => have h : (none : Option Nat) = some q := h; cases h
theorem rx_rf_134 {k q : Nat} (h : rx_fx134.getD k none = some q) : rx_rfin 134 k = some q := by
  match k, h with
  | 0, h => exact (by decide +kernel : rx_rfin 134 0 = some 7).trans (show some 7 = some q from h)
  | 1, h => exact (by decide +kernel : rx_rfin 134 1 = some 13).trans (show some 13 = some q from h)
  | 2, h => exact (by decide +kernel : rx_rfin 134 2 = some 135).trans (show some 135 = some q from h)
  | 3, h => exact (by decide +kernel : rx_rfin 134 3 = some 136).trans (show some 136 = some q from h)
  | 4, h => exact (by decide +kernel : rx_rfin 134 4 = some 137).trans (show some 137 = some q from h)
  | 5, h => exact (by decide +kernel : rx_rfin 134 5 = some 138).trans (show some 138 = some q from h)
  | 6, h => exact (by decide +kernel : rx_rfin 134 6 = some 139).trans (show some 139 = some q from h)
  | 7, h => exact (by decide +kernel : rx_rfin 134 7 = some 140).trans (show some 140 = some q from h)
  | 8, h => exact (by decide +kernel : rx_rfin 134 8 = some 141).trans (show some 141 = some q from h)
  | 9, h => exact (by decide +kernel : rx_rfin 134 9 = some 142).trans (show some 142 = some q from h)
  | c + 10, h => have h : (none : Option Nat) = some q := h; cases h
theorem rx_rf_c {i k q : Nat} (hi : i = 16 ∨ i = 22 ∨ i = 28 ∨ i = 34 ∨ i = 40 ∨ i = 46) (hk : k < 5) (h : i + 1 + k = q) : rx_rfin i k = some q := by
  subst h
  have : ∀ k : Fin 5, rx_rfin 16 k.val = some (16 + 1 + k.val) ∧ rx_rfin 22 k.val = some (22 + 1 + k.val) ∧ rx_rfin 28 k.val = some (28 + 1 + k.val) ∧ rx_rfin 34 k.val = some (34 + 1 + k.val) ∧ rx_rfin 40 k.val = some (40 + 1 + k.val) ∧ rx_rfin 46 k.val = some (46 + 1 + k.val) := by decide +kernel
  obtain ⟨h1, h2, h3, h4, h5, h6⟩ := this ⟨k, hk⟩
  rcases hi with rfl | rfl | rfl | rfl | rfl | rfl
  · exact h1
  · exact h2
  · exact h3
  · exact h4
  · exact h5
  · exact h6
theorem rx_rf_s {i q : Nat} (h1 : 52 ≤ i) (h2 : i < 76) (h3 : (i - 52) % 2 = 0) (h : i + 1 = q) : rx_rfin i 0 = some q := by
  subst h
  have : ∀ c : Fin 12, rx_rfin (52 + 2 * c.val) 0 = some (52 + 2 * c.val + 1) := by decide +kernel
  obtain ⟨c, rfl, hc⟩ : ∃ c, i = 52 + 2 * c ∧ c < 12 := ⟨(i - 52) / 2, by omega, by omega⟩
  exact this ⟨c, hc⟩
theorem rx_rf_14 {k q : Nat} (h : (bif Nat.blt k 6 then some (16 + 6 * k) else none) = some q) : rx_rfin 14 k = some q := by
  by_cases hk : k < 6
  · rw [show Nat.blt k 6 = true from Nat.ble_eq_true_of_le hk] at h
    have h : some (16 + 6 * k) = some q := h
    rw [← h]
    have : ∀ k : Fin 6, rx_rfin 14 k.val = some (16 + 6 * k.val) := by decide +kernel
    exact this ⟨k, hk⟩
  · rw [show Nat.blt k 6 = false from Bool.eq_false_iff.mpr (fun z => hk (Nat.le_of_ble_eq_true z))] at h
    have h : (none : Option Nat) = some q := h
    cases h
theorem rx_rf_15 {k q : Nat} (h : (bif Nat.blt k 12 then some (52 + 2 * k) else none) = some q) : rx_rfin 15 k = some q := by
  by_cases hk : k < 12
  · rw [show Nat.blt k 12 = true from Nat.ble_eq_true_of_le hk] at h
    have h : some (52 + 2 * k) = some q := h
    rw [← h]
    have : ∀ k : Fin 12, rx_rfin 15 k.val = some (52 + 2 * k.val) := by decide +kernel
    exact this ⟨k, hk⟩
  · rw [show Nat.blt k 12 = false from Bool.eq_false_iff.mpr (fun z => hk (Nat.le_of_ble_eq_true z))] at h
    have h : (none : Option Nat) = some q := h
    cases h
theorem rx_rf_all : ∀ i k q, rx_fixd i k = some q → rx_rfin i k = some q := by
  intro i k q h
  unfold rx_fixd at h
  split at h
  · exact rx_rf_1 h
  · exact rx_rf_2 h
  · exact rx_rf_5 h
  · exact rx_rf_7 h
  · exact rx_rf_13 h
  · exact rx_rf_76 h
  · exact rx_rf_77 h
  · exact rx_rf_84 h
  · exact rx_rf_88 h
  · exact rx_rf_90 h
  · exact rx_rf_134 h
  · exact rx_rf_14 h
  · exact rx_rf_15 h
  · rename_i i' _ _ _ _ _ _ _ _ _ _ _ _ _
    cases hb : (Nat.ble 16 i && Nat.blt i 52 && Nat.beq ((i - 16) % 6) 0 && Nat.blt k 5) with
    | true =>
      rw [hb] at h
      have h : some (i + 1 + k) = some q := h
      simp only [Bool.and_eq_true, Nat.ble_eq, Nat.blt_eq, Nat.beq_eq] at hb
      obtain ⟨⟨⟨b1, b2⟩, b3⟩, b4⟩ := hb
      exact rx_rf_c (by omega) b4 (Option.some.inj h)
    | false =>
      rw [hb] at h
      cases hc : (Nat.ble 52 i && Nat.blt i 76 && Nat.beq ((i - 52) % 2) 0 && Nat.beq k 0) with
      | true =>
        rw [hc] at h
        have h : some (i + 1) = some q := h
        simp only [Bool.and_eq_true, Nat.ble_eq, Nat.blt_eq, Nat.beq_eq] at hc
        obtain ⟨⟨⟨b1, b2⟩, b3⟩, b4⟩ := hc
        subst b4
        exact rx_rf_s b1 b2 b3 (Option.some.inj h)
      | false =>
        rw [hc] at h
        have h : (none : Option Nat) = some q := h
        cases h
theorem rx_rf_hr : rx_hr rx_rfin = rx_rfin := rx_hr_self rx_rf_all
