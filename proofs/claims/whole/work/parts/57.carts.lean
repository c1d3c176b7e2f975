/-! Rules for carts and SHELVES whose number is a variable. -/
theorem rx_sf_in {P : Nat → Prop} (h : ∀ i ∈ List.range 12, P i) {i : Nat} (hi : i < 12) : P i := h i (List.mem_range.mpr hi)
theorem rx_shelves {v : Nat → Nat → Option Nat} {i : Nat} (hi : i < 12) : rx_hr v 15 i = some (rx_sf i) := by
  match i, hi with
  | 0, _ => rfl
  | 1, _ => rfl
  | 2, _ => rfl
  | 3, _ => rfl
  | 4, _ => rfl
  | 5, _ => rfl
  | 6, _ => rfl
  | 7, _ => rfl
  | 8, _ => rfl
  | 9, _ => rfl
  | 10, _ => rfl
  | 11, _ => rfl
  | n + 12, h => omega
theorem rx_shelf_s {L : Nat} {t : List (Nat × Nat)} {v : Nat → Nat → Option Nat} {i : Nat} (hi : i < 12) : (rx_sh L t)[rx_sf i]? = some (7, 2) ∧ (rx_sh L t)[rx_sf i + 1]? = some (14, 402) ∧ rx_hr v (rx_sf i) 0 = some (rx_sf i + 1) := by
  match i, hi with
  | 0, _ => exact ⟨rfl, rfl, rfl⟩
  | 1, _ => exact ⟨rfl, rfl, rfl⟩
  | 2, _ => exact ⟨rfl, rfl, rfl⟩
  | 3, _ => exact ⟨rfl, rfl, rfl⟩
  | 4, _ => exact ⟨rfl, rfl, rfl⟩
  | 5, _ => exact ⟨rfl, rfl, rfl⟩
  | 6, _ => exact ⟨rfl, rfl, rfl⟩
  | 7, _ => exact ⟨rfl, rfl, rfl⟩
  | 8, _ => exact ⟨rfl, rfl, rfl⟩
  | 9, _ => exact ⟨rfl, rfl, rfl⟩
  | 10, _ => exact ⟨rfl, rfl, rfl⟩
  | 11, _ => exact ⟨rfl, rfl, rfl⟩
  | n + 12, h => omega
section RXQ
variable {m pc L j f : Nat} {t : List (Nat × Nat)} {hi : Nat → Nat → Int32} {hl : Nat → Nat → Int64} {v : Nat → Nat → Option Nat} {ls st : List Value} {Q : Option Value → rx_H → Prop} {x : Int32}
theorem rx_is_of {h : rx_H} {i c n k : Nat} (hs : h.1[i]? = some (c, n)) (hk : k < n) (h0 : 0 < i) : rx_is h i c k = true := by
  unfold rx_is
  rw [hs]
  dsimp only
  rw [show Nat.blt k n = true from Nat.ble_eq_true_of_le hk, show Nat.blt 0 i = true from Nat.ble_eq_true_of_le h0, Nat.beq_refl]
  rfl
theorem rx_ct_pos (j : Nat) : 0 < rx_ct j := by unfold rx_ct; omega
theorem rx_sf_pos (j : Nat) : 0 < rx_sf j := by unfold rx_sf; omega
theorem rx_cf_kd (f : Nat) (h1 : 5 ≤ f) (h2 : f < 15) (h : rx_H) (i : Nat) : f / 64 = 0 ∧ f % 64 = f ∧ rx_gv h i f = .int (h.2.1 i f) := by
  match f, h1, h2 with
  | 5, _, _ => exact ⟨rfl, rfl, rfl⟩
  | 6, _, _ => exact ⟨rfl, rfl, rfl⟩
  | 7, _, _ => exact ⟨rfl, rfl, rfl⟩
  | 8, _, _ => exact ⟨rfl, rfl, rfl⟩
  | 9, _, _ => exact ⟨rfl, rfl, rfl⟩
  | 10, _, _ => exact ⟨rfl, rfl, rfl⟩
  | 11, _, _ => exact ⟨rfl, rfl, rfl⟩
  | 12, _, _ => exact ⟨rfl, rfl, rfl⟩
  | 13, _, _ => exact ⟨rfl, rfl, rfl⟩
  | 14, _, _ => exact ⟨rfl, rfl, rfl⟩
theorem rx_w_cg (hj : j < 6) (hP : rx_P m pc = some (.getfield f)) (h1 : 5 ≤ f) (h2 : f < 15) (k : rx_aw m (pc + 3) ls (.int (hi (rx_ct j) f) :: st) (rx_hp L t hi hl v) Q) : rx_aw m pc ls (.ref (rx_ct j) :: st) (rx_hp L t hi hl v) Q := by
  obtain ⟨e1, e2, e3⟩ := rx_cf_kd f h1 h2 (rx_hp L t hi hl v) (rx_ct j)
  refine rx_aw_getf hP ?_ ?_
  · rw [e1, e2]; exact rx_is_of (h := rx_hp L t hi hl v) (rx_cart_s hj).1 (by omega) (rx_ct_pos j)
  · rw [e3]; exact k
theorem rx_w_cr (hj : j < 6) (hP : rx_P m pc = some (.getfield f)) (h2 : f < 5) (k : rx_aw m (pc + 3) ls (.ref (rx_ct j + (f + 1)) :: st) (rx_hp L t hi hl v) Q) : rx_aw m pc ls (.ref (rx_ct j) :: st) (rx_hp L t hi hl v) Q := by
  obtain ⟨c0, c1, c2, c3, c4⟩ := rx_cart_f (v := v) hj
  refine rx_aw_getf hP ?_ ?_
  · rw [show f / 64 = 0 by omega, show f % 64 = f by omega]; exact rx_is_of (h := rx_hp L t hi hl v) (rx_cart_s hj).1 (by omega) (rx_ct_pos j)
  · have e : rx_gv (rx_hp L t hi hl v) (rx_ct j) f = .ref (rx_ct j + (f + 1)) := by
      match f, h2 with
      | 0, _ => show va_rf (rx_hr v (rx_ct j) 0) = _; rw [c0]; rfl
      | 1, _ => show va_rf (rx_hr v (rx_ct j) 1) = _; rw [c1]; rfl
      | 2, _ => show va_rf (rx_hr v (rx_ct j) 2) = _; rw [c2]; rfl
      | 3, _ => show va_rf (rx_hr v (rx_ct j) 3) = _; rw [c3]; rfl
      | 4, _ => show va_rf (rx_hr v (rx_ct j) 4) = _; rw [c4]; rfl
    rw [e]; exact k
theorem rx_w_cp (hj : j < 6) (hP : rx_P m pc = some (.putfield f)) (h1 : rx_kd (rx_ty 0 f) = 0) (h2 : f < 15) (k : rx_aw m (pc + 3) ls st (rx_hp L t (rx_u hi (rx_ct j) f x) hl v) Q) : rx_aw m pc ls (.int x :: .ref (rx_ct j) :: st) (rx_hp L t hi hl v) Q := by
  refine rx_aw_putI hP ?_ ?_ ?_
  · rw [show f / 64 = 0 by omega, show f % 64 = f by omega]; exact rx_is_of (h := rx_hp L t hi hl v) (rx_cart_s hj).1 (by omega) (rx_ct_pos j)
  · rw [show f / 64 = 0 by omega, show f % 64 = f by omega]; exact h1
  · rw [show f % 64 = f by omega]; exact k
theorem rx_w_cz (hj : j < 6) (hP : rx_P m pc = some (.putfield f)) (h1 : rx_kd (rx_ty 0 f) = 3) (h2 : f < 15) (k : (x = 0 ∨ x = 1) ∧ rx_aw m (pc + 3) ls st (rx_hp L t (rx_u hi (rx_ct j) f x) hl v) Q) : rx_aw m pc ls (.int x :: .ref (rx_ct j) :: st) (rx_hp L t hi hl v) Q := by
  refine rx_aw_putZ hP ?_ ?_ k.1 ?_
  · rw [show f / 64 = 0 by omega, show f % 64 = f by omega]; exact rx_is_of (h := rx_hp L t hi hl v) (rx_cart_s hj).1 (by omega) (rx_ct_pos j)
  · rw [show f / 64 = 0 by omega, show f % 64 = f by omega]; exact h1
  · rw [show f % 64 = f by omega]; exact k.2
theorem rx_w_sg (hj : j < 12) (hP : rx_P m pc = some (.getfield 449)) (k : rx_aw m (pc + 3) ls (.int (hi (rx_sf j) 1) :: st) (rx_hp L t hi hl v) Q) : rx_aw m pc ls (.ref (rx_sf j) :: st) (rx_hp L t hi hl v) Q :=
  rx_aw_getf hP (rx_is_of (h := rx_hp L t hi hl v) (rx_shelf_s (v := v) hj).1 (by decide) (rx_sf_pos j)) k
theorem rx_w_sp (hj : j < 12) (hP : rx_P m pc = some (.putfield 449)) (k : rx_aw m (pc + 3) ls st (rx_hp L t (rx_u hi (rx_sf j) 1 x) hl v) Q) : rx_aw m pc ls (.int x :: .ref (rx_sf j) :: st) (rx_hp L t hi hl v) Q :=
  rx_aw_putI hP (rx_is_of (h := rx_hp L t hi hl v) (rx_shelf_s (v := v) hj).1 (by decide) (rx_sf_pos j)) rfl k
theorem rx_w_sr (hj : j < 12) (hP : rx_P m pc = some (.getfield 448)) (k : rx_aw m (pc + 3) ls (.ref (rx_sf j + 1) :: st) (rx_hp L t hi hl v) Q) : rx_aw m pc ls (.ref (rx_sf j) :: st) (rx_hp L t hi hl v) Q := by
  refine rx_aw_getf hP (rx_is_of (h := rx_hp L t hi hl v) (rx_shelf_s (v := v) hj).1 (by decide) (rx_sf_pos j)) ?_
  have e : rx_gv (rx_hp L t hi hl v) (rx_sf j) 448 = .ref (rx_sf j + 1) := by
    show va_rf (rx_hr v (rx_sf j) 0) = _
    rw [(rx_shelf_s (L := L) (t := t) hj).2.2]
    rfl
  rw [e]; exact k
/-- a cart out of the row of carts, a SHELF out of that of SHELVES -/
theorem rx_w_carts (hP : rx_P m pc = some .aaload) (k : ∃ j : Nat, x = nI j ∧ j < 6 ∧ rx_aw m (pc + 1) ls (.ref (rx_ct j) :: st) (rx_hp L t hi hl v) Q) : rx_aw m pc ls (.int x :: .ref 14 :: st) (rx_hp L t hi hl v) Q := by
  obtain ⟨j, h1, h2, h3⟩ := k
  refine rx_aw_aald j h1 hP (Or.inl rfl) (by decide) (n := 6) rfl h2 (by decide) ?_
  have e : va_rf ((rx_hp L t hi hl v).2.2.2 14 j) = .ref (rx_ct j) := by
    show va_rf (rx_hr v 14 j) = _
    rw [rx_carts h2]; rfl
  rw [e]; exact h3
theorem rx_w_shelves (hP : rx_P m pc = some .aaload) (k : ∃ j : Nat, x = nI j ∧ j < 12 ∧ rx_aw m (pc + 1) ls (.ref (rx_sf j) :: st) (rx_hp L t hi hl v) Q) : rx_aw m pc ls (.int x :: .ref 15 :: st) (rx_hp L t hi hl v) Q := by
  obtain ⟨j, h1, h2, h3⟩ := k
  refine rx_aw_aald j h1 hP (Or.inr rfl) (by decide) (n := 12) rfl h2 (by decide) ?_
  have e : va_rf ((rx_hp L t hi hl v).2.2.2 15 j) = .ref (rx_sf j) := by
    show va_rf (rx_hr v 15 j) = _
    rw [rx_shelves h2]; rfl
  rw [e]; exact h3
/-- an answer of type boolean that isn't a constant -/
theorem rx_w_zret {h : rx_H} (hP : rx_P m pc = some .ireturn) (hr : (rx_m m).2.2.2.1 = some .boolean) (k : (x = 0 ∨ x = 1) ∧ Q (some (.int x)) h) : rx_aw m pc ls [.int x] h Q := by
  refine rx_aw_ret ?_ k.2
  unfold rx_one
  rw [hP]
  dsimp only
  rw [hr]
  show (bif decide (x = 0 ∨ x = 1) then _ else none) = _
  rw [decide_eq_true k.1]
  rfl
end RXQ
