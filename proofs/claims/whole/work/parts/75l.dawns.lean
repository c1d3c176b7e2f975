/-! dawn: the class, the reference, both. -/
section RXE
variable {L : Nat} {t : List (Nat × Nat)} {v : Nat → Nat → Option Nat}
variable {RI : Int32 → (Nat → Nat → Int32) → (Nat → Nat → Int64) → (Nat → Nat → Option Nat) → Prop}
theorem cf_X_dw {S : cf_S} {hi hi2 : Nat → Nat → Int32} {hl : Nat → Nat → Int64} (X : cf_X S hi hl) (F : ∀ a b, 7 ≤ a → a < 76 → ¬ (16 ≤ a ∧ a < 52 ∧ (a - 16) % 6 = 0 ∧ 6 ≤ b ∧ b ≤ 11) → ¬ (52 ≤ a ∧ a < 76 ∧ b = 1) → hi2 a b = hi a b) (W1 : ∀ c, c < S 0 2 → hi2 (rx_ct c) 6 = nI (cf_st S 402 c) ∧ hi2 (rx_ct c) 7 = 0 ∧ hi2 (rx_ct c) 8 = -1 ∧ hi2 (rx_ct c) 9 = -1 ∧ hi2 (rx_ct c) 10 = 0 ∧ hi2 (rx_ct c) 11 = 0) (W2 : ∀ s, s < S 0 3 → hi2 (rx_sf s) 1 = nI (cf_sp S 402 s)) : cf_X (cf_dw S) hi2 hl := by
  have r : ∀ a b, ¬ a = 9 → ¬ a = 12 → ¬ (4 ≤ a ∧ a ≤ 8) → cf_dw S a b = S a b := fun a b h h2 h3 => cf_dw_r h h2 h3
  have V' := cf_V_dw X.1
  obtain ⟨V, K1, K2, K3, C, G1, G2, B⟩ := X
  have h6 := V.2.2.1
  unfold cf_X
  rw [r 0 0 (by omega) (by omega) (by omega), r 0 1 (by omega) (by omega) (by omega)]
  refine ⟨V', ?_, cf_K2_eq K2 (fun b => F _ _ (by omega) (by omega) (by omega) (by omega)) (fun _ => rfl) (fun _ => rfl), K3, ⟨?_, ?_, fun c hc => ?_, fun s hs => ?_⟩, fun p hp => ?_, fun p hp => ?_, ?_⟩
  · obtain ⟨b1, b2, b3, b4, b5, b6⟩ := K1
    exact ⟨b1, b2, b3, b4, (F _ _ (by omega) (by omega) (by omega) (by omega)).trans b5, (F _ _ (by omega) (by omega) (by omega) (by omega)).trans b6⟩
  · rw [F _ _ (by omega) (by omega) (by omega) (by omega), r _ _ (by omega) (by omega) (by omega)]; exact C.1
  · rw [F _ _ (by omega) (by omega) (by omega) (by omega), r _ _ (by omega) (by omega) (by omega)]; exact C.2.1
  · rw [r _ _ (by omega) (by omega) (by omega)] at hc
    obtain ⟨w1, w2, w3, w4, w5, w6⟩ := W1 c hc
    rw [r 3 c (by omega) (by omega) (by omega), cf_dw_9, cf_dw_0 (by omega) (by omega), cf_dw_0 (by omega) (by omega), cf_dw_0 (by omega) (by omega), cf_dw_0 (by omega) (by omega), cf_dw_0 (by omega) (by omega)]
    exact ⟨(F _ _ (by unfold rx_ct; omega) (by unfold rx_ct; omega) (by unfold rx_ct; omega) (by unfold rx_ct; omega)).trans (C.2.2.1 c hc).1, w1, w2, w3, w4, w5, w6, fun t ht => by omega⟩
  · rw [r _ _ (by omega) (by omega) (by omega)] at hs
    rw [cf_dw_12]; exact W2 s hs
  · rw [F _ _ (by omega) (by omega) (by omega) (by omega), r _ _ (by omega) (by omega) (by omega)]; exact G1 p hp
  · rw [F _ _ (by omega) (by omega) (by omega) (by omega), r _ _ (by omega) (by omega) (by omega)]; exact G2 p hp
  · rw [B]; exact (cf_bar_eq (r 0 0 (by omega) (by omega) (by omega)) (r 0 1 (by omega) (by omega) (by omega)) (funext fun b => r 1 b (by omega) (by omega) (by omega)) (funext fun b => r 2 b (by omega) (by omega) (by omega))).symm
theorem c96 {S : cf_S} {ls : Nat} {hi0 : Nat → Nat → Int32} {hl : Nat → Nat → Int64} (A : cf_A S ls hi0 hl) (kg : ∀ hi2 hl2, (∀ a b, (a < 13 ∨ 77 ≤ a) → ¬ (a = 1 ∧ b = 8) → hi2 a b = hi0 a b) → hi2 1 8 = hi0 1 8 + 1 → (∀ a b, 76 ≤ a → hl2 a b = hl a b) → cf_A (cf_dw S) 0 hi2 hl2 → RI (hi0 1 8 + 1) hi2 hl2 v) : rx_CI L t 96 [.ref 1] hi0 hl v RI := by
  obtain ⟨X, bt, _⟩ := A
  have V := X.1.1
  have C := X.1.2.2.2.2.1
  have h6 := V.2.2.1
  have h12 := V.2.2.2.1
  have hT := cf_set_lt V
  -- the SHELVES
  have l2 : ∀ d i, i + d = S 0 3 → ∀ hi : Nat → Nat → Int32, (∀ a b, ¬ (16 ≤ a ∧ a < 52 ∧ (a - 16) % 6 = 0 ∧ 6 ≤ b ∧ b ≤ 11) → ¬ (52 ≤ a ∧ a < 76 ∧ b = 1 ∧ (a - 52) % 2 = 0) → hi a b = hi0 a b) → (∀ c, c < S 0 2 → hi (rx_ct c) 6 = nI (cf_st S 402 c) ∧ hi (rx_ct c) 7 = 0 ∧ hi (rx_ct c) 8 = -1 ∧ hi (rx_ct c) 9 = -1 ∧ hi (rx_ct c) 10 = 0 ∧ hi (rx_ct c) 11 = 0) → (∀ s, s < i → hi (rx_sf s) 1 = nI (cf_sp S 402 s)) → rx_aw 96 44 [.ref 1, .int (nI i)] [] (rx_hp L t hi hl v) (fun r h2 => ∃ z : Int32, r = some (.int z) ∧ rx_ok2 L t h2 (RI z)) := by
    intro d
    induction d with
    | zero =>
      intro i hid hi F W1 W2
      have : i = S 0 3 := by omega
      subst this
      refine w96_dawn_44 ⟨fun g => ?_, fun g => absurd ?_ g⟩
      · have X' : cf_X (cf_dw S) (rx_u hi 76 3 0) hl := by
          refine cf_X_dw X.1 (fun a b z1 z2 z3 z4 => ?_) (fun c hc => ?_) (fun s hs => ?_)
          · rw [cf_ru_ne (by omega)]; exact F a b z3 (by omega)
          · rw [cf_ru_ne (by unfold rx_ct; omega), cf_ru_ne (by unfold rx_ct; omega), cf_ru_ne (by unfold rx_ct; omega), cf_ru_ne (by unfold rx_ct; omega), cf_ru_ne (by unfold rx_ct; omega), cf_ru_ne (by unfold rx_ct; omega)]
            exact W1 c hc
          · rw [cf_ru_ne (by unfold rx_sf; omega)]; exact W2 s hs
        refine c41 X' (fun hi6 hl6 F6 R6 => ?_)
        have X6 := cf_X_fr X' F6
        have f0 : ∀ a b, (a < 13 ∨ 77 ≤ a) → hi6 a b = hi0 a b := fun a b z => by
          rw [F6.1 a b (by unfold cf_rw; omega), cf_ru_ne (by omega)]
          exact F a b (by omega) (by omega)
        rw [cf_ru_eq]
        refine c_retIe (kg _ hl6 (fun a b z1 z2 => ?_) ?_ (fun a b z => F6.2 a b (by unfold cf_rwl; omega)) (cf_A_ext (hi := hi6) (hl := hl6) ⟨⟨X6, R6⟩, cf_bts_fC (fun c hc j hj => ?_) (cf_fr_fC F6), ?_⟩ (fun a b z1 z2 => cf_ru_ne (by omega)) (fun _ _ _ _ => rfl))) ?_
        · rw [cf_ru_ne z2]; exact f0 a b z1
        · rw [cf_ru_eq, f0 1 8 (by omega)]
        · rw [cf_ru_ne (by unfold rx_ct; omega), cf_ru_ne (by unfold rx_ct; omega), F _ _ (by unfold rx_ct; omega) (by unfold rx_ct; omega), F _ _ (by unfold rx_ct; omega) (by unfold rx_ct; omega)]
          exact bt c hc j hj
        · rw [F6.1 76 3 (by unfold cf_rw; omega), cf_ru_eq]; rfl
        · rw [f0 1 8 (by omega)]
      · rw [F _ _ (by omega) (by omega), C.2.1, cf_nle (by omega) (by omega)]; omega
    | succ d ih =>
      intro i hid hi F W1 W2
      refine w96_dawn_44 ⟨fun g => ?_, fun g => ⟨i, rfl, by omega, c38 (T := cf_set S) (j := 402) ?_ hT (by omega) (by omega) ?_⟩⟩
      · rw [F _ _ (by omega) (by omega), C.2.1, cf_nle (by omega) (by omega)] at g; omega
      · rw [F _ _ (by omega) (by omega)]; exact cf_Rs X (by omega)
      · have ev : hi (rx_sf i + 1) (min 402 (cf_set S)) = nI (cf_sp S 402 i) := by
          rw [F _ _ (by unfold rx_sf; omega) (by unfold rx_sf; omega), X.2.2.2 i (by omega) _ (Nat.min_le_right _ _), cf_sp_min]
        rw [ev, show nI i + 1 = nI (i + 1) from nI_add i 1]
        refine ih (i + 1) (by omega) _ (fun a b z1 z2 => ?_) (fun c hc => ?_) (fun s hs => ?_)
        · rw [cf_ru_ne (by unfold rx_sf; omega)]; exact F a b z1 z2
        · rw [cf_ru_ne (by unfold rx_ct rx_sf; omega), cf_ru_ne (by unfold rx_ct rx_sf; omega), cf_ru_ne (by unfold rx_ct rx_sf; omega), cf_ru_ne (by unfold rx_ct rx_sf; omega), cf_ru_ne (by unfold rx_ct rx_sf; omega), cf_ru_ne (by unfold rx_ct rx_sf; omega)]
          exact W1 c hc
        · by_cases e : s = i
          · subst e; exact cf_ru_eq
          · rw [cf_ru_ne (by unfold rx_sf; omega)]; exact W2 s (by omega)
  -- the carts
  have l1 : ∀ d i, i + d = S 0 2 → ∀ hi : Nat → Nat → Int32, (∀ a b, ¬ (16 ≤ a ∧ a < 52 ∧ (a - 16) % 6 = 0 ∧ 6 ≤ b ∧ b ≤ 11) → hi a b = hi0 a b) → (∀ c, c < i → hi (rx_ct c) 6 = nI (cf_st S 402 c) ∧ hi (rx_ct c) 7 = 0 ∧ hi (rx_ct c) 8 = -1 ∧ hi (rx_ct c) 9 = -1 ∧ hi (rx_ct c) 10 = 0 ∧ hi (rx_ct c) 11 = 0) → rx_aw 96 2 [.ref 1, .int (nI i)] [] (rx_hp L t hi hl v) (fun r h2 => ∃ z : Int32, r = some (.int z) ∧ rx_ok2 L t h2 (RI z)) := by
    intro d
    induction d with
    | zero =>
      intro i hid hi F W1
      refine w96_dawn_2 ⟨fun g => l2 (S 0 3) 0 (by omega) hi (fun a b z1 _ => F a b z1) (fun c hc => W1 c (by omega)) (fun s hs => by omega), fun g => absurd ?_ g⟩
      rw [F _ _ (by omega), C.1, cf_nle (by omega) (by omega)]; omega
    | succ d ih =>
      intro i hid hi F W1
      refine w96_dawn_2 ⟨fun g => ?_, fun g => ⟨i, rfl, by omega, c47 (T := cf_set S) (j := 402) ?_ hT (by omega) (by omega) (w57_wake (by omega) (c_retV ?_))⟩⟩
      · rw [F _ _ (by omega), C.1, cf_nle (by omega) (by omega)] at g; omega
      · rw [F _ _ (by omega)]; exact cf_Rs X (by omega)
      · have ev : hi (rx_ct i + 3) (min 402 (cf_set S)) = nI (cf_st S 402 i) := by
          rw [F _ _ (by unfold rx_ct; omega), ((X.2.2.1 i (by omega)).1 _ (Nat.min_le_right _ _)).1, cf_st_min 402 (by omega)]
        rw [ev, show nI i + 1 = nI (i + 1) from nI_add i 1]
        refine ih (i + 1) (by omega) _ (fun a b z => ?_) (fun c hc => ?_)
        · have : ∀ k, 6 ≤ k → k ≤ 11 → ¬ (a = rx_ct i ∧ b = k) := fun k k1 k2 => by unfold rx_ct; omega
          rw [cf_ru_ne (this _ (by omega) (by omega)), cf_ru_ne (this _ (by omega) (by omega)), cf_ru_ne (this _ (by omega) (by omega)), cf_ru_ne (this _ (by omega) (by omega)), cf_ru_ne (this _ (by omega) (by omega)), cf_ru_ne (this _ (by omega) (by omega))]
          exact F a b z
        · by_cases e : c = i
          · subst e
            refine ⟨?_, ?_, ?_, ?_, ?_, ?_⟩
            · rw [cf_ru_ne (by omega), cf_ru_ne (by omega), cf_ru_ne (by omega), cf_ru_ne (by omega), cf_ru_ne (by omega), cf_ru_eq]
            · rw [cf_ru_ne (by omega), cf_ru_ne (by omega), cf_ru_ne (by omega), cf_ru_ne (by omega), cf_ru_eq]
            · rw [cf_ru_ne (by omega), cf_ru_ne (by omega), cf_ru_ne (by omega), cf_ru_eq]
            · rw [cf_ru_ne (by omega), cf_ru_ne (by omega), cf_ru_eq]
            · rw [cf_ru_ne (by omega), cf_ru_eq]
            · rw [cf_ru_eq]
          · have u : ∀ b, rx_u (rx_u (rx_u (rx_u (rx_u (rx_u hi (rx_ct i) 6 (nI (cf_st S 402 i))) (rx_ct i) 7 0) (rx_ct i) 8 (-1)) (rx_ct i) 9 (-1)) (rx_ct i) 10 0) (rx_ct i) 11 0 (rx_ct c) b = hi (rx_ct c) b := fun b => by
              have : ∀ k, ¬ (rx_ct c = rx_ct i ∧ b = k) := fun k => by unfold rx_ct; omega
              rw [cf_ru_ne (this _), cf_ru_ne (this _), cf_ru_ne (this _), cf_ru_ne (this _), cf_ru_ne (this _), cf_ru_ne (this _)]
            rw [u, u, u, u, u, u]
            exact W1 c (by omega)
  exact w96_dawn (l1 (S 0 2) 0 (by omega) hi0 (fun _ _ _ => rfl) (fun c hc => by omega))
end RXE
