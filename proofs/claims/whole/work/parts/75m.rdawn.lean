/-! dawn of the reference, and of both. -/
section RXE
variable {L : Nat} {t : List (Nat × Nat)} {v : Nat → Nat → Option Nat}
variable {RI : Int32 → (Nat → Nat → Int32) → (Nat → Nat → Int64) → (Nat → Nat → Option Nat) → Prop}
def cf_dwW (S : cf_S) (hi : Nat → Nat → Int32) (c : Nat) : Prop := hi 101 (402 * c) = nI (cf_st S 402 c % 64) ∧ hi 102 (402 * c) = nI (cf_st S 402 c / 64 % 4) ∧ hi 103 (402 * c) = oI (cf_st S 402 c / 256) ∧ hi 94 c = 0 ∧ hi 96 c = 0 ∧ hi 99 c = 0 ∧ hi 100 c = 0
theorem cf_M_dw {S : cf_S} {hi hi2 : Nat → Nat → Int32} (M : cf_M S hi) (F : ∀ a b, ¬ (101 ≤ a ∧ a ≤ 103) → ¬ (a = 94 ∨ a = 96 ∨ a = 99 ∨ a = 100) → ¬ a = 107 → ¬ (a = 90 ∧ b = 48) → hi2 a b = hi a b) (W1 : ∀ c, c < S 0 2 → cf_dwW S hi2 c) (W2 : ∀ s, s < S 0 3 → hi2 107 s = nI (cf_sp S 402 s)) : cf_M (cf_dw S) hi2 := by
  have r : ∀ a b, ¬ a = 9 → ¬ a = 12 → ¬ (4 ≤ a ∧ a ≤ 8) → cf_dw S a b = S a b := fun a b h h2 h3 => cf_dw_r h h2 h3
  obtain ⟨⟨a1, a2, a3, a4, a5, a6, a7⟩, b, d, e, g, h, k⟩ := M
  unfold cf_M
  rw [r 0 0 (by omega) (by omega) (by omega), r 0 1 (by omega) (by omega) (by omega), r 0 2 (by omega) (by omega) (by omega), r 0 3 (by omega) (by omega) (by omega)]
  have u : ∀ a b, ¬ (101 ≤ a ∧ a ≤ 103) → ¬ (a = 94 ∨ a = 96 ∨ a = 99 ∨ a = 100) → ¬ a = 107 → ¬ (a = 90 ∧ b = 48) → hi2 a b = hi a b := F
  refine ⟨⟨a1, a2, a3, a4, (u _ _ (by omega) (by omega) (by omega) (by omega)).trans a5, (u _ _ (by omega) (by omega) (by omega) (by omega)).trans a6, (u _ _ (by omega) (by omega) (by omega) (by omega)).trans a7⟩, (u _ _ (by omega) (by omega) (by omega) (by omega)).trans b, (u _ _ (by omega) (by omega) (by omega) (by omega)).trans d, fun p hp => ?_, fun p hp => ?_, fun i hi0 => ?_, fun s hs => ?_⟩
  · rw [u _ _ (by omega) (by omega) (by omega) (by omega), r _ _ (by omega) (by omega) (by omega)]; exact e p hp
  · rw [u _ _ (by omega) (by omega) (by omega) (by omega), r _ _ (by omega) (by omega) (by omega)]; exact g p hp
  · obtain ⟨w1, w2, w3, w4, w5, w6, w7⟩ := W1 i hi0
    rw [r 3 i (by omega) (by omega) (by omega), cf_dw_9, cf_dw_0 (by omega) (by omega), cf_dw_0 (by omega) (by omega), cf_dw_0 (by omega) (by omega), cf_dw_0 (by omega) (by omega), cf_dw_0 (by omega) (by omega)]
    exact ⟨(u _ _ (by omega) (by omega) (by omega) (by omega)).trans (h i hi0).1, w4, w5, fun q => by omega, w6, w7, fun j hj => by omega, w1, w2, w3⟩
  · rw [cf_dw_12]; exact W2 s hs
theorem c203 {S : cf_S} {ls : Nat} (I : cf_Ir ls S) {hi0 : Nat → Nat → Int32} {hl : Nat → Nat → Int64} (Z : cf_RM S hi0 hl) (kg : ∀ hi2 hl2, (∀ a b, ¬ (94 ≤ a ∧ a ≤ 108) → ¬ (a = 90 ∧ (b = 5 ∨ b = 33 ∨ b = 34 ∨ b = 48)) → hi2 a b = hi0 a b) → hi2 90 5 = hi0 90 5 + 1 → hi2 90 48 = 0 → cf_fwl hl hl2 → cf_RM (cf_dw S) hi2 hl2 → RI (hi0 90 5 + 1) hi2 hl2 v) : rx_CI L t 203 [.ref 90] hi0 hl v RI := by
  obtain ⟨V, H, M, K, N⟩ := Z
  have h6 := V.2.2.1
  have h12 := V.2.2.2.1
  have n0 : vp_nar .boolean (0 : Int32) = 0 := rfl
  have i401 : ∀ i, ((402 : Int32) * nI i + 402) - 1 = nI (402 * i + 401) := fun i => by
    rw [show (402 : Int32) = nI 402 from rfl, cf_nmul, nI_add, show (1 : Int32) = nI 1 from rfl, cf_nsub (by omega)]; rfl
  have i0 : ∀ i, (402 : Int32) * nI i = nI (402 * i) := fun i => by rw [show (402 : Int32) = nI 402 from rfl, cf_nmul]
  -- the SHELVES
  have l2 : ∀ d i, i + d = S 0 3 → ∀ hi : Nat → Nat → Int32, (∀ a b, ¬ (101 ≤ a ∧ a ≤ 103) → ¬ (a = 94 ∨ a = 96 ∨ a = 99 ∨ a = 100) → ¬ a = 107 → ¬ (a = 90 ∧ b = 48) → hi a b = hi0 a b) → hi 90 48 = 0 → (∀ c, c < S 0 2 → cf_dwW S hi c) → (∀ s, s < i → hi 107 s = nI (cf_sp S 402 s)) → rx_aw 203 111 [.ref 90, .int (nI i), rx_no] [] (rx_hp L t hi hl v) (fun r h2 => ∃ z : Int32, r = some (.int z) ∧ rx_ok2 L t h2 (RI z)) := by
    intro d
    induction d with
    | zero =>
      intro i hid hi F e48 W1 W2
      have : i = S 0 3 := by omega
      subst this
      refine w203_dawn_r_111 ⟨fun g => ?_, fun g => absurd ?_ g⟩
      · refine c191w (cf_V_dw V) (cf_H0_dw I) (cf_M_dw M F W1 W2) (cf_ck_ext K (F _ _ (by omega) (by omega) (by omega) (by omega)) (F _ _ (by omega) (by omega) (by omega) (by omega))) (fun hi2 hl2 F2 Fl2 M2 K2 N2 => ?_)
        rw [cf_ru_eq]
        have e5 : hi2 90 5 = hi0 90 5 := by rw [F2 _ _ (by omega) (by omega) (by omega), F _ _ (by omega) (by omega) (by omega) (by omega)]
        refine c_retIe (kg _ hl2 (fun a b z1 z2 => ?_) ?_ ?_ Fl2 (cf_RM_ext (hi := hi2) ⟨cf_V_dw V, cf_H0_dw I, M2, K2, N2⟩ (fun b q => cf_ru_ne (by unfold cf_rf at q; omega)) (fun a b z1 z2 => cf_ru_ne (by omega)) (fun _ _ _ _ => rfl))) ?_
        · rw [cf_ru_ne (by omega), F2 _ _ (by omega) (by omega) (by omega), F _ _ (by omega) (by omega) (by omega) (by omega)]
        · rw [cf_ru_eq, e5]
        · rw [cf_ru_ne (by omega), F2 _ _ (by omega) (by omega) (by omega)]; exact e48
        · rw [e5]
      · rw [F _ _ (by omega) (by omega) (by omega) (by omega), M.2.2.1, cf_nle (by omega) (by omega)]; omega
    | succ d ih =>
      intro i hid hi F e48 W1 W2
      refine w203_dawn_r_111 ⟨fun g => ?_, fun g => ⟨402 * i + 401, i401 i, by omega, i, rfl, by omega, ?_⟩⟩
      · rw [F _ _ (by omega) (by omega) (by omega) (by omega), M.2.2.1, cf_nle (by omega) (by omega)] at g; omega
      · have ev : hi 108 (402 * i + 401) = nI (cf_sp S 402 i) := by
          rw [F _ _ (by omega) (by omega) (by omega) (by omega), N.2 i (by omega) 401 (by omega), ← cf_sp_401 V i 402]; rfl
        rw [ev, show nI i + 1 = nI (i + 1) from nI_add i 1]
        refine ih (i + 1) (by omega) _ (fun a b z1 z2 z3 z4 => ?_) ?_ (fun c hc => ?_) (fun s hs => ?_)
        · rw [cf_ru_ne (by omega)]; exact F a b z1 z2 z3 z4
        · rw [cf_ru_ne (by omega)]; exact e48
        · unfold cf_dwW
          rw [cf_ru_ne (by omega), cf_ru_ne (by omega), cf_ru_ne (by omega), cf_ru_ne (by omega), cf_ru_ne (by omega), cf_ru_ne (by omega), cf_ru_ne (by omega)]
          exact W1 c hc
        · by_cases e : s = i
          · subst e; exact cf_ru_eq
          · rw [cf_ru_ne (by omega)]; exact W2 s (by omega)
  -- the carts
  have l1 : ∀ d i, i + d = S 0 2 → ∀ hi : Nat → Nat → Int32, (∀ a b, ¬ (101 ≤ a ∧ a ≤ 103 ∧ b % 402 = 0) → ¬ (a = 94 ∨ a = 96 ∨ a = 99 ∨ a = 100) → ¬ (a = 90 ∧ b = 48) → hi a b = hi0 a b) → hi 90 48 = 0 → (∀ c, c < i → cf_dwW S hi c) → rx_aw 203 7 [.ref 90, .int (nI i), rx_no] [] (rx_hp L t hi hl v) (fun r h2 => ∃ z : Int32, r = some (.int z) ∧ rx_ok2 L t h2 (RI z)) := by
    intro d
    induction d with
    | zero =>
      intro i hid hi F e48 W1
      refine w203_dawn_r_7 ⟨fun g => l2 (S 0 3) 0 (by omega) hi (fun a b z1 z2 _ z4 => F a b (by omega) z2 z4) e48 (fun c hc => W1 c (by omega)) (fun s hs => by omega), fun g => absurd ?_ g⟩
      rw [F _ _ (by omega) (by omega) (by omega), M.2.1, cf_nle (by omega) (by omega)]; omega
    | succ d ih =>
      intro i hid hi F e48 W1
      have hi6 : i < 6 := by omega
      refine w203_dawn_r_7 ⟨fun g => ?_, fun g => ⟨402 * i + 401, i401 i, by omega, 402 * i, i0 i, by omega, 402 * i + 401, i401 i, by omega, 402 * i, i0 i, by omega, 402 * i + 401, i401 i, by omega, 402 * i, i0 i, by omega, i, rfl, hi6, i, rfl, hi6, i, rfl, hi6, i, rfl, hi6, ?_⟩⟩
      · rw [F _ _ (by omega) (by omega) (by omega), M.2.1, cf_nle (by omega) (by omega)] at g; omega
      · obtain ⟨g1, g2, g3, _⟩ := (N.1 i (by omega)).1 401 (by omega)
        rw [show cf_st S 401 i = cf_st S 402 i from cf_st_401 V (by omega) 402] at g1 g2 g3
        rw [n0, show nI i + 1 = nI (i + 1) from nI_add i 1]
        have f1 : hi 101 (402 * i + 401) = nI (cf_st S 402 i % 64) := by rw [F _ _ (by omega) (by omega) (by omega)]; exact g1
        have f2 : (rx_u hi 101 (402 * i) (hi 101 (402 * i + 401))) 102 (402 * i + 401) = nI (cf_st S 402 i / 64 % 4) := by rw [cf_ru_ne (by omega), F _ _ (by omega) (by omega) (by omega)]; exact g2
        rw [f2]
        have f3 : (rx_u (rx_u hi 101 (402 * i) (hi 101 (402 * i + 401))) 102 (402 * i) (nI (cf_st S 402 i / 64 % 4))) 103 (402 * i + 401) = oI (cf_st S 402 i / 256) := by rw [cf_ru_ne (by omega), cf_ru_ne (by omega), F _ _ (by omega) (by omega) (by omega)]; exact g3
        rw [f3, f1]
        generalize hu : rx_u (rx_u (rx_u (rx_u (rx_u (rx_u (rx_u hi 101 (402 * i) (nI (cf_st S 402 i % 64))) 102 (402 * i) (nI (cf_st S 402 i / 64 % 4))) 103 (402 * i) (oI (cf_st S 402 i / 256))) 94 i 0) 96 i 0) 99 i 0) 100 i 0 = hx
        have ux : ∀ a b, ¬ (101 ≤ a ∧ a ≤ 103 ∧ b = 402 * i) → ¬ ((a = 94 ∨ a = 96 ∨ a = 99 ∨ a = 100) ∧ b = i) → hx a b = hi a b := fun a b z1 z2 => by
          rw [← hu]
          rw [cf_ru_ne (by omega), cf_ru_ne (by omega), cf_ru_ne (by omega), cf_ru_ne (by omega), cf_ru_ne (by omega), cf_ru_ne (by omega), cf_ru_ne (by omega)]
        refine ih (i + 1) (by omega) hx (fun a b z1 z2 z3 => ?_) ?_ (fun c hc => ?_)
        · rw [ux a b (by omega) (by omega)]; exact F a b z1 z2 z3
        · rw [ux _ _ (by omega) (by omega)]; exact e48
        · unfold cf_dwW
          by_cases e : c = i
          · subst e
            rw [← hu]
            refine ⟨?_, ?_, ?_, ?_, ?_, ?_, ?_⟩
            · rw [cf_ru_ne (by omega), cf_ru_ne (by omega), cf_ru_ne (by omega), cf_ru_ne (by omega), cf_ru_ne (by omega), cf_ru_ne (by omega), cf_ru_eq]
            · rw [cf_ru_ne (by omega), cf_ru_ne (by omega), cf_ru_ne (by omega), cf_ru_ne (by omega), cf_ru_ne (by omega), cf_ru_eq]
            · rw [cf_ru_ne (by omega), cf_ru_ne (by omega), cf_ru_ne (by omega), cf_ru_ne (by omega), cf_ru_eq]
            · rw [cf_ru_ne (by omega), cf_ru_ne (by omega), cf_ru_ne (by omega), cf_ru_eq]
            · rw [cf_ru_ne (by omega), cf_ru_ne (by omega), cf_ru_eq]
            · rw [cf_ru_ne (by omega), cf_ru_eq]
            · rw [cf_ru_eq]
          · rw [ux _ _ (by omega) (by omega), ux _ _ (by omega) (by omega), ux _ _ (by omega) (by omega), ux _ _ (by omega) (by omega), ux _ _ (by omega) (by omega), ux _ _ (by omega) (by omega), ux _ _ (by omega) (by omega)]
            exact W1 c (by omega)
  exact w203_dawn_r (l1 (S 0 2) 0 (by omega) _ (fun a b _ _ z => cf_ru_ne z) cf_ru_eq (fun c hc => by omega))
end RXE
theorem cf_pr_dawn {L : Nat} {t : List (Nat × Nat)} : cf_pr L t 96 203 [] := by
  intro S ls hi hl v R
  obtain ⟨I, A, Z, E⟩ := id R
  refine c96 A (fun hi2 hl2 F e8 Fl A2 => c203 I (cf_rel_Z R (fun a b z => F a b (by omega) (by omega)) (fun a b z => Fl a b (by omega))) (fun hi3 hl3 F3 e5 e48 Fl3 Z3 => ⟨?_, cf_dw S, 0, cf_Ir_dw I, cf_A_ext A2 (fun a b z1 z2 => F3 a b (by omega) (by omega)) (fun a b z1 z2 => Fl3 a b (by omega) (by omega)), ⟨Z3, e48⟩, ?_⟩))
  · rw [F 90 5 (by omega) (by omega), E.1]
  · have G : ∀ a b, cf_er a b → ¬ (a = 1 ∧ b = 8) → ¬ (a = 90 ∧ b = 5) → hi3 a b = hi a b := fun a b z z1 z2 => by
      unfold cf_er at z
      rw [F3 a b (by omega) (by omega), F a b (by omega) z1]
    unfold cf_er at G
    obtain ⟨E1, E2, E3, E4, E5, E6⟩ := E
    refine cf_E_S (S := S) ⟨?_, ?_, ?_, ?_, ?_, E6⟩ (funext fun b => cf_dw_r (by omega) (by omega) (by omega)) (funext fun b => cf_dw_r (by omega) (by omega) (by omega))
    · rw [e5, F3 1 8 (by omega) (by omega), e8, F 90 5 (by omega) (by omega), E1]
    · refine cf_Et_ext E2 ?_ ?_ ?_ ?_ <;> (try intro b) <;> exact G _ _ (by omega) (by omega) (by omega)
    · refine cf_Eh_ext E3 ?_ ?_ ?_ ?_ <;> intro b <;> exact G _ _ (by omega) (by omega) (by omega)
    · refine cf_Em_ext E4 ?_ ?_ <;> intro b <;> exact G _ _ (by omega) (by omega) (by omega)
    · refine cf_El_ext E5 ?_ ?_ ?_ ?_ ?_ (fun _ => rfl) <;> (try intro b) <;> exact G _ _ (by omega) (by omega) (by omega)
