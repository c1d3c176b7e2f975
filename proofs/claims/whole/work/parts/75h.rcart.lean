/-! cart of the reference, and of both. -/
section RXE
variable {L : Nat} {t : List (Nat × Nat)} {hi : Nat → Nat → Int32} {hl : Nat → Nat → Int64} {v : Nat → Nat → Option Nat}
variable {RI : Int32 → (Nat → Nat → Int32) → (Nat → Nat → Int64) → (Nat → Nat → Option Nat) → Prop}
theorem cf_M_ac {S : cf_S} (M : cf_M S hi) {hi2 : Nat → Nat → Int32} {k s : Nat} (u : ∀ a b, ¬ (b = S 0 2 ∧ (a = 93 ∨ a = 94 ∨ a = 96 ∨ a = 99 ∨ a = 100)) → ¬ (b = 402 * S 0 2 ∧ 101 ≤ a ∧ a ≤ 103) → ¬ (a = 90 ∧ b = 6) → hi2 a b = hi a b) (e6 : hi2 90 6 = nI (S 0 2 + 1)) (e93 : hi2 93 (S 0 2) = nI k) (e94 : hi2 94 (S 0 2) = 0) (e96 : hi2 96 (S 0 2) = 0) (e99 : hi2 99 (S 0 2) = 0) (e100 : hi2 100 (S 0 2) = 0) (e101 : hi2 101 (402 * S 0 2) = nI (s % 64)) (e102 : hi2 102 (402 * S 0 2) = nI (s / 64 % 4)) (e103 : hi2 103 (402 * S 0 2) = oI (s / 256)) : cf_M (cf_ac S k s) hi2 := by
  have r : ∀ a b, ¬ (a = 0 ∧ b = 2) → ¬ (b = S 0 2 ∧ 3 ≤ a ∧ a ≤ 9) → cf_ac S k s a b = S a b := fun a b h h2 => cf_ac_r h h2
  obtain ⟨⟨a1, a2, a3, a4, a5, a6, a7⟩, b, d, e, g, h, k0⟩ := M
  unfold cf_M
  rw [r 0 0 (by omega) (by omega), r 0 1 (by omega) (by omega), r 0 3 (by omega) (by omega), cf_ac_2]
  refine ⟨⟨a1, a2, a3, a4, (u _ _ (by omega) (by omega) (by omega)).trans a5, (u _ _ (by omega) (by omega) (by omega)).trans a6, (u _ _ (by omega) (by omega) (by omega)).trans a7⟩, e6, (u _ _ (by omega) (by omega) (by omega)).trans d, fun p hp => ?_, fun p hp => ?_, fun i hi0 => ?_, fun s hs => ?_⟩
  · rw [u _ _ (by omega) (by omega) (by omega), r _ _ (by omega) (by omega)]; exact e p hp
  · rw [u _ _ (by omega) (by omega) (by omega), r _ _ (by omega) (by omega)]; exact g p hp
  · by_cases z : i = S 0 2
    · subst z
      rw [cf_ac_k, cf_ac_s, cf_ac_0 (by omega) (by omega), cf_ac_0 (by omega) (by omega), cf_ac_0 (by omega) (by omega), cf_ac_0 (by omega) (by omega), cf_ac_0 (by omega) (by omega)]
      exact ⟨e93, e94, e96, fun q => by omega, e99, e100, fun j hj => by omega, e101, e102, e103⟩
    · rw [r 3 _ (by omega) (by omega), r 9 _ (by omega) (by omega), r 4 _ (by omega) (by omega), r 5 _ (by omega) (by omega), r 6 _ (by omega) (by omega), r 7 _ (by omega) (by omega), r 8 _ (by omega) (by omega)]
      obtain ⟨f1, f2, f3, f4, f5, f6, f7, f8, f9, f10⟩ := h i (by omega)
      exact ⟨(u _ _ (by omega) (by omega) (by omega)).trans f1, (u _ _ (by omega) (by omega) (by omega)).trans f2, (u _ _ (by omega) (by omega) (by omega)).trans f3, fun q => ⟨(u _ _ (by omega) (by omega) (by omega)).trans (f4 q).1, (u _ _ (by omega) (by omega) (by omega)).trans (f4 q).2⟩, (u _ _ (by omega) (by omega) (by omega)).trans f5, (u _ _ (by omega) (by omega) (by omega)).trans f6, fun j hj => by rw [u _ _ (by omega) (by omega) (by omega), r _ _ (by omega) (by omega)]; exact f7 j hj, (u _ _ (by omega) (by omega) (by omega)).trans f8, (u _ _ (by omega) (by omega) (by omega)).trans f9, (u _ _ (by omega) (by omega) (by omega)).trans f10⟩
  · rw [u _ _ (by omega) (by omega) (by omega), r _ _ (by omega) (by omega)]; exact k0 s hs
theorem c210 {S : cf_S} (Z : cf_RM S hi hl) {a0 a1 a2 a3 : Int32} (kr : cf_caz S (cf_num (S 0 0) (S 0 1) a1 a2) a0 a3 → RI (-2) hi hl v) (kg : ¬ cf_caz S (cf_num (S 0 0) (S 0 1) a1 a2) a0 a3 → ∀ hi2 hl2, (∀ a b, ¬ (93 ≤ a ∧ a ≤ 104) → ¬ (a = 90 ∧ (b = 6 ∨ b = 33 ∨ b = 34)) → ¬ a = 108 → hi2 a b = hi a b) → cf_fwl hl hl2 → cf_RM (cf_ac S a0.toInt.toNat (cf_num (S 0 0) (S 0 1) a1 a2 - 1 + 64 * a3.toInt.toNat)) hi2 hl2 → RI (nI (S 0 2)) hi2 hl2 v) : rx_CI L t 210 [.ref 90, .int a0, .int a1, .int a2, .int a3] hi hl v RI := by
  obtain ⟨V, H, M, K, N⟩ := Z
  have hwh := cf_V_wh V
  have h6 := V.2.2.1
  have h12 := V.2.2.2.1
  have hlt : ∀ q, cf_num (S 0 0) (S 0 1) a1 a2 = q + 1 → q < S 0 0 * S 0 1 := fun q e => cf_num_lt V e
  have h0 : ((0 : Int32)).toInt = 0 := rfl
  have h3 : ((3 : Int32)).toInt = 3 := rfl
  refine w210_cart_r ⟨fun g => c_retI (kr ?_), fun g => ⟨fun g2 => c_retI (kr ?_), fun g2 => c182 M.1 ⟨fun g3 => c_retI (kr (Or.inl ?_)), fun g3 => ?_⟩⟩⟩
  · rw [cf_lt] at g; exact Or.inr (Or.inl (by omega))
  · rw [cf_lt] at g2; exact Or.inr (Or.inl (by omega))
  · have := of_decide_eq_false (cf_B_eq g3)
    unfold cf_num; rw [if_neg this]
  have hs := of_decide_eq_true (cf_B_ne g3)
  rw [cf_lt] at g g2
  obtain ⟨ex, _⟩ := cf_x (x := a1) (by omega)
  obtain ⟨ey, _⟩ := cf_x (x := a2) (by omega)
  have en : cf_num (S 0 0) (S 0 1) a1 a2 = a2.toInt.toNat * S 0 0 + a1.toInt.toNat + 1 := by unfold cf_num; rw [if_pos hs]
  have ix : a2 * hi 90 0 + a1 = nI (a2.toInt.toNat * S 0 0 + a1.toInt.toNat) := by
    rw [M.1.2.2.2.2.1, ← nI_add, ← cf_nmul, ← ex, ← ey]
  generalize cf_num (S 0 0) (S 0 1) a1 a2 = n at *
  generalize a2.toInt.toNat * S 0 0 + a1.toInt.toNat = q at *
  subst en
  have hq := hlt q rfl
  unfold cf_caz at kr kg
  have hq1 : q + 1 - 1 = q := rfl
  rw [hq1] at kr kg
  refine ⟨fun g4 => c_retI (kr ?_), fun g4 => ⟨fun g5 => c_retI (kr ?_), fun g5 => c209 V M ⟨fun g6 => ⟨fun g7 => c_retI (kr ?_), fun g7 => ?_⟩, fun g6 => c_retI (kr ?_)⟩⟩⟩
  · rw [cf_lt] at g4; exact Or.inr (Or.inr (Or.inl (by omega)))
  · rw [cf_lt] at g5; exact Or.inr (Or.inr (Or.inl (by omega)))
  · rw [M.2.1, show (6 : Int32) = nI 6 from rfl, nI_eq (by omega) (by omega)] at g7; exact Or.inr (Or.inr (Or.inr (Or.inl (by omega))))
  · rw [cf_lt] at g4 g5
    rw [M.2.1, show (6 : Int32) = nI 6 from rfl, nI_eq (by omega) (by omega)] at g7
    have b6 := cf_B_eq g6
    have hmx : ¬ 0 < cf_mx (S 4) (S 0 2) := by rw [← cf_mx_any, b6]; decide
    obtain ⟨ek, _⟩ := cf_x (x := a0) (by omega)
    obtain ⟨ed, _⟩ := cf_x (x := a3) (by omega)
    have hk : a0.toInt.toNat < 4 := by omega
    have hd : a3.toInt.toNat < 4 := by omega
    have c1 : (0 ≤ a0.toInt ∧ a0.toInt ≤ 3) := by omega
    have c2 : (0 ≤ a3.toInt ∧ a3.toInt ≤ 3) := by omega
    generalize hkk : a0.toInt.toNat = k at *
    generalize hdd : a3.toInt.toNat = d at *
    subst ek ed
    rw [ix]
    have hsm : (q + 64 * d) % 64 = q := by omega
    have hs2 : (q + 64 * d) % 64 < S 0 0 * S 0 1 := by rw [hsm]; exact hq
    have i1 : (nI k = 1) ↔ k = 1 := by rw [show (1 : Int32) = nI 1 from rfl, nI_eq (by omega) (by omega)]
    have vst := cf_vs_std (k := k) V.1.1 hwh hs2
    have e402 : (402 : Int32) * hi 90 6 = nI (402 * S 0 2) := by rw [M.2.1, show (402 : Int32) = nI 402 from rfl, cf_nmul]
    have n0 : vp_nar .boolean (0 : Int32) = 0 := rfl
    -- the cart is there
    have fin : cf_vs (S 0 0) (S 0 1) (cf_two k) (q + 64 * d) → ¬ (q + 1 = 0 ∨ ¬ (0 ≤ (nI k).toInt ∧ (nI k).toInt ≤ 3) ∨ ¬ (0 ≤ (nI d).toInt ∧ (nI d).toInt ≤ 3) ∨ 6 ≤ S 0 2 ∨ 0 < cf_mx (S 4) (S 0 2) ∨ ¬ cf_vs (S 0 0) (S 0 1) (cf_two k) (q + 64 * d) ∨ ¬ (cf_std (S 0 0) (S 0 1) (cf_two k) (q + 64 * d) &&& (cf_bar S ||| cf_un (cf_sd S 0) (S 0 2))) = 0 ∨ (¬ k = 1 ∧ ¬ (cf_std (S 0 0) (S 0 1) (cf_two k) (q + 64 * d) &&& cf_sq S 0 0) = 0)) → rx_CV L t 191 [.ref 90] (rx_u (rx_u (rx_u (rx_u (rx_u (rx_u (rx_u (rx_u (rx_u hi 93 (S 0 2) (nI k)) 94 (S 0 2) 0) 101 (402 * S 0 2) (nI q)) 102 (402 * S 0 2) (nI d)) 103 (402 * S 0 2) (-1)) 96 (S 0 2) (vp_nar .boolean 0)) 99 (S 0 2) (vp_nar .boolean 0)) 100 (S 0 2) 0) 90 6 ((rx_u (rx_u (rx_u (rx_u (rx_u (rx_u (rx_u (rx_u hi 93 (S 0 2) (nI k)) 94 (S 0 2) 0) 101 (402 * S 0 2) (nI q)) 102 (402 * S 0 2) (nI d)) 103 (402 * S 0 2) (-1)) 96 (S 0 2) (vp_nar .boolean 0)) 99 (S 0 2) (vp_nar .boolean 0)) 100 (S 0 2) 0) 90 6 + 1)) hl v (fun hi24 hl24 v24 => ∃ z : Int32, some (Value.int (hi 90 6)) = some (.int z) ∧ rx_ok2 L t (rx_hp L t hi24 hl24 v24) (RI z)) := by
      intro hv hz
      rw [n0]
      generalize hu : rx_u (rx_u (rx_u (rx_u (rx_u (rx_u (rx_u (rx_u hi 93 (S 0 2) (nI k)) 94 (S 0 2) 0) 101 (402 * S 0 2) (nI q)) 102 (402 * S 0 2) (nI d)) 103 (402 * S 0 2) (-1)) 96 (S 0 2) 0) 99 (S 0 2) 0) 100 (S 0 2) 0 = hx
      have ux : ∀ a b, ¬ (b = S 0 2 ∧ (a = 93 ∨ a = 94 ∨ a = 96 ∨ a = 99 ∨ a = 100)) → ¬ (b = 402 * S 0 2 ∧ 101 ≤ a ∧ a ≤ 103) → hx a b = hi a b := fun a b q1 q2 => by
        rw [← hu]
        rw [cf_ru_ne (by omega), cf_ru_ne (by omega), cf_ru_ne (by omega), cf_ru_ne (by omega), cf_ru_ne (by omega), cf_ru_ne (by omega), cf_ru_ne (by omega), cf_ru_ne (by omega)]
      have e6 : hx 90 6 + 1 = nI (S 0 2 + 1) := by rw [ux _ _ (by omega) (by omega), M.2.1]; exact nI_add _ 1
      rw [e6]
      have V' := cf_V_ac V hk (by omega) hv (by omega)
      have H' : cf_H0 (cf_ac S k (q + 64 * d)) := cf_H0_ac H (by omega)
      have M' : cf_M (cf_ac S k (q + 64 * d)) (rx_u hx 90 6 (nI (S 0 2 + 1))) := by
        refine cf_M_ac M (fun a b q1 q2 q3 => by rw [cf_ru_ne q3]; exact ux a b q1 q2) cf_ru_eq ?_ ?_ ?_ ?_ ?_ ?_ ?_ ?_
        all_goals rw [cf_ru_ne (by omega), ← hu]
        · rw [cf_ru_ne (by omega), cf_ru_ne (by omega), cf_ru_ne (by omega), cf_ru_ne (by omega), cf_ru_ne (by omega), cf_ru_ne (by omega), cf_ru_ne (by omega), cf_ru_eq]
        · rw [cf_ru_ne (by omega), cf_ru_ne (by omega), cf_ru_ne (by omega), cf_ru_ne (by omega), cf_ru_ne (by omega), cf_ru_ne (by omega), cf_ru_eq]
        · rw [cf_ru_ne (by omega), cf_ru_ne (by omega), cf_ru_eq]
        · rw [cf_ru_ne (by omega), cf_ru_eq]
        · rw [cf_ru_eq]
        · rw [cf_ru_ne (by omega), cf_ru_ne (by omega), cf_ru_ne (by omega), cf_ru_ne (by omega), cf_ru_ne (by omega), cf_ru_eq, hsm]
        · rw [cf_ru_ne (by omega), cf_ru_ne (by omega), cf_ru_ne (by omega), cf_ru_ne (by omega), cf_ru_eq, show (q + 64 * d) / 64 % 4 = d by omega]
        · rw [cf_ru_ne (by omega), cf_ru_ne (by omega), cf_ru_ne (by omega), cf_ru_eq, show (q + 64 * d) / 256 = 0 by omega]; rfl
      refine c191w V' H' M' (cf_ck_ext K (by rw [cf_ru_ne (by omega)]; exact ux _ _ (by omega) (by omega)) (by rw [cf_ru_ne (by omega)]; exact ux _ _ (by omega) (by omega))) (fun hi2 hl2 F Fl M2 K2 N2 => c_retIe (kg hz hi2 hl2 (fun a b z1 z2 z3 => ?_) Fl ⟨V', H', M2, K2, N2⟩) M.2.1.symm)
      rw [F a b (by omega) (by omega) z3, cf_ru_ne (by omega)]; exact ux a b (by omega) (by omega)
    refine c179 M.1 hk hq hd ⟨fun g8 => c_retI (kr ?_), fun g8 => c208 V M N (c167 V M ⟨fun g9 => ⟨fun g10 => ⟨S 0 2, M.2.1, by omega, S 0 2, M.2.1, by omega, 402 * S 0 2, e402, by omega, 402 * S 0 2, e402, by omega, 402 * S 0 2, e402, by omega, S 0 2, M.2.1, by omega, S 0 2, M.2.1, by omega, S 0 2, M.2.1, by omega, fin ?_ ?_⟩, fun g10 => c171 (j := 0) (x := 0) M.2.2.1 h12 (cf_RW_NW V N) (by omega) (by omega) ⟨fun g11 => ⟨S 0 2, M.2.1, by omega, S 0 2, M.2.1, by omega, 402 * S 0 2, e402, by omega, 402 * S 0 2, e402, by omega, 402 * S 0 2, e402, by omega, S 0 2, M.2.1, by omega, S 0 2, M.2.1, by omega, S 0 2, M.2.1, by omega, fin ?_ ?_⟩, fun g11 => c_retI (kr ?_)⟩⟩, fun g9 => c_retI (kr ?_)⟩)⟩
    all_goals rw [cf_cmp0] at g8
    · exact Or.inr (Or.inr (Or.inr (Or.inr (Or.inr (Or.inl (fun z => vst.mp z g8))))))
    all_goals rw [cf_cmp0, Int64.or_comm] at g9
    all_goals try rw [i1] at g10
    · exact vst.mpr g8
    · rintro (z | z | z | z | z | z | z | z)
      · omega
      · exact z c1
      · exact z c2
      · omega
      · exact hmx z
      · exact z (vst.mpr g8)
      · exact z g9
      · exact z.1 g10
    · exact vst.mpr g8
    · rw [cf_cmp0] at g11
      rintro (z | z | z | z | z | z | z | z)
      · omega
      · exact z c1
      · exact z c2
      · omega
      · exact hmx z
      · exact z (vst.mpr g8)
      · exact z g9
      · exact z.2 g11
    · rw [cf_cmp0] at g11
      exact Or.inr (Or.inr (Or.inr (Or.inr (Or.inr (Or.inr (Or.inr ⟨g10, g11⟩))))))
    · exact Or.inr (Or.inr (Or.inr (Or.inr (Or.inr (Or.inr (Or.inl g9))))))
  · refine Or.inr (Or.inr (Or.inr (Or.inr (Or.inl ?_))))
    rw [← cf_mx_any]; exact cf_B_ne g6
end RXE
theorem cf_pr_cart {L : Nat} {t : List (Nat × Nat)} (a0 a1 a2 a3 : Int32) : cf_pr L t 54 210 [.int a0, .int a1, .int a2, .int a3] := by
  intro S ls hi hl v R
  obtain ⟨I, A, Z, E⟩ := id R
  have V := I.1
  have hwh := cf_V_wh V
  refine c54 A (fun q => c210 Z.1 (fun _ => ⟨rfl, S, ls, R⟩) (fun q2 => absurd q q2)) (fun q hi2 hl2 F Fl A2 => c210 (cf_rel_Z R (fun a b z => F a b (by omega)) (fun a b z => Fl a b (by omega))) (fun q2 => absurd q2 q) (fun _ hi3 hl3 F3 Fl3 Z3 => ⟨rfl, _, ls, ?_, cf_A_ext A2 (fun a b z1 z2 => F3 a b (by omega) (by omega) (by omega)) (fun a b z1 z2 => Fl3 a b (by omega) (by omega)), ⟨Z3, ?_⟩, cf_E_mono (cf_E_ext E (fun a b z => ?_) (fun _ => rfl) rfl) ?_ ?_ ?_ ?_ ?_⟩))
  · have hlt : ∀ q, cf_num (S 0 0) (S 0 1) a1 a2 = q + 1 → q < S 0 0 * S 0 1 := fun q e => cf_num_lt V e
    generalize cf_num (S 0 0) (S 0 1) a1 a2 = n at *
    unfold cf_caz at q
    have n0 : ¬ n = 0 := fun z => q (Or.inl z)
    have hq := hlt (n - 1) (by omega)
    have c1 : 0 ≤ a0.toInt ∧ a0.toInt ≤ 3 := Classical.byContradiction fun z => q (Or.inr (Or.inl z))
    have c2 : 0 ≤ a3.toInt ∧ a3.toInt ≤ 3 := Classical.byContradiction fun z => q (Or.inr (Or.inr (Or.inl z)))
    have c3 : ¬ 6 ≤ S 0 2 := fun z => q (Or.inr (Or.inr (Or.inr (Or.inl z))))
    have c4 : ¬ 0 < cf_mx (S 4) (S 0 2) := fun z => q (Or.inr (Or.inr (Or.inr (Or.inr (Or.inl z)))))
    have c5 := Classical.byContradiction fun z => q (Or.inr (Or.inr (Or.inr (Or.inr (Or.inr (Or.inl z))))))
    have c6 := Classical.byContradiction fun z => q (Or.inr (Or.inr (Or.inr (Or.inr (Or.inr (Or.inr (Or.inl z)))))))
    refine cf_Ir_ac I (by omega) (by omega) c5 (by omega) (by omega) c6 ?_
    apply Classical.byContradiction
    intro z
    exact q (Or.inr (Or.inr (Or.inr (Or.inr (Or.inr (Or.inr (Or.inr ⟨fun w => z (Or.inl w), fun w => z (Or.inr w)⟩)))))))
  · rw [F3 _ _ (by omega) (by omega) (by omega), F _ _ (by omega)]; exact Z.2
  · unfold cf_er at z
    rw [F3 _ _ (by omega) (by omega) (by omega), F _ _ (by omega)]
  · exact cf_ac_r (by omega) (by omega)
  · exact cf_ac_r (by omega) (by omega)
  · rw [cf_ac_2]; omega
  · rw [cf_ac_r (by omega) (by omega)]; exact Nat.le_refl _
  · funext b; exact cf_ac_r (by omega) (by omega)
