/-! cart: the class, the reference, both. -/
section RXE
variable {L : Nat} {t : List (Nat × Nat)} {hi : Nat → Nat → Int32} {hl : Nat → Nat → Int64} {v : Nat → Nat → Option Nat}
variable {RI : Int32 → (Nat → Nat → Int32) → (Nat → Nat → Int64) → (Nat → Nat → Option Nat) → Prop}
theorem cf_X_ac {S : cf_S} (X : cf_X S hi hl) {hi2 : Nat → Nat → Int32} {k s : Nat} (V' : cf_V (cf_ac S k s)) (h6 : S 0 2 < 6) (u : ∀ a b, ¬ (a = rx_ct (S 0 2) ∧ 5 ≤ b ∧ b ≤ 11) → ¬ (a = 13 ∧ b = 3) → hi2 a b = hi a b) (e13 : hi2 13 3 = nI (S 0 2 + 1)) (e5 : hi2 (rx_ct (S 0 2)) 5 = nI k) (e6 : hi2 (rx_ct (S 0 2)) 6 = nI s) (e7 : hi2 (rx_ct (S 0 2)) 7 = 0) (e8 : hi2 (rx_ct (S 0 2)) 8 = -1) (e9 : hi2 (rx_ct (S 0 2)) 9 = -1) (e10 : hi2 (rx_ct (S 0 2)) 10 = 0) (e11 : hi2 (rx_ct (S 0 2)) 11 = 0) : cf_X (cf_ac S k s) hi2 hl := by
  have r : ∀ a b, ¬ (a = 0 ∧ b = 2) → ¬ (b = S 0 2 ∧ 3 ≤ a ∧ a ≤ 9) → cf_ac S k s a b = S a b := fun a b h h2 => cf_ac_r h h2
  obtain ⟨V, K1, K2, K3, C, G1, G2, B⟩ := X
  unfold cf_X
  rw [r 0 0 (by omega) (by omega), r 0 1 (by omega) (by omega)]
  refine ⟨V', ?_, cf_K2_eq K2 (fun b => u _ _ (by unfold rx_ct; omega) (by omega)) (fun _ => rfl) (fun _ => rfl), K3, ⟨?_, ?_, fun c hc => ?_, fun s hs => ?_⟩, fun p hp => ?_, fun p hp => ?_, ?_⟩
  · obtain ⟨b1, b2, b3, b4, b5, b6⟩ := K1
    exact ⟨b1, b2, b3, b4, (u _ _ (by unfold rx_ct; omega) (by omega)).trans b5, (u _ _ (by unfold rx_ct; omega) (by omega)).trans b6⟩
  · rw [cf_ac_2]; exact e13
  · rw [u _ _ (by unfold rx_ct; omega) (by omega), r 0 3 (by omega) (by omega)]; exact C.2.1
  · rw [cf_ac_2] at hc
    by_cases z : c = S 0 2
    · subst z
      rw [cf_ac_k, cf_ac_s, cf_ac_0 (by omega) (by omega), cf_ac_0 (by omega) (by omega), cf_ac_0 (by omega) (by omega), cf_ac_0 (by omega) (by omega), cf_ac_0 (by omega) (by omega)]
      exact ⟨e5, e6, e7, e8, e9, e10, e11, fun t ht => by omega⟩
    · have f : ∀ b, hi2 (rx_ct c) b = hi (rx_ct c) b := fun b => u _ _ (by unfold rx_ct; omega) (by unfold rx_ct; omega)
      have f2 : ∀ b, hi2 (rx_ct c + 1) b = hi (rx_ct c + 1) b := fun b => u _ _ (by unfold rx_ct; omega) (by unfold rx_ct; omega)
      simp only [f, f2]
      rw [r 3 _ (by omega) (by omega), r 9 _ (by omega) (by omega), r 4 _ (by omega) (by omega), r 5 _ (by omega) (by omega), r 6 _ (by omega) (by omega), r 7 _ (by omega) (by omega), r 8 _ (by omega) (by omega)]
      obtain ⟨d1, d2, d3, d4, d5, d6, d7, d8⟩ := C.2.2.1 c (by omega)
      exact ⟨d1, d2, d3, d4, d5, d6, d7, fun j hj => by rw [r _ _ (by omega) (by omega)]; exact d8 j hj⟩
  · rw [r _ _ (by omega) (by omega)] at hs
    have := V.2.2.2.1
    rw [u _ _ (by unfold rx_ct rx_sf; omega) (by unfold rx_sf; omega), r _ _ (by omega) (by omega)]; exact C.2.2.2 s hs
  · rw [u _ _ (by unfold rx_ct; omega) (by omega), r _ _ (by omega) (by omega)]; exact G1 p hp
  · rw [u _ _ (by unfold rx_ct; omega) (by omega), r _ _ (by omega) (by omega)]; exact G2 p hp
  · rw [B]; exact (cf_bar_eq (r 0 0 (by omega) (by omega)) (r 0 1 (by omega) (by omega)) (funext fun b => r 1 b (by omega) (by omega)) (funext fun b => r 2 b (by omega) (by omega))).symm
theorem c56 {S : cf_S} {ls : Nat} (A : cf_A S ls hi hl) {k s : Nat} (V' : cf_V (cf_ac S k s)) (h6 : S 0 2 < 6) (kg : ∀ hi2 hl2, (∀ a b, (a < 13 ∨ 76 ≤ a) → hi2 a b = hi a b) → (∀ a b, 76 ≤ a → hl2 a b = hl a b) → cf_A (cf_ac S k s) ls hi2 hl2 → RI (nI (S 0 2)) hi2 hl2 v) : rx_CI L t 56 [.ref 13, .int (nI k), .int (nI s)] hi hl v RI := by
  have C := A.1.1.2.2.2.2.1
  refine w56_addCart ⟨S 0 2, C.1, h6, w57_wake h6 (c_retV ?_)⟩
  generalize hu : rx_u (rx_u (rx_u (rx_u (rx_u (rx_u (rx_u hi (rx_ct (S 0 2)) 5 (nI k)) (rx_ct (S 0 2)) 6 (nI s)) (rx_ct (S 0 2)) 7 0) (rx_ct (S 0 2)) 8 (-1)) (rx_ct (S 0 2)) 9 (-1)) (rx_ct (S 0 2)) 10 0) (rx_ct (S 0 2)) 11 0 = hx
  have ux : ∀ a b, ¬ (a = rx_ct (S 0 2) ∧ 5 ≤ b ∧ b ≤ 11) → hx a b = hi a b := fun a b q => by
    rw [← hu]
    rw [cf_ru_ne (by omega), cf_ru_ne (by omega), cf_ru_ne (by omega), cf_ru_ne (by omega), cf_ru_ne (by omega), cf_ru_ne (by omega), cf_ru_ne (by omega)]
  have e13 : hx 13 3 + 1 = nI (S 0 2 + 1) := by rw [ux _ _ (by unfold rx_ct; omega), C.1]; exact nI_add _ 1
  rw [e13]
  have n13 : ∀ a b, ¬ (a = 13 ∧ b = 3) → rx_u hx 13 3 (nI (S 0 2 + 1)) a b = hx a b := fun a b q => cf_ru_ne q
  have X' : cf_X (cf_ac S k s) (rx_u hx 13 3 (nI (S 0 2 + 1))) hl := by
    refine cf_X_ac A.1.1 V' h6 (fun a b q1 q2 => (n13 a b q2).trans (ux a b q1)) cf_ru_eq ?_ ?_ ?_ ?_ ?_ ?_ ?_
    all_goals rw [n13 _ _ (by unfold rx_ct; omega), ← hu]
    · rw [cf_ru_ne (by omega), cf_ru_ne (by omega), cf_ru_ne (by omega), cf_ru_ne (by omega), cf_ru_ne (by omega), cf_ru_ne (by omega), cf_ru_eq]
    · rw [cf_ru_ne (by omega), cf_ru_ne (by omega), cf_ru_ne (by omega), cf_ru_ne (by omega), cf_ru_ne (by omega), cf_ru_eq]
    · rw [cf_ru_ne (by omega), cf_ru_ne (by omega), cf_ru_ne (by omega), cf_ru_ne (by omega), cf_ru_eq]
    · rw [cf_ru_ne (by omega), cf_ru_ne (by omega), cf_ru_ne (by omega), cf_ru_eq]
    · rw [cf_ru_ne (by omega), cf_ru_ne (by omega), cf_ru_eq]
    · rw [cf_ru_ne (by omega), cf_ru_eq]
    · rw [cf_ru_eq]
  refine c41 X' (fun hi2 hl2 F Rr => ?_)
  have X2 : cf_X (cf_ac S k s) hi2 hl2 := cf_X_fr X' F
  have f0 : ∀ a b, (a < 13 ∨ 76 ≤ a) → hi2 a b = hi a b := fun a b z => by
    rw [F.1 a b (by unfold cf_rw; omega), cf_ru_ne (by omega), ux _ _ (by unfold rx_ct; omega)]
  have k2 := kg hi2 hl2 f0 (fun a b z => F.2 a b (by unfold cf_rwl; omega)) ⟨⟨X2, Rr⟩, cf_bts_fC (fun c hc j hj => ?_) (cf_fr_fC F), ?_⟩
  · refine c_retIe k2 ?_
    rw [X2.2.2.2.2.1.1, cf_ac_2, show (1 : Int32) = nI 1 from rfl, cf_nsub (by omega)]; rfl
  · rw [n13 _ _ (by unfold rx_ct; omega), n13 _ _ (by unfold rx_ct; omega), ux _ _ (by unfold rx_ct; omega), ux _ _ (by unfold rx_ct; omega)]
    exact A.2.1 c hc j hj
  · rw [f0 76 3 (by omega)]; exact A.2.2
theorem c54 {S : cf_S} {ls : Nat} (A : cf_A S ls hi hl) {a0 a1 a2 a3 : Int32} (kr : cf_caz S (cf_num (S 0 0) (S 0 1) a1 a2) a0 a3 → RI (-2) hi hl v) (kg : ¬ cf_caz S (cf_num (S 0 0) (S 0 1) a1 a2) a0 a3 → ∀ hi2 hl2, (∀ a b, (a < 13 ∨ 76 ≤ a) → hi2 a b = hi a b) → (∀ a b, 76 ≤ a → hl2 a b = hl a b) → cf_A (cf_ac S a0.toInt.toNat (cf_num (S 0 0) (S 0 1) a1 a2 - 1 + 64 * a3.toInt.toNat)) ls hi2 hl2 → RI (nI (S 0 2)) hi2 hl2 v) : rx_CI L t 54 [.ref 1, .int a0, .int a1, .int a2, .int a3] hi hl v RI := by
  have X := A.1
  have V := X.1.1
  have K1 := X.1.2.1
  have C := X.1.2.2.2.2.1
  have hb := X.1.2.2.2.2.2.2.2
  have hwh := cf_V_wh V
  have h6 := V.2.2.1
  have hn := cf_num_le V (a0 := a1) (a1 := a2)
  have hlt : ∀ q, cf_num (S 0 0) (S 0 1) a1 a2 = q + 1 → q < S 0 0 * S 0 1 := fun q e => cf_num_lt V e
  have h0 : ((0 : Int32)).toInt = 0 := rfl
  have h1 : ((1 : Int32)).toInt = 1 := rfl
  have h2 : ((2 : Int32)).toInt = 2 := rfl
  have h3 : ((3 : Int32)).toInt = 3 := rfl
  refine w54_cart (c26 K1 ?_)
  generalize cf_num (S 0 0) (S 0 1) a1 a2 = n at *
  unfold cf_caz at kr kg
  refine ⟨fun g => c_retI (kr ?_), fun g => ⟨fun g2 => c_retI (kr ?_), fun g2 => ⟨fun g3 => c_retI (kr ?_), fun g3 => ⟨fun g4 => c_retI (kr ?_), fun g4 => ⟨fun g5 => ⟨fun g6 => c_retI (kr ?_), fun g6 => c35 V C ⟨fun g7 => ?_, fun g7 => c_retI (kr (Or.inr (Or.inr (Or.inr (Or.inr (Or.inl (of_decide_eq_true (cf_B_ne g7))))))))⟩⟩, fun g5 => c_retI (kr ?_)⟩⟩⟩⟩⟩
  · rw [cf_lt] at g; exact Or.inr (Or.inl (by omega))
  · rw [cf_lt] at g2; exact Or.inr (Or.inl (by omega))
  · rw [cf_oneg (by omega)] at g3; exact Or.inl g3
  · rw [cf_lt] at g4; exact Or.inr (Or.inr (Or.inl (by omega)))
  · rw [C.1, show (6 : Int32) = nI 6 from rfl, cf_nle (by omega) (by omega)] at g6; exact Or.inr (Or.inr (Or.inr (Or.inl g6)))
  · rw [cf_lt] at g g2 g4
    rw [cf_le'] at g5
    rw [cf_oneg (by omega)] at g3
    rw [C.1, show (6 : Int32) = nI 6 from rfl, cf_nle (by omega) (by omega)] at g6
    have hmx := of_decide_eq_false (cf_B_eq g7)
    have en : n = n - 1 + 1 := by omega
    have hq := hlt (n - 1) en
    generalize n - 1 = q at *
    subst en
    obtain ⟨ek, _⟩ := cf_x (x := a0) (by omega)
    obtain ⟨ed, _⟩ := cf_x (x := a3) (by omega)
    have hk : a0.toInt.toNat < 4 := by omega
    have hd : a3.toInt.toNat < 4 := by omega
    have c1 : (0 ≤ a0.toInt ∧ a0.toInt ≤ 3) := by omega
    have c2 : (0 ≤ a3.toInt ∧ a3.toInt ≤ 3) := by omega
    generalize hkk : a0.toInt.toNat = k at *
    generalize hdd : a3.toInt.toNat = d at *
    subst ek ed
    rw [cf_oS]
    have hsm : (q + 64 * d) % 64 = q := by omega
    have hs2 : (q + 64 * d) % 64 < S 0 0 * S 0 1 := by rw [hsm]; exact hq
    refine c55 (l := 0) (by omega) hd (by omega) ?_
    rw [show q + 64 * d + 256 * 0 = q + 64 * d from rfl]
    have i2 : (nI k < 2) ↔ k < 2 := by rw [show (2 : Int32) = nI 2 from rfl, cf_lt, nI_toInt (by omega), nI_toInt (by omega)]; omega
    have i1 : (nI k = 1) ↔ k = 1 := by rw [show (1 : Int32) = nI 1 from rfl, nI_eq (by omega) (by omega)]
    -- the tests behind the one of two squares
    have tail : cf_vs (S 0 0) (S 0 1) (cf_two k) (q + 64 * d) → rx_CL L t 39 [.ref 13] hi hl v (fun z13 hi13 hl13 v13 => (nI k = 1 → (lg_cmp (cf_std (S 0 0) (S 0 1) (cf_two k) (q + 64 * d) &&& (hl13 7 10 ||| (z13 ||| (0 : Int64)))) (0 : Int64) = 0 → rx_CI L t 56 [.ref 13, .int (nI k), .int (nI (q + 64 * d))] hi13 hl13 v13 (fun z16 hi16 hl16 v16 => ∃ z : Int32, some (Value.int z16) = some (.int z) ∧ rx_ok2 L t (rx_hp L t hi16 hl16 v16) (RI z))) ∧ (¬ lg_cmp (cf_std (S 0 0) (S 0 1) (cf_two k) (q + 64 * d) &&& (hl13 7 10 ||| (z13 ||| (0 : Int64)))) (0 : Int64) = 0 → ∃ z : Int32, some (Value.int (-2)) = some (.int z) ∧ rx_ok2 L t (rx_hp L t hi13 hl13 v13) (RI z))) ∧ (¬ nI k = 1 → rx_CL L t 37 [.ref 13, .int 0, .int (-1)] hi13 hl13 v13 (fun z17 hi17 hl17 v17 => (lg_cmp (cf_std (S 0 0) (S 0 1) (cf_two k) (q + 64 * d) &&& (hl17 7 10 ||| (z13 ||| z17))) (0 : Int64) = 0 → rx_CI L t 56 [.ref 13, .int (nI k), .int (nI (q + 64 * d))] hi17 hl17 v17 (fun z19 hi19 hl19 v19 => ∃ z : Int32, some (Value.int z19) = some (.int z) ∧ rx_ok2 L t (rx_hp L t hi19 hl19 v19) (RI z))) ∧ (¬ lg_cmp (cf_std (S 0 0) (S 0 1) (cf_two k) (q + 64 * d) &&& (hl17 7 10 ||| (z13 ||| z17))) (0 : Int64) = 0 → ∃ z : Int32, some (Value.int (-2)) = some (.int z) ∧ rx_ok2 L t (rx_hp L t hi17 hl17 v17) (RI z))))) := by
      intro hv
      have V' := cf_V_ac V hk (by omega) hv (by omega)
      refine c39 X ⟨fun gk => ⟨fun gz => c56 A V' (by omega) (fun hi2 hl2 F Fl A2 => c_retI (kg ?_ hi2 hl2 F Fl A2)), fun gz => c_retI (kr ?_)⟩, fun gk => c37 (j := 0) (x := 0) X (by omega) (by omega) ⟨fun gz => c56 A V' (by omega) (fun hi2 hl2 F Fl A2 => c_retI (kg ?_ hi2 hl2 F Fl A2)), fun gz => c_retI (kr ?_)⟩⟩
      all_goals rw [i1] at gk
      all_goals rw [cf_cmp0, hb] at gz
      · rw [cf_or0] at gz
        rintro (z | z | z | z | z | z | z | z)
        · omega
        · exact z c1
        · exact z c2
        · exact g6 z
        · exact hmx z
        · exact z hv
        · exact z gz
        · exact z.1 gk
      · rw [cf_or0] at gz
        exact Or.inr (Or.inr (Or.inr (Or.inr (Or.inr (Or.inr (Or.inl gz))))))
      · have gz' := cf_dj.mp gz
        rintro (z | z | z | z | z | z | z | z)
        · omega
        · exact z c1
        · exact z c2
        · exact g6 z
        · exact hmx z
        · exact z hv
        · apply z
          rw [cf_dj]
          intro p hp w
          refine gz' p hp ?_
          rw [cf_hor, Bool.or_eq_true] at w
          rw [cf_hor, cf_hor, Bool.or_eq_true, Bool.or_eq_true]
          rcases w with w | w
          · exact Or.inl w
          · exact Or.inr (Or.inl w)
        · apply z.2
          rw [cf_dj]
          intro p hp w
          refine gz' p hp ?_
          rw [cf_hor, cf_hor, w, Bool.or_true, Bool.or_true]
      · by_cases z : (cf_std (S 0 0) (S 0 1) (cf_two k) (q + 64 * d) &&& cf_sq S 0 0) = 0
        · refine Or.inr (Or.inr (Or.inr (Or.inr (Or.inr (Or.inr (Or.inl ?_))))))
          intro z2
          apply gz
          rw [cf_dj]
          intro p hp w
          rw [cf_hor, cf_hor, Bool.or_eq_true, Bool.or_eq_true] at w
          rcases w with w | w | w
          · exact cf_dj.mp z2 p hp (by rw [cf_hor, w]; rfl)
          · exact cf_dj.mp z2 p hp (by rw [cf_hor, w, Bool.or_true])
          · exact cf_dj.mp z p hp w
        · exact Or.inr (Or.inr (Or.inr (Or.inr (Or.inr (Or.inr (Or.inr ⟨gk, z⟩))))))
    refine c42 K1 X.1.2.2.1 hk hs2 ⟨fun gk => tail ?_, fun gk => c13 ⟨fun gp => tail ?_, fun gp => c_retI (kr ?_)⟩⟩
    all_goals rw [i2] at gk
    · refine ⟨hs2, fun z => ?_⟩
      unfold cf_two at z
      have := of_decide_eq_true z; omega
    all_goals have ht : cf_two k = true := by unfold cf_two; exact decide_eq_true (by omega)
    all_goals rw [show (2 : Int32) = nI 2 from rfl, cf_nle (by omega) (by have := cf_pop_le (cf_std (S 0 0) (S 0 1) (cf_two k) (q + 64 * d)); omega)] at gp
    · exact (cf_vs_pop V.1.1 hwh hs2 ht).mpr (by omega)
    · refine Or.inr (Or.inr (Or.inr (Or.inr (Or.inr (Or.inl ?_)))))
      intro z
      have := (cf_vs_pop V.1.1 hwh hs2 ht).mp z
      omega
  · rw [cf_le'] at g5; exact Or.inr (Or.inr (Or.inl (by omega)))
end RXE
