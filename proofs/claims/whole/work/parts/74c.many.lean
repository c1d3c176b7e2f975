/-! many, stop of both. -/
/-- many(): d carts from i on, n PLANS so far -/
def cf_mny : Nat → Nat → cf_S → Nat → cf_S × Nat
  | 0, _, S, n => (S, n)
  | d + 1, i, S, n => if cf_op S i = true then (match cf_pl S i with
      | none => cf_mny d (i + 1) S n
      | some S1 => cf_mny d (i + 1) (cf_pd S1 i) (n + 1)) else cf_mny d (i + 1) S n
section RXE
variable {L : Nat} {t : List (Nat × Nat)}
variable {RI : Int32 → (Nat → Nat → Int32) → (Nat → Nat → Int64) → (Nat → Nat → Option Nat) → Prop}
theorem c84 {ls : Nat} {S0 : cf_S} {hi0 : Nat → Nat → Int32} {hl0 : Nat → Nat → Int64} {v0 : Nat → Nat → Option Nat} (I : cf_Ir ls S0) (A : cf_A S0 ls hi0 hl0)
    (k : cf_Ir ls (cf_mny (S0 0 2) 0 S0 0).1 → (cf_mny (S0 0 2) 0 S0 0).1 0 = S0 0 → (cf_mny (S0 0 2) 0 S0 0).1 2 = S0 2 → ∀ hi2 hl2 v2, cf_fC hi0 hi2 hl0 hl2 → cf_fv v0 v2 → cf_A (cf_mny (S0 0 2) 0 S0 0).1 ls hi2 hl2 → RI (nI (cf_mny (S0 0 2) 0 S0 0).2) hi2 hl2 v2) :
    rx_CI L t 84 [.ref 1] hi0 hl0 v0 RI := by
  have h6 := I.1.2.2.1
  have lp : ∀ d i, i + d = S0 0 2 → ∀ (S : cf_S) n (hi : Nat → Nat → Int32) hl v, cf_Ir ls S → S 0 = S0 0 → S 2 = S0 2 → cf_fC hi0 hi hl0 hl → cf_fv v0 v → cf_A S ls hi hl → cf_mny d i S n = cf_mny (S0 0 2) 0 S0 0 →
      rx_aw 84 4 [.ref 1, .int (nI n), .int (nI i), rx_no] [] (rx_hp L t hi hl v) (fun r h2 => ∃ z : Int32, r = some (.int z) ∧ rx_ok2 L t h2 (RI z)) := by
    intro d
    induction d with
    | zero =>
      intro i hid S n hi hl v I1 e0 e2 F Fv A1 hm
      have C := A1.1.1.2.2.2.2.1
      refine w84_many_4 ⟨fun g => c_retI ?_, fun g => absurd ?_ g⟩
      · rw [← hm] at k
        exact k I1 e0 e2 hi hl v F Fv A1
      · rw [C.1, e0, nI_leI (by omega) (by omega)]; omega
    | succ d ih =>
      intro i hid S n hi hl v I1 e0 e2 F Fv A1 hm
      have V := I1.1
      have C := A1.1.1.2.2.2.2.1
      have hcl : i < S 0 2 := by rw [e0]; omega
      refine w84_many_4 ⟨fun g => absurd g ?_, fun g => ⟨i, rfl, by omega, c62 V C hcl ⟨fun g => ?_, fun g => ?_⟩⟩⟩
      · rw [C.1, e0, nI_leI (by omega) (by omega)]; omega
      · have ho := cf_B_eq g
        rw [cf_mny, if_neg (by rw [ho]; decide)] at hm
        rw [show nI i + 1 = nI (i + 1) from nI_add i 1]
        exact ih (i + 1) (by omega) S n hi hl v I1 e0 e2 F Fv A1 hm
      · have ho := cf_B_ne g
        obtain ⟨h5, h4, nd, ns, _⟩ := cf_Ir_open I1 hcl ho
        rw [cf_mny, if_pos ho] at hm
        refine c63k (k := 0) h4 A1.1 I1.2.1 hcl nd h5 ns (fun e hi2 hl2 v2 F2 Fv2 X => ⟨fun _ => ?_, fun q => absurd rfl q⟩) (fun S1 e _ _ L1 hi2 hl2 v2 F2 Fv2 X => ⟨fun q => absurd q (by decide), fun _ => ?_⟩)
        · rw [e] at hm
          rw [show nI i + 1 = nI (i + 1) from nI_add i 1]
          exact ih (i + 1) (by omega) S n hi2 hl2 v2 I1 e0 e2 (cf_fC_t F F2) (cf_fv_t Fv Fv2) (cf_A_fC A1 F2 X) hm
        · rw [e] at hm
          rw [show nI i + 1 = nI (i + 1) from nI_add i 1, show nI n + 1 = nI (n + 1) from nI_add n 1]
          exact ih (i + 1) (by omega) (cf_pd S1 i) (n + 1) hi2 hl2 v2 (cf_Ir_plan I1 hcl ho e) ((cf_pd_02 L1).1.trans e0) ((cf_pd_02 L1).2.trans e2) (cf_fC_t F F2) (cf_fv_t Fv Fv2) (cf_A_fC A1 F2 X) hm
  exact w84_many (lp (S0 0 2) 0 (by omega) S0 0 hi0 hl0 v0 I rfl rfl cf_fC_r (fun _ _ _ => rfl) A rfl)
theorem c198 {ls : Nat} {S0 : cf_S} {hi0 : Nat → Nat → Int32} {hl0 : Nat → Nat → Int64} {v : Nat → Nat → Option Nat} (I : cf_Ir ls S0) (Z : cf_RM S0 hi0 hl0)
    (k : ∀ hi2 hl2, cf_fP hi0 hi2 → cf_fPl hl0 hl2 → cf_RM (cf_mny (S0 0 2) 0 S0 0).1 hi2 hl2 → RI (nI (cf_mny (S0 0 2) 0 S0 0).2) hi2 hl2 v) :
    rx_CI L t 198 [.ref 90] hi0 hl0 v RI := by
  have h6 := I.1.2.2.1
  have lp : ∀ d i, i + d = S0 0 2 → ∀ (S : cf_S) n (hi : Nat → Nat → Int32) hl, cf_Ir ls S → S 0 = S0 0 → cf_fP hi0 hi → cf_fPl hl0 hl → cf_RM S hi hl → cf_mny d i S n = cf_mny (S0 0 2) 0 S0 0 →
      rx_aw 198 4 [.ref 90, .int (nI n), .int (nI i)] [] (rx_hp L t hi hl v) (fun r h2 => ∃ z : Int32, r = some (.int z) ∧ rx_ok2 L t h2 (RI z)) := by
    intro d
    induction d with
    | zero =>
      intro i hid S n hi hl I1 e0 F Fl Z1 hm
      have M := Z1.2.2.1
      refine w198_many_r_4 ⟨fun g => c_retI ?_, fun g => absurd ?_ g⟩
      · rw [← hm] at k
        exact k hi hl F Fl Z1
      · rw [M.2.1, e0, nI_leI (by omega) (by omega)]; omega
    | succ d ih =>
      intro i hid S n hi hl I1 e0 F Fl Z1 hm
      have V := I1.1
      have M := Z1.2.2.1
      have hcl : i < S 0 2 := by rw [e0]; omega
      have z0 : nI n + 0 = nI n := nI_add n 0
      refine w198_many_r_4 ⟨fun g => absurd g ?_, fun g => c162 V M hcl ⟨fun g => ?_, fun g => ?_⟩⟩
      · rw [M.2.1, e0, nI_leI (by omega) (by omega)]; omega
      · have ho := cf_B_eq g
        rw [cf_mny, if_neg (by rw [ho]; decide)] at hm
        rw [z0, show nI i + 1 = nI (i + 1) from nI_add i 1]
        exact ih (i + 1) (by omega) S n hi hl I1 e0 F Fl Z1 hm
      · have ho := cf_B_ne g
        rw [cf_mny, if_pos ho] at hm
        refine c163 Z1 hcl (cf_op_t ho).1 (fun e hi2 hl2 F2 Fl2 Z2 => ⟨fun _ => ?_, fun q => absurd rfl q⟩) (fun S1 e L1 hi2 hl2 F2 Fl2 Z2 => ⟨fun q => absurd q (by decide), fun _ => ?_⟩)
        · rw [e] at hm
          rw [z0, show nI i + 1 = nI (i + 1) from nI_add i 1]
          exact ih (i + 1) (by omega) S n hi2 hl2 I1 e0 (cf_fP_t F F2) (cf_fPl_t Fl Fl2) Z2 hm
        · rw [e] at hm
          rw [show nI i + 1 = nI (i + 1) from nI_add i 1, show nI n + 1 = nI (n + 1) from nI_add n 1]
          exact ih (i + 1) (by omega) (cf_pd S1 i) (n + 1) hi2 hl2 (cf_Ir_plan I1 hcl ho e) ((cf_pd_02 L1).1.trans e0) (cf_fP_t F F2) (cf_fPl_t Fl Fl2) Z2 hm
  exact w198_many_r (lp (S0 0 2) 0 (by omega) S0 0 hi0 hl0 I rfl (fun _ _ _ _ _ _ _ _ => rfl) (fun _ _ _ _ _ _ => rfl) Z rfl)
end RXE
theorem cf_pr_many {L : Nat} {t : List (Nat × Nat)} : cf_pr L t 84 198 [] := by
  intro S ls hi hl v R
  obtain ⟨I, A, Z, E⟩ := id R
  refine c84 I A (fun I2 e0 e2 hi2 hl2 v2 F Fv A2 => ?_)
  exact c198 I (cf_rel_Z R (fun a b q => F.1 a b (by omega)) (fun a b q => F.2.1 a b (by omega))) (fun hi3 hl3 F3 Fl3 Z3 => ⟨rfl, cf_rel_plan R I2 e0 e2 (fun a b q => F.1 a b (by omega)) Fv A2 (cf_fS_P F3) (cf_fP48 F3) Fl3 Z3⟩)
theorem cf_st0_r {S : cf_S} {c k a b : Nat} (h4 : ¬ a = 4) (h8 : ¬ a = 8) : cf_st0 S c k a b = S a b := by
  unfold cf_st0 cf_fte
  rw [if_neg (fun q => h8 q.1), cf_cut_r (fun q => h4 q.1)]
/-- behind a stop of both -/
theorem cf_rel_stop {t : List (Nat × Nat)} {S S2 : cf_S} {ls ls2 : Nat} {hi hi2 hi3 : Nat → Nat → Int32} {hl hl2 hl3 : Nat → Nat → Int64} {v v2 : Nat → Nat → Option Nat} (R : cf_rel t S ls hi hl v) (I2 : cf_Ir ls2 S2) (e0 : S2 0 = S 0) (e2 : S2 2 = S 2) (F : ∀ a b, (a < 13 ∨ 84 ≤ a) → hi2 a b = hi a b) (Fv : cf_fv v v2) (A2 : cf_A S2 ls2 hi2 hl2) (F3 : cf_fS hi2 hi3) (F48 : hi3 90 48 = nI ls2) (Fl3 : cf_fPl hl2 hl3) (Z3 : cf_RM S2 hi3 hl3) : cf_Rel t hi3 hl3 v2 := by
  obtain ⟨I, A, ⟨Z, e48⟩, E⟩ := R
  refine ⟨S2, ls2, I2, cf_A_ext A2 (fun a b q1 q2 => F3 a b (by omega) (by omega) (by omega) (by omega) (by omega) (by omega) (by omega)) (fun a b q1 q2 => Fl3 a b (by omega) (by omega) (by omega) (by omega)), ⟨Z3, F48⟩, cf_E_S (cf_E_ext E (fun a b q => ?_) (fun b => Fv 6 b (by omega)) (Fv 1 7 (by omega))) e0 e2⟩
  unfold cf_er at q
  rw [F3 a b (by omega) (by omega) (by omega) (by omega) (by omega) (by omega) (by omega), F a b (by omega)]
theorem cf_pr_stop {L : Nat} {t : List (Nat × Nat)} (a0 a1 : Int32) : cf_pr L t 85 199 [.int a0, .int a1] := by
  intro S ls hi hl v R
  obtain ⟨I, A, Z, E⟩ := id R
  have hls4 := I.2.2.2.2.2.1
  have h6 := I.1.2.2.1
  have Jk : ¬ cf_cn (S 0 2) a0 = 0 → ∀ k, ls ≤ k → k ≤ 400 → cf_Jk k (cf_st0 S (cf_cn (S 0 2) a0 - 1) k) := fun h0 k q1 q2 => cf_Ir_st0 I (cf_cn_x (x := a0) h6 (by omega)).2 q1 q2
  refine c85 A.1 A.2.1 A.2.2 hls4 (fun q => ?_) (fun h0 h3 h8 k ek hk1 hk => ⟨Jk h0 k hk1 hk, ?_⟩)
  · refine c199 Z.1 Z.2 hls4 (fun _ => ⟨rfl, S, ls, R⟩) (fun h0 h3 h8 k ek hk1 hk => absurd q ?_)
    rw [ek, nI_toInt (by omega)]
    omega
  · obtain ⟨f, r, hf, hr⟩ := cf_lp_400 (Jk h0 k hk1 hk) 0
    have hcl := (cf_cn_x (x := a0) h6 (Nat.pos_of_ne_zero h0)).2
    refine ⟨f, r, hf, hr, fun q hi2 hl2 v2 F Fl Fv b2 e3 X2 => ?_, fun q hi2 hl2 v2 F Fl Fv b2 e3 X2 => ?_⟩
    · have Z2 := cf_rel_Z (hi2 := hi2) (hl2 := hl2) R (fun a b q => F a b (by omega)) (fun a b q => Fl a b (by omega))
      refine c199 Z2 ((F 90 48 (by omega)).trans Z.2) hls4 (fun w => ?_) (fun _ _ _ k' ek' _ hk' => ⟨?_, f, r, ?_, fun _ hi3 hl3 F3 Fl3 e48 Z3 => ⟨rfl, ?_⟩, fun q' => absurd ?_ q'⟩)
      · rw [ek, nI_toInt (by omega)] at w; omega
      all_goals have ekk : k' = k := by rw [ek, nI_eq (by omega) (by omega)] at ek'; exact ek'.symm
      all_goals subst ekk
      · exact Jk h0 k' hk1 hk
      · exact hr
      · have I2 := cf_Ir_stop I hcl h3 hk1 hk hr q
        have rw0 := (cf_lp_row f _ 0 (Jk h0 k' hk1 hk) hr).2.2
        refine cf_rel_stop R I2 ?_ ?_ F Fv ⟨X2, b2, e3⟩ F3 e48 Fl3 Z3
        · funext b; rw [rw0 0 b (by omega) (by omega) (by omega), cf_st0_r (by omega) (by omega)]
        · funext b; rw [rw0 2 b (by omega) (by omega) (by omega), cf_st0_r (by omega) (by omega)]
      · exact q
    · have Z2 := cf_rel_Z (hi2 := hi2) (hl2 := hl2) R (fun a b q => F a b (by omega)) (fun a b q => Fl a b (by omega))
      refine c199 Z2 ((F 90 48 (by omega)).trans Z.2) hls4 (fun w => ?_) (fun _ _ _ k' ek' _ hk' => ⟨?_, f, r, ?_, fun q' => absurd q' ?_, fun _ hi3 hl3 F3 Fl3 e48 Z3 => ⟨rfl, ?_⟩⟩)
      · rw [ek, nI_toInt (by omega)] at w; omega
      all_goals have ekk : k' = k := by rw [ek, nI_eq (by omega) (by omega)] at ek'; exact ek'.symm
      all_goals subst ekk
      · exact Jk h0 k' hk1 hk
      · exact hr
      · exact q
      · exact cf_rel_stop R I rfl rfl F Fv ⟨X2, b2, e3⟩ F3 e48 Fl3 Z3
