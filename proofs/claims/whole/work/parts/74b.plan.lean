/-! plan, many, stop of both. -/
theorem cf_A_fC {S S2 : cf_S} {ls : Nat} {hi hi2 : Nat → Nat → Int32} {hl hl2 : Nat → Nat → Int64} (A : cf_A S ls hi hl) (F : cf_fC hi hi2 hl hl2) (X : cf_XR S2 hi2 hl2) : cf_A S2 ls hi2 hl2 := ⟨X, cf_bts_fC A.2.1 F, (F.1 76 3 (by omega)).trans A.2.2⟩
/-- the same rows 0 and 2 behind a PLAN -/
theorem cf_pd_02 {S S1 : cf_S} {c : Nat} (L1 : cf_lg S c S1) : cf_pd S1 c 0 = S 0 ∧ cf_pd S1 c 2 = S 2 := by
  constructor <;> funext b <;> rw [cf_pd_r (by omega), cf_lg_e L1 (by omega) (by omega)]
section RXE
variable {L : Nat} {t : List (Nat × Nat)}
variable {RI : Int32 → (Nat → Nat → Int32) → (Nat → Nat → Int64) → (Nat → Nat → Option Nat) → Prop}
theorem c61 {hi : Nat → Nat → Int32} {hl : Nat → Nat → Int64} {v : Nat → Nat → Option Nat} {S : cf_S} {ls : Nat} (I : cf_Ir ls S) (A : cf_A S ls hi hl) {x : Int32}
    (kr : (cf_cn (S 0 2) x = 0 ∨ cf_op S (cf_cn (S 0 2) x - 1) = false) → RI (-2) hi hl v)
    (k0 : ¬ cf_cn (S 0 2) x = 0 → cf_op S (cf_cn (S 0 2) x - 1) = true → cf_pl S (cf_cn (S 0 2) x - 1) = none → ∀ hi2 hl2 v2, cf_fC hi hi2 hl hl2 → cf_fv v v2 → cf_A S ls hi2 hl2 → RI (-1) hi2 hl2 v2)
    (k1 : ¬ cf_cn (S 0 2) x = 0 → cf_op S (cf_cn (S 0 2) x - 1) = true → ∀ S1, cf_pl S (cf_cn (S 0 2) x - 1) = some S1 → cf_lg S (cf_cn (S 0 2) x - 1) S1 → ∀ hi2 hl2 v2, cf_fC hi hi2 hl hl2 → cf_fv v v2 → cf_A (cf_pd S1 (cf_cn (S 0 2) x - 1)) ls hi2 hl2 → RI (nI (S1 4 (cf_cn (S 0 2) x - 1))) hi2 hl2 v2) :
    rx_CI L t 61 [.ref 1, .int x] hi hl v RI := by
  have V := I.1
  have C := A.1.1.2.2.2.2.1
  have h6 := V.2.2.1
  refine w61_plan (c59 V C ?_)
  by_cases h0 : cf_cn (S 0 2) x = 0
  · rw [if_pos h0]
    exact Or.inl ⟨rfl, c_retI (kr (Or.inl h0))⟩
  rw [if_neg h0]
  obtain ⟨_, hcl⟩ := cf_cn_x (x := x) h6 (by omega)
  refine Or.inr ⟨_, by omega, rfl, c62 V C hcl ⟨fun g => c_retI (kr (Or.inr (cf_B_eq g))), fun g => ?_⟩⟩
  have ho := cf_B_ne g
  obtain ⟨h5, h4, nd, ns, _⟩ := cf_Ir_open I hcl ho
  refine c63k (k := 0) h4 A.1 I.2.1 hcl nd h5 ns (fun e hi2 hl2 v2 F Fv X => ⟨fun _ => c_retI (k0 h0 ho e hi2 hl2 v2 F Fv (cf_A_fC A F X)), fun q => absurd rfl q⟩) (fun S1 e _ _ L1 hi2 hl2 v2 F Fv X => ⟨fun q => absurd q (by decide), fun _ => c_retI ?_⟩)
  have hn : cf_pd S1 (cf_cn (S 0 2) x - 1) 0 2 = S 0 2 := by rw [(cf_pd_02 L1).1]
  have e7 := (X.1.2.2.2.2.1.2.2.1 (cf_cn (S 0 2) x - 1) (by rw [hn]; exact hcl)).2.2.1
  rw [e7, cf_pd_r (by omega)]
  exact k1 h0 ho S1 e L1 hi2 hl2 v2 F Fv (cf_A_fC A F X)
theorem c160 {hi : Nat → Nat → Int32} {hl : Nat → Nat → Int64} {v : Nat → Nat → Option Nat} {S : cf_S} (Z : cf_RM S hi hl) {x : Int32}
    (kr : (cf_cn (S 0 2) x = 0 ∨ cf_op S (cf_cn (S 0 2) x - 1) = false) → RI (-2) hi hl v)
    (k0 : ¬ cf_cn (S 0 2) x = 0 → cf_op S (cf_cn (S 0 2) x - 1) = true → cf_pl S (cf_cn (S 0 2) x - 1) = none → ∀ hi2 hl2, cf_fP hi hi2 → cf_fPl hl hl2 → cf_RM S hi2 hl2 → RI (-1) hi2 hl2 v)
    (k1 : ¬ cf_cn (S 0 2) x = 0 → cf_op S (cf_cn (S 0 2) x - 1) = true → ∀ S1, cf_pl S (cf_cn (S 0 2) x - 1) = some S1 → cf_lg S (cf_cn (S 0 2) x - 1) S1 → ∀ hi2 hl2, cf_fP hi hi2 → cf_fPl hl hl2 → cf_RM (cf_pd S1 (cf_cn (S 0 2) x - 1)) hi2 hl2 → RI (nI (S1 4 (cf_cn (S 0 2) x - 1))) hi2 hl2 v) :
    rx_CI L t 160 [.ref 90, .int x] hi hl v RI := by
  have V := Z.1
  have M := Z.2.2.1
  have h6 := V.2.2.1
  refine w160_plan_r (c161 V M ⟨fun g => c_retI (kr (Or.inl ?_)), fun g => ?_⟩)
  · have := of_decide_eq_false (cf_B_eq g); omega
  have h0 := of_decide_eq_true (cf_B_ne g)
  obtain ⟨ex, hcl⟩ := cf_cn_x h6 h0
  have h0' : ¬ cf_cn (S 0 2) x = 0 := by omega
  generalize hcc : cf_cn (S 0 2) x - 1 = c at *
  rw [ex]
  refine c162 V M hcl ⟨fun g2 => c_retI (kr (Or.inr (cf_B_eq g2))), fun g2 => ?_⟩
  have ho := cf_B_ne g2
  refine c163 Z hcl (cf_op_t ho).1 (fun e hi2 hl2 F Fl Z2 => ⟨fun _ => c_retI (k0 h0' ho e hi2 hl2 F Fl Z2), fun q => absurd rfl q⟩) (fun S1 e L1 hi2 hl2 F Fl Z2 => ⟨fun q => absurd q (by decide), fun _ => ⟨c, rfl, by omega, c_retI ?_⟩⟩)
  have hn : cf_pd S1 c 0 2 = S 0 2 := by rw [(cf_pd_02 L1).1]
  rw [(Z2.2.2.1.2.2.2.2.2.1 c (by rw [hn]; exact hcl)).2.1, cf_pd_r (by omega)]
  exact k1 h0' ho S1 e L1 hi2 hl2 F Fl Z2
end RXE
/-- behind a PLAN (or none) of both -/
theorem cf_rel_plan {t : List (Nat × Nat)} {S S2 : cf_S} {ls : Nat} {hi hi2 hi3 : Nat → Nat → Int32} {hl hl2 hl3 : Nat → Nat → Int64} {v v2 : Nat → Nat → Option Nat} (R : cf_rel t S ls hi hl v) (I2 : cf_Ir ls S2) (e0 : S2 0 = S 0) (e2 : S2 2 = S 2) (F : ∀ a b, (a < 13 ∨ 84 ≤ a) → hi2 a b = hi a b) (Fv : cf_fv v v2) (A2 : cf_A S2 ls hi2 hl2) (F3 : cf_fS hi2 hi3) (F48 : hi3 90 48 = hi2 90 48) (Fl3 : cf_fPl hl2 hl3) (Z3 : cf_RM S2 hi3 hl3) : cf_Rel t hi3 hl3 v2 := by
  obtain ⟨I, A, ⟨Z, e48⟩, E⟩ := R
  refine ⟨S2, ls, I2, cf_A_ext A2 (fun a b q1 q2 => F3 a b (by omega) (by omega) (by omega) (by omega) (by omega) (by omega) (by omega)) (fun a b q1 q2 => Fl3 a b (by omega) (by omega) (by omega) (by omega)), ⟨Z3, ?_⟩, cf_E_S (cf_E_ext E (fun a b q => ?_) (fun b => Fv 6 b (by omega)) (Fv 1 7 (by omega))) e0 e2⟩
  · rw [F48, F 90 48 (by omega)]; exact e48
  · unfold cf_er at q
    rw [F3 a b (by omega) (by omega) (by omega) (by omega) (by omega) (by omega) (by omega), F a b (by omega)]
/-- the reference's half as the class has left it -/
theorem cf_rel_Z {t : List (Nat × Nat)} {S : cf_S} {ls : Nat} {hi hi2 : Nat → Nat → Int32} {hl hl2 : Nat → Nat → Int64} {v : Nat → Nat → Option Nat} (R : cf_rel t S ls hi hl v) (F : ∀ a b, 90 ≤ a → hi2 a b = hi a b) (Fl : ∀ a b, 90 ≤ a → hl2 a b = hl a b) : cf_RM S hi2 hl2 := cf_RM_ext R.2.2.1.1 (fun b _ => F 90 b (by omega)) (fun a b q1 q2 => F a b (by omega)) (fun a b q1 q2 => Fl a b (by omega))
theorem cf_fP48 {hi hi2 : Nat → Nat → Int32} (F : cf_fP hi hi2) : hi2 90 48 = hi 90 48 := F 90 48 (by omega) (by omega) (by omega) (by omega) (by omega) (by omega)
theorem cf_pr_plan {L : Nat} {t : List (Nat × Nat)} (x : Int32) : cf_pr L t 61 160 [.int x] := by
  intro S ls hi hl v R
  obtain ⟨I, A, Z, E⟩ := id R
  refine c61 I A (fun q => ?_) (fun h0 ho e hi2 hl2 v2 F Fv A2 => ?_) (fun h0 ho S1 e L1 hi2 hl2 v2 F Fv A2 => ?_)
  · refine c160 Z.1 (fun _ => ⟨rfl, S, ls, R⟩) (fun h0 ho => ?_) (fun h0 ho => ?_)
    all_goals exact absurd q (by rw [ho]; intro z; rcases z with z | z; exact h0 z; cases z)
  · refine c160 (cf_rel_Z R (fun a b q => F.1 a b (by omega)) (fun a b q => F.2.1 a b (by omega))) (fun q => ?_) (fun _ _ _ hi3 hl3 F3 Fl3 Z3 => ⟨rfl, ?_⟩) (fun _ _ S1 e1 => ?_)
    · exact absurd q (by rw [ho]; intro z; rcases z with z | z; exact h0 z; cases z)
    · exact cf_rel_plan R I rfl rfl (fun a b q => F.1 a b (by omega)) Fv A2 (cf_fS_P F3) (cf_fP48 F3) Fl3 Z3
    · rw [e] at e1; cases e1
  · refine c160 (cf_rel_Z R (fun a b q => F.1 a b (by omega)) (fun a b q => F.2.1 a b (by omega))) (fun q => ?_) (fun _ _ e1 => ?_) (fun _ _ S1' e1 _ hi3 hl3 F3 Fl3 Z3 => ?_)
    · exact absurd q (by rw [ho]; intro z; rcases z with z | z; exact h0 z; cases z)
    · rw [e] at e1; cases e1
    · rw [e] at e1; cases e1
      have hcl := (cf_cn_x (x := x) I.1.2.2.1 (Nat.pos_of_ne_zero h0)).2
      exact ⟨rfl, cf_rel_plan R (cf_Ir_plan I hcl ho e) (cf_pd_02 L1).1 (cf_pd_02 L1).2 (fun a b q => F.1 a b (by omega)) Fv A2 (cf_fS_P F3) (cf_fP48 F3) Fl3 Z3⟩
