/-! shelf of the reference, and of both. -/
theorem cf_mx_any {f : Nat → Nat} : ∀ {n : Nat}, (cf_any (fun c => decide (0 < f c)) n = true ↔ 0 < cf_mx f n)
  | 0 => by constructor <;> intro h <;> cases h
  | n + 1 => by
    rw [cf_any, cf_mx, Bool.or_eq_true, cf_mx_any (n := n), decide_eq_true_iff]
    omega
section RXE
variable {L : Nat} {t : List (Nat × Nat)} {hi : Nat → Nat → Int32} {hl : Nat → Nat → Int64} {v : Nat → Nat → Option Nat}
variable {RI : Int32 → (Nat → Nat → Int32) → (Nat → Nat → Int64) → (Nat → Nat → Option Nat) → Prop}
variable {RL : Int64 → (Nat → Nat → Int32) → (Nat → Nat → Int64) → (Nat → Nat → Option Nat) → Prop}
/-- a loop that grows by one round -/
theorem cf_lph {α : Type} {g : Nat → α} {N m pc : Nat} {A : α → Nat → List Value} {H : rx_H} {Q : Option Value → rx_H → Prop} (st : ∀ i, i < N → rx_aw m pc (A (g (i + 1)) (i + 1)) [] H Q → rx_aw m pc (A (g i) i) [] H Q) (en : rx_aw m pc (A (g N) N) [] H Q) : rx_aw m pc (A (g 0) 0) [] H Q := by
  have lp : ∀ d i, i + d = N → rx_aw m pc (A (g i) i) [] H Q := by
    intro d
    induction d with
    | zero =>
      intro i hid
      have : i = N := by omega
      subst this; exact en
    | succ d ih =>
      intro i hid
      exact st i (by omega) (ih (i + 1) (by omega))
  exact lp N 0 (by omega)
theorem c207 {S : cf_S} (V : cf_V S) (M : cf_M S hi) (N : cf_NW S hi hl) {q : Nat} (hq : q < 64) (k : RI (cf_B (cf_any (fun s => decide (S 12 s = q)) (S 0 3))) hi hl v) : rx_CI L t 207 [.ref 90, .int (nI q)] hi hl v RI := by
  have h12 := V.2.2.2.1
  have hwh := cf_V_wh V
  refine w207_isShelfOn_r (cf_lph (g := fun i => cf_B (cf_any (fun s => decide (S 12 s = q)) i)) (N := S 0 3) (A := fun z i => [.ref 90, .int (nI q), .int z, .int (nI i)]) (fun i hi0 w => ?_) ?_)
  · have v12 := V.2.2.2.2.2.2.2 i hi0
    have e : hi 108 (402 * i) = nI (S 12 i) := N.2 i hi0 0 (by omega)
    refine w207_isShelfOn_r_4 ⟨fun g => ?_, fun g => ⟨402 * i, ?_, by omega, fun g2 => ?_, fun g2 => ?_⟩⟩
    · rw [M.2.2.1, cf_nle (by omega) (by omega)] at g; omega
    · rw [show (402 : Int32) = nI 402 from rfl, cf_nmul]
    all_goals rw [e, nI_eq (by omega) (by omega)] at g2
    · have e2 : cf_B (cf_any (fun s => decide (S 12 s = q)) i) ||| 1 = cf_B (cf_any (fun s => decide (S 12 s = q)) (i + 1)) := by rw [cf_Bor1, cf_any, decide_eq_true g2, Bool.or_true]
      rw [e2, show nI i + 1 = nI (i + 1) from nI_add i 1]; exact w
    · have e2 : cf_B (cf_any (fun s => decide (S 12 s = q)) i) ||| 0 = cf_B (cf_any (fun s => decide (S 12 s = q)) (i + 1)) := by rw [cf_Bor0, cf_any, decide_eq_false g2, Bool.or_false]
      rw [e2, show nI i + 1 = nI (i + 1) from nI_add i 1]; exact w
  · refine w207_isShelfOn_r_4 ⟨fun g => ⟨cf_B01 _, c_retI k⟩, fun g => absurd ?_ g⟩
    rw [M.2.2.1, cf_nle (by omega) (by omega)]; omega
theorem c208 {S : cf_S} (V : cf_V S) (M : cf_M S hi) (N : cf_NW S hi hl) (k : RL (cf_un (cf_sd S 0) (S 0 2)) hi hl v) : rx_CL L t 208 [.ref 90] hi hl v RL := by
  have h6 := V.2.2.1
  refine w208_allStands_r (cf_lph (g := fun i => cf_un (cf_sd S 0) i) (N := S 0 2) (A := fun z i => [.ref 90, .long z, rx_no, .int (nI i)]) (fun i hi0 w => ?_) ?_)
  · have e : hl 105 (402 * i) = cf_sd S 0 i := ((N.1 i hi0).1 0 (by omega)).2.2.2.1
    refine w208_allStands_r_4 ⟨fun g => ?_, fun g => ⟨402 * i, ?_, by omega, ?_⟩⟩
    · rw [M.2.1, cf_nle (by omega) (by omega)] at g; omega
    · rw [show (402 : Int32) = nI 402 from rfl, cf_nmul]
    · rw [e, show nI i + 1 = nI (i + 1) from nI_add i 1]; exact w
  · refine w208_allStands_r_4 ⟨fun g => c_retL k, fun g => absurd ?_ g⟩
    rw [M.2.1, cf_nle (by omega) (by omega)]; omega
theorem c209 {S : cf_S} (V : cf_V S) (M : cf_M S hi) (k : RI (cf_B (cf_any (fun c => decide (0 < S 4 c)) (S 0 2))) hi hl v) : rx_CI L t 209 [.ref 90] hi hl v RI := by
  have h6 := V.2.2.1
  refine w209_isAnyMove_r (cf_lph (g := fun i => cf_B (cf_any (fun c => decide (0 < S 4 c)) i)) (N := S 0 2) (A := fun z i => [.ref 90, .int z, .int (nI i)]) (fun i hi0 w => ?_) ?_)
  · have v4 := (V.2.2.2.2.2.2.1 i hi0).2.2.2.1
    refine w209_isAnyMove_r_4 ⟨fun g => ?_, fun g => ⟨i, rfl, by omega, fun g2 => ?_, fun g2 => ?_⟩⟩
    · rw [M.2.1, cf_nle (by omega) (by omega)] at g; omega
    all_goals rw [(M.2.2.2.2.2.1 i hi0).2.1, show (0 : Int32) = nI 0 from rfl, cf_nle (by omega) (by omega)] at g2
    · have e2 : cf_B (cf_any (fun c => decide (0 < S 4 c)) i) ||| 0 = cf_B (cf_any (fun c => decide (0 < S 4 c)) (i + 1)) := by rw [cf_Bor0, cf_any, decide_eq_false (by omega), Bool.or_false]
      rw [e2, show nI i + 1 = nI (i + 1) from nI_add i 1]; exact w
    · have e2 : cf_B (cf_any (fun c => decide (0 < S 4 c)) i) ||| 1 = cf_B (cf_any (fun c => decide (0 < S 4 c)) (i + 1)) := by rw [cf_Bor1, cf_any, decide_eq_true (by omega), Bool.or_true]
      rw [e2, show nI i + 1 = nI (i + 1) from nI_add i 1]; exact w
  · refine w209_isAnyMove_r_4 ⟨fun g => ⟨cf_B01 _, c_retI k⟩, fun g => absurd ?_ g⟩
    rw [M.2.1, cf_nle (by omega) (by omega)]; omega
theorem cf_M_as {S : cf_S} (M : cf_M S hi) {q : Nat} : cf_M (cf_as S q) (rx_u (rx_u hi 107 (S 0 3) (nI q)) 90 21 (nI (S 0 3 + 1))) := by
  have r : ∀ a b, ¬ (a = 0 ∧ b = 3) → ¬ a = 12 → cf_as S q a b = S a b := fun a b h h2 => cf_as_r h (fun z => h2 z.1)
  have u : ∀ a b, ¬ (a = 107 ∧ b = S 0 3) → ¬ (a = 90 ∧ b = 21) → rx_u (rx_u hi 107 (S 0 3) (nI q)) 90 21 (nI (S 0 3 + 1)) a b = hi a b := fun a b h1 h2 => by rw [cf_ru_ne h2, cf_ru_ne h1]
  obtain ⟨⟨a1, a2, a3, a4, a5, a6, a7⟩, b, d, e, g, h, k⟩ := M
  unfold cf_M
  rw [r 0 0 (by omega) (by omega), r 0 1 (by omega) (by omega), r 0 2 (by omega) (by omega), cf_as_3]
  refine ⟨⟨a1, a2, a3, a4, (u _ _ (by omega) (by omega)).trans a5, (u _ _ (by omega) (by omega)).trans a6, (u _ _ (by omega) (by omega)).trans a7⟩, (u _ _ (by omega) (by omega)).trans b, cf_ru_eq, fun p hp => ?_, fun p hp => ?_, fun i hi0 => ?_, fun s hs => ?_⟩
  · rw [u _ _ (by omega) (by omega), r _ _ (by omega) (by omega)]; exact e p hp
  · rw [u _ _ (by omega) (by omega), r _ _ (by omega) (by omega)]; exact g p hp
  · rw [r 3 _ (by omega) (by omega), r 9 _ (by omega) (by omega), r 4 _ (by omega) (by omega), r 5 _ (by omega) (by omega), r 6 _ (by omega) (by omega), r 7 _ (by omega) (by omega), r 8 _ (by omega) (by omega)]
    obtain ⟨f1, f2, f3, f4, f5, f6, f7, f8, f9, f10⟩ := h i hi0
    exact ⟨(u _ _ (by omega) (by omega)).trans f1, (u _ _ (by omega) (by omega)).trans f2, (u _ _ (by omega) (by omega)).trans f3, fun q => ⟨(u _ _ (by omega) (by omega)).trans (f4 q).1, (u _ _ (by omega) (by omega)).trans (f4 q).2⟩, (u _ _ (by omega) (by omega)).trans f5, (u _ _ (by omega) (by omega)).trans f6, fun j hj => by rw [u _ _ (by omega) (by omega), r _ _ (by omega) (by omega)]; exact f7 j hj, (u _ _ (by omega) (by omega)).trans f8, (u _ _ (by omega) (by omega)).trans f9, (u _ _ (by omega) (by omega)).trans f10⟩
  · by_cases z : s = S 0 3
    · subst z; rw [cf_as_12, cf_ru_ne (by omega)]; exact cf_ru_eq
    · rw [cf_as_r (by omega) (fun w => z w.2), u _ _ (by omega) (by omega)]; exact k s (by omega)
theorem cf_ck_ext {hi hi2 : Nat → Nat → Int32} (K : cf_ck hi) (e1 : hi2 90 35 = hi 90 35) (e2 : hi2 90 36 = hi 90 36) : cf_ck hi2 := by
  obtain ⟨k1, nl, k2, k3⟩ := K
  exact ⟨e1.trans k1, nl, e2.trans k2, k3⟩
theorem c206 {S : cf_S} (Z : cf_RM S hi hl) {a0 a1 : Int32} (kr : cf_shz S (cf_num (S 0 0) (S 0 1) a0 a1) → RI (-2) hi hl v) (kg : ¬ cf_shz S (cf_num (S 0 0) (S 0 1) a0 a1) → ∀ hi2 hl2, (∀ a b, ¬ a = 107 → ¬ (a = 90 ∧ (b = 21 ∨ b = 33 ∨ b = 34)) → ¬ (101 ≤ a ∧ a ≤ 104) → ¬ a = 108 → hi2 a b = hi a b) → cf_fwl hl hl2 → cf_RM (cf_as S (cf_num (S 0 0) (S 0 1) a0 a1 - 1)) hi2 hl2 → RI (nI (S 0 3)) hi2 hl2 v) : rx_CI L t 206 [.ref 90, .int a0, .int a1] hi hl v RI := by
  obtain ⟨V, H, M, K, N⟩ := Z
  have hwh := cf_V_wh V
  have h12 := V.2.2.2.1
  have hlt : ∀ q, cf_num (S 0 0) (S 0 1) a0 a1 = q + 1 → q < S 0 0 * S 0 1 := fun q e => cf_num_lt V e
  refine w206_shelf_r (c182 M.1 ⟨fun g => c_retI (kr (Or.inl ?_)), fun g => ?_⟩)
  · have := of_decide_eq_false (cf_B_eq g)
    unfold cf_num; rw [if_neg this]
  have hs := of_decide_eq_true (cf_B_ne g)
  obtain ⟨ex, _⟩ := cf_x (x := a0) (by omega)
  obtain ⟨ey, _⟩ := cf_x (x := a1) (by omega)
  have en : cf_num (S 0 0) (S 0 1) a0 a1 = a1.toInt.toNat * S 0 0 + a0.toInt.toNat + 1 := by unfold cf_num; rw [if_pos hs]
  have ix : a1 * hi 90 0 + a0 = nI (a1.toInt.toNat * S 0 0 + a0.toInt.toNat) := by
    rw [M.1.2.2.2.2.1, ← nI_add, ← cf_nmul, ← ex, ← ey]
  rw [ix]
  generalize cf_num (S 0 0) (S 0 1) a0 a1 = n at *
  generalize a1.toInt.toNat * S 0 0 + a0.toInt.toNat = q at *
  subst en
  have hq := hlt q rfl
  unfold cf_shz at kr kg
  have hq1 : q + 1 - 1 = q := rfl
  rw [hq1] at kr kg
  have v1 := V.2.2.2.2.1 q
  refine c168 V M hq ⟨fun g1 => ⟨q, rfl, by omega, fun g2 => c207 V M N (by omega) ⟨fun g3 => c208 V M N (c169 (by omega) ⟨fun g4 => c209 V M ⟨fun g5 => ⟨fun g6 => c_retI (kr ?_), fun g6 => ⟨S 0 3, M.2.2.1, ?_, ?_⟩⟩, fun g5 => c_retI (kr ?_)⟩, fun g4 => c_retI (kr ?_)⟩), fun g3 => c_retI (kr ?_)⟩, fun g2 => c_retI (kr ?_)⟩, fun g1 => c_retI (kr ?_)⟩
  · rw [M.2.2.1, show (12 : Int32) = nI 12 from rfl, nI_eq (by omega) (by omega)] at g6; omega
  · rw [M.2.2.1, show (12 : Int32) = nI 12 from rfl, nI_eq (by omega) (by omega)] at g6; omega
  · rw [M.2.2.1, show (12 : Int32) = nI 12 from rfl, nI_eq (by omega) (by omega)] at g6
    rw [M.2.2.2.1 q (by omega), show (2 : Int32) = nI 2 from rfl, nI_eq (by omega) (by omega)] at g2
    have b1 := cf_B_eq g1
    have b3 := cf_B_eq g3
    have b5 := cf_B_eq g5
    rw [cf_cmp0, cf_ab (by omega)] at g4
    have b3' : cf_has (cf_sq S 0 0) q = false := by
      unfold cf_sq
      rw [cf_has_un]
      refine cf_any_false (fun s hs => ?_)
      rw [if_neg (by omega), cf_hbt]
      show (decide (S 12 s < 64) && decide (S 12 s = q)) = false
      cases e : decide (S 12 s = q) with
      | false => exact Bool.and_false _
      | true => rw [cf_not_true] at b3; exact absurd (cf_any_true hs e) b3
    have hz : ¬ (q + 1 = 0 ∨ 12 ≤ S 0 3 ∨ 0 < cf_mx (S 4) (S 0 2) ∨ cf_has (cf_bar S ||| cf_sq S 0 0 ||| cf_un (cf_sd S 0) (S 0 2)) q = true ∨ ¬ S 1 q = 2) := by
      rintro (z | z | z | z | z)
      · omega
      · omega
      · rw [← cf_mx_any, b5] at z; cases z
      · rw [cf_hor, cf_hor, cf_has_bar V hq, b1, b3', g4] at z; cases z
      · exact z g2
    have e21 : (rx_u hi 107 (S 0 3) (nI q)) 90 21 + 1 = nI (S 0 3 + 1) := by rw [cf_ru_ne (by omega), M.2.2.1]; exact nI_add _ 1
    rw [e21]
    refine c191w (cf_V_as V hq (by omega)) (cf_H0_as V H q) (cf_M_as M) (cf_ck_ext K (by rw [cf_ru_ne (by omega), cf_ru_ne (by omega)]) (by rw [cf_ru_ne (by omega), cf_ru_ne (by omega)])) (fun hi2 hl2 F Fl M2 K2 N2 => c_retIe (kg hz hi2 hl2 (fun a b z1 z2 z3 z4 => ?_) Fl ⟨cf_V_as V hq (by omega), cf_H0_as V H q, M2, K2, N2⟩) ?_)
    · rw [F a b (by omega) z3 z4, cf_ru_ne (by omega), cf_ru_ne (by omega)]
    · rw [M2.2.2.1, cf_as_3, show (1 : Int32) = nI 1 from rfl, cf_nsub (by omega)]; rfl
  · refine Or.inr (Or.inr (Or.inl ?_))
    rw [← cf_mx_any]; exact cf_B_ne g5
  · refine Or.inr (Or.inr (Or.inr (Or.inl ?_)))
    rw [cf_cmp0, cf_ab (by omega), cf_not_true] at g4
    rw [cf_hor, Classical.not_not.mp g4, Bool.or_true]
  · refine Or.inr (Or.inr (Or.inr (Or.inl ?_)))
    have b3 := cf_B_ne g3
    have : cf_has (cf_sq S 0 0) q = true := by
      unfold cf_sq
      rw [cf_has_un]
      obtain ⟨s, hs, e⟩ := cf_any_iff.mp b3
      refine cf_any_true hs ?_
      have v12 := V.2.2.2.2.2.2.2 s hs
      rw [if_neg (by omega), cf_hbt]
      show (decide (S 12 s < 64) && decide (S 12 s = q)) = true
      rw [decide_eq_true (by omega), e]; rfl
    rw [cf_hor, cf_hor, this, Bool.or_true, Bool.true_or]
  · rw [M.2.2.2.1 q (by omega), show (2 : Int32) = nI 2 from rfl, nI_eq (by omega) (by omega)] at g2
    exact Or.inr (Or.inr (Or.inr (Or.inr g2)))
  · refine Or.inr (Or.inr (Or.inr (Or.inl ?_)))
    rw [cf_hor, cf_hor, cf_has_bar V hq, cf_B_ne g1]; rfl
end RXE
theorem cf_pr_shelf {L : Nat} {t : List (Nat × Nat)} (a0 a1 : Int32) : cf_pr L t 34 206 [.int a0, .int a1] := by
  intro S ls hi hl v R
  obtain ⟨I, A, Z, E⟩ := id R
  have V := I.1
  have hn := cf_num_le V (a0 := a0) (a1 := a1)
  refine c34 A (fun q => c206 Z.1 (fun _ => ⟨rfl, S, ls, R⟩) (fun q2 => absurd q q2)) (fun q hi2 hl2 F Fl A2 => c206 (cf_rel_Z R (fun a b z => F a b (by omega)) (fun a b z => Fl a b (by omega))) (fun q2 => absurd q2 q) (fun _ hi3 hl3 F3 Fl3 Z3 => ⟨rfl, _, ls, cf_Ir_as I q ?_, cf_A_ext A2 (fun a b z1 z2 => F3 a b (by omega) (by omega) (by omega) (by omega)) (fun a b z1 z2 => Fl3 a b (by omega) (by omega)), ⟨Z3, ?_⟩, cf_E_mono (cf_E_ext E (fun a b z => ?_) (fun _ => rfl) rfl) ?_ ?_ ?_ ?_ ?_⟩))
  · rcases e : cf_num (S 0 0) (S 0 1) a0 a1 with _ | n
    · omega
    · have := cf_num_lt V e; omega
  · rw [F3 _ _ (by omega) (by omega) (by omega) (by omega), F _ _ (by omega)]; exact Z.2
  · unfold cf_er at z
    rw [F3 _ _ (by omega) (by omega) (by omega) (by omega), F _ _ (by omega)]
  · exact cf_as_r (by omega) (by omega)
  · exact cf_as_r (by omega) (by omega)
  · rw [cf_as_r (by omega) (by omega)]; exact Nat.le_refl _
  · rw [cf_as_3]; omega
  · funext b; exact cf_as_r (by omega) (by omega)
