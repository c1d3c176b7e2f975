/-! guest() of the reference. -/
theorem cf_fw2_H0 {S : cf_S} {c T : Nat} {tm : Nat → Nat} (H : cf_H0 S) : cf_H0 (cf_fw2 S c T tm) := by
  have rr : ∀ a b, ¬ a = 4 → a < 20 → cf_fw2 S c T tm a b = S a b := fun a b h h2 => cf_fw2_r (by omega) (by omega)
  intro o s ho hs e
  rw [rr 0 2 (by omega) (by omega)] at ho
  rw [rr 0 3 (by omega) (by omega)] at hs
  rw [rr 9 _ (by omega) (by omega)] at e ⊢
  rw [rr 12 _ (by omega) (by omega)]; exact H o s ho hs e
section RXE
variable {L : Nat} {t : List (Nat × Nat)} {v : Nat → Nat → Option Nat}
variable {RI : Int32 → (Nat → Nat → Int32) → (Nat → Nat → Int64) → (Nat → Nat → Option Nat) → Prop}
theorem c217 {hi : Nat → Nat → Int32} {hl : Nat → Nat → Int64} {S : cf_S} (Z : cf_RM S hi hl) {x : Int32} {T : Nat} {tm : Nat → Nat} (hT : T ≤ 400) (e25 : hi 90 25 = nI T) (htm : ∀ j, j < T → tm j < 7 ∧ hi 109 j = nI (tm j))
    (k0 : cf_gz S (cf_cn (S 0 2) x) → RI (-2) hi hl v)
    (k1 : ∀ c, c < S 0 2 → c + 1 = cf_cn (S 0 2) x → ¬ cf_gz S (c + 1) → ∀ nl, (∀ s, nl.testBit s = cf_fo S c s) → cf_fb (cf_vb (cf_fw2 S c T tm) (c + 1) nl T c) T 402 < 0 → ∀ hi2 hl2, cf_fK hi hi2 → cf_fwl hl hl2 → cf_RM S hi2 hl2 → RI (cf_fb (cf_vb (cf_fw2 S c T tm) (c + 1) nl T c) T 402) hi2 hl2 v)
    (k2 : ∀ c, c < S 0 2 → c + 1 = cf_cn (S 0 2) x → ¬ cf_gz S (c + 1) → ∀ nl, (∀ s, nl.testBit s = cf_fo S c s) → ¬ cf_fb (cf_vb (cf_fw2 S c T tm) (c + 1) nl T c) T 402 < 0 → ∀ hi2 hl2, cf_fK hi hi2 → cf_fwl hl hl2 → cf_RM (cf_fw2 S c T tm) hi2 hl2 → RI (cf_fb (cf_vb (cf_fw2 S c T tm) (c + 1) nl T c) T 402) hi2 hl2 v) : rx_CI L t 217 [.ref 90, .int x] hi hl v RI := by
  obtain ⟨V, H, M, K, N⟩ := id Z
  have h6 := V.2.2.1
  refine w217_guest_r (c161 V M ⟨fun g => c_retI (k0 (Or.inl ?_)), fun g => ?_⟩)
  · have := cf_B_eq g
    rw [decide_eq_false_iff_not] at this; omega
  have g := cf_B_ne g
  rw [decide_eq_true_iff] at g
  obtain ⟨ex, hc⟩ := cf_cn_x h6 g
  have hcn : cf_cn (S 0 2) x - 1 + 1 = cf_cn (S 0 2) x := by omega
  have kz := k0
  rw [← hcn] at kz
  revert ex hc hcn kz
  generalize cf_cn (S 0 2) x - 1 = c
  intro ex hc hcn kz
  subst ex
  have hM := M.2.2.2.2.2.1 c hc
  have v4 := (V.2.2.2.2.2.2.1 c hc).2.2.2.1
  have v3 := (V.2.2.2.2.2.2.1 c hc).1
  have z0 : ((0 : Int32)).toInt = 0 := rfl
  refine ⟨c, rfl, by omega, fun g3 => ⟨c, rfl, by omega, fun g4 => ?_, fun g4 => c_retI (kz (Or.inr (Or.inr (Or.inl ?_))))⟩, fun g3 => c_retI (kz (Or.inr (Or.inl ?_)))⟩
  rotate_left
  · rw [hM.2.1, cf_le', nI_toInt (by omega), z0] at g4
    rw [Nat.add_sub_cancel]; omega
  · rw [hM.1, show (3 : Int32) = nI 3 from rfl, nI_eq (by omega) (by omega)] at g3
    rw [Nat.add_sub_cancel]; exact g3
  rw [hM.1, show (3 : Int32) = nI 3 from rfl, nI_eq (by omega) (by omega)] at g3
  have h4 : S 4 c = 0 := by
    rw [hM.2.1, cf_le', nI_toInt (by omega), z0] at g4; omega
  have V' := cf_fw2_V (S := S) V hc hT (fun j hj => (htm j hj).1)
  have lp : ∀ d i, i + d = S 0 2 → cf_any (fun o => !decide (S 3 o = 3) && decide (0 < S 4 o)) i = false → rx_aw 217 32 [.ref 90, .int (nI c), .int (nI i)] [] (rx_hp L t hi hl v) (fun r h2 => ∃ z : Int32, r = some (.int z) ∧ rx_ok2 L t h2 (RI z)) := by
    intro d
    induction d with
    | zero =>
      intro i hid ha
      have : i = S 0 2 := by omega
      subst this
      refine w217_guest_r_32 ⟨fun _ => ?_, fun g => absurd ?_ g⟩
      · have hg : ¬ cf_gz S (c + 1) := by
          rintro (q | q | q | q)
          · omega
          · rw [Nat.add_sub_cancel] at q; exact q g3
          · rw [Nat.add_sub_cancel] at q; omega
          · rw [ha] at q; cases q
        refine c214 Z hT e25 htm (fun q => by omega) (fun c' _ hc' q nl hnl hi2 hl2 F2 Fl2 Z2 => ?_)
        have : c' = c := by omega
        subst this
        refine ⟨fun z => c_retI (k1 c' hc hcn hg nl hnl z hi2 hl2 F2 Fl2 Z2), fun z => ?_⟩
        refine c216 V Z2.2.2.1 (tm := tm) hc hT ((F2 _ _ (by omega) (by omega) (by omega) (by omega) (by omega)).trans e25) (fun j hj => (F2 _ _ (by omega) (by omega) (by omega) (by omega) (by omega)).trans (htm j hj).2) (fun hi3 F3 M3 => ?_)
        obtain ⟨K1, kn, K2, K3⟩ := Z2.2.2.2.1
        refine c191w V' (cf_fw2_H0 H) M3 ⟨(F3 _ _ (by omega) (by omega)).trans K1, kn, (F3 _ _ (by omega) (by omega)).trans K2, K3⟩ (fun hi4 hl4 F4 Fl4 M4 K4 N4 => c_retI (k2 c' hc hcn hg nl hnl z hi4 hl4 (fun a b q1 q2 q3 q4 q5 => ?_) (fun a b q1 q2 => ?_) ⟨V', cf_fw2_H0 H, M4, K4, N4⟩))
        · rw [F4 a b (by omega) (by omega) q4, F3 a b (by omega) (by omega), F2 a b q1 q2 q3 q4 q5]
        · rw [Fl4 a b q1 q2, Fl2 a b q1 q2]
      · rw [M.2.1, cf_nle (by omega) (by omega)]; omega
    | succ d ih =>
      intro i hid ha
      have hMi := M.2.2.2.2.2.1 i (by omega)
      have v4i := (V.2.2.2.2.2.2.1 i (by omega)).2.2.2.1
      have v3i := (V.2.2.2.2.2.2.1 i (by omega)).1
      have nx : (!decide (S 3 i = 3) && decide (0 < S 4 i)) = false → rx_aw 217 32 [.ref 90, .int (nI c), .int (nI i + 1)] [] (rx_hp L t hi hl v) (fun r h2 => ∃ z : Int32, r = some (.int z) ∧ rx_ok2 L t h2 (RI z)) := fun z => by
        rw [show nI i + 1 = nI (i + 1) from nI_add i 1]
        exact ih (i + 1) (by omega) (by rw [cf_any, ha, z]; rfl)
      refine w217_guest_r_32 ⟨fun g => ?_, fun _ => ⟨i, rfl, by omega, fun g => nx ?_, fun g => ⟨i, rfl, by omega, fun g2 => nx ?_, fun g2 => c_retI (kz (Or.inr (Or.inr (Or.inr ?_))))⟩⟩⟩
      · rw [M.2.1, cf_nle (by omega) (by omega)] at g; omega
      · rw [hMi.1, show (3 : Int32) = nI 3 from rfl, nI_eq (by omega) (by omega)] at g
        rw [decide_eq_true g]; rfl
      · rw [hMi.2.1, cf_le', nI_toInt (by omega), z0] at g2
        rw [decide_eq_false (show ¬ 0 < S 4 i by omega), Bool.and_false]
      · rw [hMi.2.1, cf_le', nI_toInt (by omega), z0] at g2
        rw [hMi.1, show (3 : Int32) = nI 3 from rfl, nI_eq (by omega) (by omega)] at g
        refine cf_any_true (i := i) (by omega) ?_
        rw [decide_eq_false g, decide_eq_true (show 0 < S 4 i by omega)]; rfl
  exact lp (S 0 2) 0 (by omega) rfl
end RXE
theorem cf_pr_guest {L : Nat} {t : List (Nat × Nat)} (x : Int32) : cf_pr L t 106 217 [.int x] := by
  intro S ls hi hl v R
  obtain ⟨I, A, Z, E⟩ := id R
  obtain ⟨T, tm, hT, e5, e25, htm⟩ := cf_Et_tm E.2.1
  have same : ∀ c nl, c < S 0 2 → (∀ s, nl.testBit s = cf_fo S c s) → cf_jr S c (cf_tmv T tm) T (max T (cf_set S) + 2) 0 (S 9 c) (S 12) 0 0 = cf_fb (cf_vb (cf_fw2 S c T tm) (c + 1) nl T c) T 402 := fun c nl hc hnl => cf_jr_fb I.1 I.2.1 hT (fun j hj => (htm j hj).1) hnl hc
  have gz : ∀ c, c + 1 = cf_cn (S 0 2) x → ¬ cf_gz S (c + 1) → ¬ cf_gz S (cf_cn (S 0 2) x) := fun c e h => by rw [← e]; exact h
  refine c106 A hT e5 (fun j hj => ⟨(htm j hj).1, (htm j hj).2.1⟩) (fun h0 => c217 Z.1 hT e25 (fun j hj => ⟨(htm j hj).1, (htm j hj).2.2⟩) (fun _ => ⟨rfl, S, ls, R⟩) (fun c _ e q => absurd h0 (gz c e q)) (fun c _ e q => absurd h0 (gz c e q))) (fun c hc hcn hg hz hi2 F => ?_) (fun c hc hcn hg hz hi2 hl2 F Fl A2 => ?_)
  · have Z2 := cf_rel_Z (hi2 := hi2) (hl2 := hl) R (fun a b q => F a b (by omega) (by omega)) (fun _ _ _ => rfl)
    refine c217 Z2 hT ((F _ _ (by omega) (by omega)).trans e25) (fun j hj => ⟨(htm j hj).1, (F _ _ (by omega) (by omega)).trans (htm j hj).2.2⟩) (fun q => absurd q (gz c hcn hg)) (fun c' hc' e' _ nl hnl z hi3 hl3 F3 Fl3 Z3 => ?_) (fun c' hc' e' _ nl hnl z => ?_)
    · have : c' = c := by omega
      subst this
      refine ⟨(same c' nl hc hnl).symm, S, ls, I, ?_, ⟨Z3, ?_⟩, ?_⟩
      · exact cf_A_ext A (fun a b q1 q2 => (F3 a b (by omega) (by omega) (by omega) (by omega) (by omega)).trans (F a b (by omega) (by omega))) (fun a b q1 q2 => Fl3 a b (by omega) (by omega))
      · rw [F3 _ _ (by omega) (by omega) (by omega) (by omega) (by omega), F _ _ (by omega) (by omega)]; exact Z.2
      · refine cf_E_ext E (fun a b q => ?_) (fun _ => rfl) rfl
        unfold cf_er at q
        rw [F3 a b (by omega) (by omega) (by omega) (by omega) (by omega), F a b (by omega) (by omega)]
    · have : c' = c := by omega
      subst this
      rw [same c' nl hc hnl] at hz; exact absurd hz z
  · have Z2 := cf_rel_Z (hi2 := hi2) (hl2 := hl2) R (fun a b q => F a b (by omega) (by omega) (by omega)) (fun a b q => Fl a b (by omega))
    refine c217 Z2 hT ((F _ _ (by omega) (by omega) (by omega)).trans e25) (fun j hj => ⟨(htm j hj).1, (F _ _ (by omega) (by omega) (by omega)).trans (htm j hj).2.2⟩) (fun q => absurd q (gz c hcn hg)) (fun c' hc' e' _ nl hnl z => ?_) (fun c' hc' e' _ nl hnl z hi3 hl3 F3 Fl3 Z3 => ?_)
    · have : c' = c := by omega
      subst this
      rw [same c' nl hc hnl] at hz; exact absurd z hz
    · have : c' = c := by omega
      subst this
      have rr : ∀ a b, ¬ a = 4 → a < 20 → cf_fw2 S c' T tm a b = S a b := fun a b h h2 => cf_fw2_r (by omega) (by omega)
      have h3 : S 3 c' = 3 := Classical.byContradiction fun q => hg (Or.inr (Or.inl (by rw [Nat.add_sub_cancel]; exact q)))
      have h4 : S 4 c' = 0 := by
        rcases Nat.eq_zero_or_pos (S 4 c') with q | q
        · exact q
        · exact absurd (Or.inr (Or.inr (Or.inl (by rw [Nat.add_sub_cancel]; exact q)))) hg
      have nb := (cf_fb_no 402 (Nat.le_refl _) z).2
      refine ⟨(same c' nl hc hnl).symm, cf_fw2 S c' T tm, ls, cf_Ir_fw I hc h3 h4 hT (fun j hj => (htm j hj).1) (fun u hu => nb u (by omega) hu), ?_, ⟨Z3, ?_⟩, ?_⟩
      · exact cf_A_ext A2 (fun a b q1 q2 => F3 a b (by omega) (by omega) (by omega) (by omega) (by omega)) (fun a b q1 q2 => Fl3 a b (by omega) (by omega))
      · rw [F3 _ _ (by omega) (by omega) (by omega) (by omega) (by omega), F _ _ (by omega) (by omega) (by omega)]; exact Z.2
      · refine cf_E_S (cf_E_ext E (fun a b q => ?_) (fun _ => rfl) rfl) (funext fun b => rr 0 b (by omega) (by omega)) (funext fun b => rr 2 b (by omega) (by omega))
        unfold cf_er at q
        rw [F3 a b (by omega) (by omega) (by omega) (by omega) (by omega), F a b (by omega) (by omega) (by omega)]
