/-! The Floor, while it is made: findSteps, findLongSteps. -/
section RXE
variable {L : Nat} {hi : Nat → Nat → Int32} {hl : Nat → Nat → Int64} {v : Nat → Nat → Option Nat}
variable {RV : (Nat → Nat → Int32) → (Nat → Nat → Int64) → (Nat → Nat → Option Nat) → Prop}
theorem cf_oO_some (r : Nat) : oO (some r) = nI r := rfl
/-- one TURN, by what it leaves -/
theorem c17G {w h s b : Nat} (m : Nat) (K1 : cf_K1 w h hi) (K3 : cf_K3 w h hl) (hs : s < 256) (hsq : s % 64 < w * h) (hm : m = 3 ∨ m = 4) (hb : cf_step w h (s % 64) (cf_opp (s / 64 % 4)) = some b)
    (p1 : hi 10 (1280 + (256 * m + s)) = -1) (p2 : hl 12 (256 * (m - 3) + s) = 0) (p3 : hl 11 (256 + s) = cf_bt (s % 64) ||| cf_bt b)
    (k : ∀ hi2 hl2, (∀ a b, ¬ (a = 10 ∧ b = 1280 + (256 * m + s)) → hi2 a b = hi a b) → (∀ a b, ¬ (a = 12 ∧ b = 256 * (m - 3) + s) → hl2 a b = hl a b) → hi2 10 (1280 + (256 * m + s)) = oO (cf_mv w h true s m) → hl2 12 (256 * (m - 3) + s) = cf_four w h s m → RV hi2 hl2 v) : rx_CVF L 17 [.ref 7, .int (nI s), .int (nI m), .int (nI (cf_to s m))] hi hl v RV := by
  have hto : cf_to s m < 4 := by unfold cf_to cf_lf cf_rt; split <;> omega
  have m0 : ¬ m = 0 := by omega
  have m1 : ¬ m = 1 := by omega
  have m2 : ¬ m = 2 := by omega
  refine c17F K1 K3 hs hsq hm hto hb (fun e => k hi hl (fun _ _ _ => rfl) (fun _ _ _ => rfl) ?_ ?_) (fun n c e => k _ _ (fun a b q => cf_ru_ne q) (fun a b q => cf_ru_ne q) ?_ ?_)
  · have e2 : cf_mv w h true s m = none := by
      unfold cf_mv; rw [if_neg m0, cond_true, if_neg m1, if_neg m2]; simp only [e]
    rw [p1, e2]; rfl
  · have e2 : cf_four w h s m = 0 := by unfold cf_four; simp only [e]
    rw [p2, e2]
  · have e2 : cf_mv w h true s m = some (n + 64 * cf_to s m) := by
      unfold cf_mv; rw [if_neg m0, cond_true, if_neg m1, if_neg m2]; simp only [e]
    rw [cf_ru_eq, e2]; rfl
  · have e2 : cf_four w h s m = cf_bt (s % 64) ||| cf_bt b ||| cf_bt n ||| cf_bt c := by unfold cf_four; simp only [e]
    rw [cf_ru_eq, e2, p3]
theorem c10F {w h s : Nat} (K1 : cf_K1 w h hi) (K3 : cf_K3 w h hl) (hs : s < 256) (hsq : s % 64 < w * h)
    (k : ∀ hi2, (∀ a b, ¬ (a = 10 ∧ b < 1280 ∧ b % 256 = s) → hi2 a b = hi a b) → (∀ m, m < 5 → hi2 10 (256 * m + s) = oO (cf_mv w h false s m)) → RV hi2 (rx_u hl 11 s (cf_bt (s % 64))) v) : rx_CVF L 10 [.ref 7, .int (nI s)] hi hl v RV := by
  have hwh := cf_wh K1
  have K3' : cf_K3 w h (rx_u hl 11 s (cf_bt (s % 64))) := cf_K3_u K3 (fun b => cf_ru_ne (by omega))
  have lp : ∀ e d, d + e = 4 → ∀ hi2 : Nat → Nat → Int32, (∀ a b, ¬ (a = 10 ∧ b < 1280 ∧ b % 256 = s) → hi2 a b = hi a b) → (∀ m, m < d + 1 → hi2 10 (256 * m + s) = oO (cf_mv w h false s m)) → rx_aw 10 24 [.ref 7, .int (nI s), .int (nI (s % 64)), .int (nI d)] [] (rx_hF L hi2 (rx_u hl 11 s (cf_bt (s % 64))) v) (fun r h2 => r = none ∧ rx_okF L h2 RV) := by
    intro e
    induction e with
    | zero =>
      intro d hd hi2 F W
      refine w10_findSteps_24F ⟨fun g => c_retVF (k hi2 F (fun m hm => W m (by omega))), fun g => absurd ?_ g⟩
      rw [show (4 : Int32) = nI 4 from rfl, cf_nle (by omega) (by omega)]; omega
    | succ e ih =>
      intro d hd hi2 F W
      have K1' := cf_K1_u K1 (fun b => F 7 b (by omega))
      refine w10_findSteps_24F ⟨fun g => ?_, fun g => c11F K1' K3' hsq (by omega) (c14F (fun r er => cf_step_64 hwh hsq er) ⟨256 * (d + 1) + s, ?_, by omega, ?_⟩)⟩
      · rw [show (4 : Int32) = nI 4 from rfl, cf_nle (by omega) (by omega)] at g; omega
      · rw [show (1 : Int32) = nI 1 from rfl, show (256 : Int32) = nI 256 from rfl, nI_add, cf_nmul, nI_add]; congr 1; omega
      · rw [show nI d + 1 = nI (d + 1) from nI_add d 1]
        refine ih (d + 1) (by omega) _ (fun a b q => ?_) (fun m hm => ?_)
        · rw [cf_ru_ne (by omega)]; exact F a b q
        · by_cases em : m = d + 1
          · subst em
            rw [cf_ru_eq]
            unfold cf_mv
            rw [if_neg (by omega), cond_false]
            rfl
          · rw [cf_ru_ne (by omega)]; exact W m (by omega)
  refine w10_findStepsF (c8F (c9F (by omega) ⟨s, rfl, by omega, s, rfl, by omega, ?_⟩))
  refine lp 4 0 rfl _ (fun a b q => cf_ru_ne (by omega)) (fun m hm => ?_)
  have : m = 0 := by omega
  subst this
  rw [show 256 * 0 + s = s by omega, cf_ru_eq]
  unfold cf_mv
  rw [if_pos rfl, Nat.mod_eq_of_lt hs]
  rfl
theorem c15F {w h s : Nat} (K1 : cf_K1 w h hi) (K3 : cf_K3 w h hl) (hs : s < 256) (hsq : s % 64 < w * h) (p3 : ∀ m, 3 ≤ m → m < 5 → hi 10 (1280 + (256 * m + s)) = -1) (q1 : hl 11 (256 + s) = 0) (q2 : hl 12 s = 0) (q3 : hl 12 (256 + s) = 0)
    (k : ∀ hi2 hl2, (∀ a b, ¬ (a = 10 ∧ 1280 ≤ b ∧ b % 256 = s) → hi2 a b = hi a b) → (∀ a b, ¬ ((a = 11 ∧ b = 256 + s) ∨ (a = 12 ∧ b % 256 = s)) → hl2 a b = hl a b) → hl2 11 (256 + s) = cf_std w h true s → hl2 12 s = cf_four w h s 3 → hl2 12 (256 + s) = cf_four w h s 4 → (cf_vs w h true s → ∀ m, m < 5 → hi2 10 (1280 + (256 * m + s)) = oO (cf_mv w h true s m)) → RV hi2 hl2 v) : rx_CVF L 15 [.ref 7, .int (nI s)] hi hl v RV := by
  have hwh := cf_wh K1
  have hd : s / 64 % 4 < 4 := by omega
  refine w15_findLongStepsF (c8F (c16F (by omega) ?_))
  rw [cf_xor2 hd]
  refine c11F K1 K3 hsq (cf_opp_lt _) ⟨fun c => ?_, fun c => ?_⟩
  · obtain ⟨b, hb⟩ := (cf_oO_le _ (fun r er => by have := cf_step_64 hwh hsq er; omega)).mp c
    have hbl := cf_step_lt hsq hb
    have hb64 := cf_step_64 hwh hsq hb
    have fin : ∀ hi3 : Nat → Nat → Int32, (∀ a b, ¬ (a = 10 ∧ 1280 ≤ b ∧ b % 256 = s) → hi3 a b = hi a b) → (∀ m, 3 ≤ m → m < 5 → hi3 10 (1280 + (256 * m + s)) = -1) → (∀ m, m < 3 → hi3 10 (1280 + (256 * m + s)) = oO (cf_mv w h true s m)) → rx_CVF L 17 [.ref 7, .int (nI s), .int (3 : Int32), .int (nI (cf_lf (s / 64 % 4)))] hi3 (rx_u hl 11 (256 + s) (cf_bt (s % 64) ||| cf_bt b)) v (fun hi4 hl4 v4 => rx_CVF L 17 [.ref 7, .int (nI s), .int (4 : Int32), .int (nI (cf_rt (s / 64 % 4)))] hi4 hl4 v4 (fun hi5 hl5 v5 => (none : Option Value) = none ∧ rx_okF L (rx_hF L hi5 hl5 v5) RV)) := by
      intro hi3 F W3 W
      have K1a := cf_K1_u K1 (fun b => F 7 b (by omega))
      have K3a : cf_K3 w h (rx_u hl 11 (256 + s) (cf_bt (s % 64) ||| cf_bt b)) := cf_K3_u K3 (fun b => cf_ru_ne (by omega))
      refine c17G 3 K1a K3a hs hsq (Or.inl rfl) hb (W3 3 (by omega) (by omega)) ?_ cf_ru_eq (fun hi4 hl4 F4 G4 E4 X4 => ?_)
      · rw [cf_ru_ne (by omega), show 256 * (3 - 3) + s = s by omega]; exact q2
      have K1b := cf_K1_u K1a (fun b => F4 7 b (by omega))
      have K3b := cf_K3_u K3a (fun b => G4 7 b (by omega))
      refine c17G 4 K1b K3b hs hsq (Or.inr rfl) hb ?_ ?_ ?_ (fun hi5 hl5 F5 G5 E5 X5 => c_retVF (k hi5 hl5 (fun a b q => ?_) (fun a b q => ?_) ?_ ?_ ?_ (fun _ m hm => ?_)))
      · rw [F4 _ _ (by omega)]; exact W3 4 (by omega) (by omega)
      · rw [G4 _ _ (by omega), cf_ru_ne (by omega), show 256 * (4 - 3) + s = 256 + s by omega]; exact q3
      · rw [G4 _ _ (by omega), cf_ru_eq]
      · rw [F5 _ _ (by omega), F4 _ _ (by omega)]; exact F a b q
      · rw [G5 _ _ (by omega), G4 _ _ (by omega)]; exact cf_ru_ne (by omega)
      · rw [G5 _ _ (by omega), G4 _ _ (by omega), cf_ru_eq]
        unfold cf_std
        rw [cond_true]
        simp only [hb]
      · rw [G5 _ _ (by omega)]
        rw [show 256 * (3 - 3) + s = s by omega] at X4
        exact X4
      · rw [show 256 * (4 - 3) + s = 256 + s by omega] at X5
        exact X5
      · by_cases m4 : m = 4
        · subst m4; exact E5
        · rw [F5 _ _ (by omega)]
          by_cases m3 : m = 3
          · subst m3; exact E4
          · rw [F4 _ _ (by omega)]; exact W m (by omega)
    rw [hb, cf_oO_some]
    refine c9F (by omega) (c9F hb64 ⟨256 + s, ?_, by omega, 1280 + s, ?_, by omega, ?_⟩)
    · rw [show (256 : Int32) = nI 256 from rfl, nI_add]
    · rw [show (1280 : Int32) = nI 1280 from rfl, nI_add]
    have K1a : cf_K1 w h (rx_u hi 10 (1280 + s) (nI s)) := cf_K1_u K1 (fun b => cf_ru_ne (by omega))
    have K3a : cf_K3 w h (rx_u hl 11 (256 + s) (cf_bt (s % 64) ||| cf_bt b)) := cf_K3_u K3 (fun b => cf_ru_ne (by omega))
    refine c11F K1a K3a hsq hd (c14F (fun r er => cf_step_64 hwh hsq er) ⟨1536 + s, ?_, by omega, ?_⟩)
    · rw [show (1536 : Int32) = nI 1536 from rfl, nI_add]
    have K1b : cf_K1 w h (rx_u (rx_u hi 10 (1280 + s) (nI s)) 10 (1536 + s) (oO ((cf_step w h (s % 64) (s / 64 % 4)).map (fun q => q + 64 * (s / 64 % 4))))) := cf_K1_u K1a (fun b => cf_ru_ne (by omega))
    have e0 : cf_mv w h true s 0 = some s := by unfold cf_mv; rw [if_pos rfl, Nat.mod_eq_of_lt hs]
    have e1 : cf_mv w h true s 1 = (cf_step w h (s % 64) (s / 64 % 4)).map (fun q => q + 64 * (s / 64 % 4)) := by unfold cf_mv; rw [if_neg (by omega), cond_true, if_pos rfl]
    have use : ∀ x : Int32, x = oO (cf_mv w h true s 2) → rx_CVF L 17 [.ref 7, .int (nI s), .int (3 : Int32), .int (nI (cf_lf (s / 64 % 4)))] (rx_u (rx_u (rx_u hi 10 (1280 + s) (nI s)) 10 (1536 + s) (oO ((cf_step w h (s % 64) (s / 64 % 4)).map (fun q => q + 64 * (s / 64 % 4))))) 10 (1792 + s) x) (rx_u hl 11 (256 + s) (cf_bt (s % 64) ||| cf_bt b)) v (fun hi4 hl4 v4 => rx_CVF L 17 [.ref 7, .int (nI s), .int (4 : Int32), .int (nI (cf_rt (s / 64 % 4)))] hi4 hl4 v4 (fun hi5 hl5 v5 => (none : Option Value) = none ∧ rx_okF L (rx_hF L hi5 hl5 v5) RV)) := by
      intro x ex
      refine fin _ (fun a b q => ?_) (fun m m3 m5 => ?_) (fun m hm => ?_)
      · rw [cf_ru_ne (by omega), cf_ru_ne (by omega), cf_ru_ne (by omega)]
      · rw [cf_ru_ne (by omega), cf_ru_ne (by omega), cf_ru_ne (by omega)]; exact p3 m m3 m5
      · match m, hm with
        | 0, _ =>
          rw [cf_ru_ne (by omega), cf_ru_ne (by omega), show 1280 + (256 * 0 + s) = 1280 + s by omega, cf_ru_eq, e0]; rfl
        | 1, _ =>
          rw [cf_ru_ne (by omega), show 1280 + (256 * 1 + s) = 1536 + s by omega, cf_ru_eq, e1]
        | 2, _ =>
          rw [show 1280 + (256 * 2 + s) = 1792 + s by omega, cf_ru_eq, ex]
    refine c11F K1b K3a hbl (cf_opp_lt _) ⟨fun c2 => ⟨1792 + s, ?_, by omega, ?_⟩, fun c2 => ?_⟩
    · rw [show (1792 : Int32) = nI 1792 from rfl, nI_add]
    · rw [(cf_an3 hd).1, (cf_an3 hd).2]
      rw [cf_oO_neg (fun r er => cf_step_64 hwh hbl er)] at c2
      refine use _ ?_
      unfold cf_mv
      rw [if_neg (by omega), cond_true, if_neg (by omega), if_pos rfl]
      simp only [hb, c2]
      rfl
    · rw [cf_oO_neg (fun r er => cf_step_64 hwh hbl er)] at c2
      refine c14F (o := some b) (fun r er => by cases er; exact hb64) ⟨1792 + s, ?_, by omega, ?_⟩
      · rw [show (1792 : Int32) = nI 1792 from rfl, nI_add]
      · rw [(cf_an3 hd).1, (cf_an3 hd).2]
        refine use _ ?_
        obtain ⟨b2, hb2⟩ : ∃ b2, cf_step w h b (cf_opp (s / 64 % 4)) = some b2 := by
          cases e : cf_step w h b (cf_opp (s / 64 % 4)) with
          | none => exact absurd e c2
          | some x => exact ⟨x, rfl⟩
        unfold cf_mv
        rw [if_neg (by omega), cond_true, if_neg (by omega), if_pos rfl]
        simp only [hb, hb2]
        rfl
  · have hb : cf_step w h (s % 64) (cf_opp (s / 64 % 4)) = none := by
      cases e : cf_step w h (s % 64) (cf_opp (s / 64 % 4)) with
      | none => rfl
      | some x =>
        rw [e] at c
        exact absurd (nI_pos' (by have := cf_step_64 hwh hsq e; omega)) c
    have ht : ∀ to, cf_tn w h s to = none := fun to => by unfold cf_tn; simp only [hb]
    refine c_retVF (k hi hl (fun _ _ _ => rfl) (fun _ _ _ => rfl) ?_ ?_ ?_ (fun vs => absurd hb (vs.2 rfl)))
    · rw [q1]; unfold cf_std; rw [cond_true]; simp only [hb]
    · rw [q2]; unfold cf_four; simp only [ht]
    · rw [q3]; unfold cf_four; simp only [ht]
end RXE
