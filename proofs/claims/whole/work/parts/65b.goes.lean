section RXE
variable {L : Nat} {t : List (Nat × Nat)} {hi : Nat → Nat → Int32} {hl : Nat → Nat → Int64} {v : Nat → Nat → Option Nat}
variable {RI : Int32 → (Nat → Nat → Int32) → (Nat → Nat → Int64) → (Nat → Nat → Option Nat) → Prop}
variable {RL : Int64 → (Nat → Nat → Int32) → (Nat → Nat → Int64) → (Nat → Nat → Option Nat) → Prop}
variable {RV : (Nat → Nat → Int32) → (Nat → Nat → Int64) → (Nat → Nat → Option Nat) → Prop}
/-- only newSquare and newHeading have changed -/
def cf_fg (hi hi2 : Nat → Nat → Int32) : Prop := ∀ a b, ¬ (a = 90 ∧ (b = 33 ∨ b = 34)) → hi2 a b = hi a b
theorem cf_K4_fg {w h : Nat} {hi hi2 : Nat → Nat → Int32} (K : cf_K4 w h hi) (F : cf_fg hi hi2) : cf_K4 w h hi2 := by
  obtain ⟨a, b, c, d, e, f, g⟩ := K
  exact ⟨a, b, c, d, (F 90 0 (by omega)).trans e, (F 90 1 (by omega)).trans f, (F 90 2 (by omega)).trans g⟩
theorem cf_fg_u {hi hi2 : Nat → Nat → Int32} (F : cf_fg hi hi2) {j : Nat} (hj : j = 33 ∨ j = 34) {x : Int32} : cf_fg hi (rx_u hi2 90 j x) := by
  intro a b h
  rw [cf_ru_ne (by omega)]; exact F a b h
theorem c184 {w h : Nat} (K : cf_K4 w h hi) {kd q d m : Nat} (hk : kd < 4) (hd : d < 4) (hm : m < 5) (hs : cf_vs w h (cf_two kd) (q + 64 * d)) (hq : q < w * h)
    (k0 : cf_mv w h (cf_two kd) (q + 64 * d) m = none → ∀ hi2, cf_fg hi hi2 → RI 0 hi2 hl v)
    (k1 : ∀ r, cf_mv w h (cf_two kd) (q + 64 * d) m = some r → ∀ hi2, cf_fg hi hi2 → hi2 90 33 = nI (r % 64) → hi2 90 34 = nI (r / 64 % 4) → RI 1 hi2 hl v) :
    rx_CI L t 184 [.ref 90, .int (nI kd), .int (nI q), .int (nI d), .int (nI m)] hi hl v RI := by
  have hwh := cf_wh4 K
  obtain ⟨g1, g2⟩ := cf_cod (show q < 64 by omega) hd
  have F0 : cf_fg hi (rx_u (rx_u hi 90 33 (nI q)) 90 34 (nI d)) := cf_fg_u (cf_fg_u (fun _ _ _ => rfl) (Or.inl rfl)) (Or.inr rfl)
  have K0 := cf_K4_fg K F0
  have i1 : (1 : Int32) = nI 1 := rfl
  have i2 : (2 : Int32) = nI 2 := rfl
  have i3 : (3 : Int32) = nI 3 := rfl
  have e1 : nI m = (1 : Int32) ↔ m = 1 := by rw [i1, nI_eq (by omega) (by decide)]
  have e3 : nI m = (3 : Int32) ↔ m = 3 := by rw [i3, nI_eq (by omega) (by decide)]
  have e2 : (2 : Int32) < nI m ↔ 2 < m := by rw [i2, nI_ltI (by decide) (by omega)]
  have e0 : nI m = 0 ↔ m = 0 := by rw [show (0 : Int32) = nI 0 from rfl, nI_eq (by omega) (by decide)]
  refine w184_goes_r ⟨fun c => c_retI ?_, fun c => c180 hk ⟨fun c2 => ?_, fun c2 => ⟨fun c3 => ?_, fun c3 => ⟨fun c4 => ?_, fun c4 => ?_⟩⟩⟩⟩
  · have hm0 := e0.mp c
    subst hm0
    refine k1 (q + 64 * d) ?_ _ F0 ?_ ?_
    · unfold cf_mv; rw [if_pos rfl]; congr 1; omega
    · rw [cf_ru_ne (by omega), cf_ru_eq, g1]
    · rw [cf_ru_eq, g2]
  · -- carts of one square
    have h2 := cf_B_eq c2
    have hm0 : ¬ m = 0 := mt e0.mpr c
    rw [i1, cf_nsub (show 1 ≤ m by omega)]
    refine c181 (cf_K4_fg K (cf_fg_u F0 (Or.inr rfl))) hq (by omega) ?_
    rw [cf_ru_eq]
    have emv : cf_mv w h (cf_two kd) (q + 64 * d) m = (cf_step w h q (m - 1)).map (fun q => q + 64 * (m - 1)) := by
      unfold cf_mv; rw [if_neg hm0, h2, cond_false, g1]
    cases e : cf_step w h q (m - 1) with
    | none =>
      rw [e] at emv
      exact ⟨fun _ => c_retI (k0 emv _ (cf_fg_u (cf_fg_u F0 (Or.inr rfl)) (Or.inl rfl))), fun g => absurd (by decide) g⟩
    | some p =>
      rw [e] at emv
      have hp := cf_step_64 hwh hq e
      obtain ⟨g3, g4⟩ := cf_cod hp (show m - 1 < 4 by omega)
      refine ⟨fun g => absurd g (nI_pos (by omega)), fun _ => c_retI (k1 _ emv _ (cf_fg_u (cf_fg_u F0 (Or.inr rfl)) (Or.inl rfl)) ?_ ?_)⟩
      · rw [cf_ru_eq]; show nI p = nI ((p + 64 * (m - 1)) % 64); rw [g3]
      · rw [cf_ru_ne (by omega), cf_ru_eq]; show nI (m - 1) = nI ((p + 64 * (m - 1)) / 64 % 4); rw [g4]
  · -- turns
    have h2 := cf_B_ne c2
    rw [e2] at c3
    have hm0 : ¬ m = 0 := by omega
    have emv : cf_mv w h (cf_two kd) (q + 64 * d) m = (match cf_tn w h (q + 64 * d) (cf_to (q + 64 * d) m) with
       | none => none
       | some (_, n, _) => some (n + 64 * cf_to (q + 64 * d) m)) := by
      unfold cf_mv; rw [if_neg hm0, h2, cond_true, if_neg (by omega), if_neg (by omega)]; rfl
    refine c185 K0 hq hd (by omega) ⟨fun c5 => c_retI ?_, fun c5 => ?_⟩
    · rw [cf_cmp0] at c5
      cases e : cf_tn w h (q + 64 * d) (cf_to (q + 64 * d) m) with
      | none => rw [e] at emv; exact k0 emv _ F0
      | some x =>
        obtain ⟨b, n, x⟩ := x
        exact absurd c5 (cf_four_ne e)
    · rw [cf_cmp0] at c5
      cases e : cf_tn w h (q + 64 * d) (cf_to (q + 64 * d) m) with
      | none => exact absurd (by unfold cf_four; rw [e]) c5
      | some x =>
        obtain ⟨b, n, x⟩ := x
        rw [e] at emv
        obtain ⟨s1, s2, s3⟩ := cf_tn_some e
        rw [g1, g2] at s1
        have hb := cf_step_lt hq s1
        have hn := cf_step_64 hwh hb s2
        have hto := cf_to_lt (q + 64 * d) m
        obtain ⟨g3, g4⟩ := cf_cod hn hto
        have fin : ∀ to, cf_to (q + 64 * d) m = to → rx_CI L t 181 [.ref 90, .int (nI q), .int (nI (cf_opp d))] (rx_u (rx_u (rx_u hi 90 33 (nI q)) 90 34 (nI d)) 90 34 (nI to)) hl v (fun z10 hi10 hl10 v10 => rx_CI L t 181 [.ref 90, .int z10, .int (hi10 90 34)] hi10 hl10 v10 (fun z11 hi11 hl11 v11 => ∃ z : Int32, some (Value.int 1) = some (.int z) ∧ rx_ok2 L t (rx_hp L t (rx_u hi11 90 33 z11) hl11 v11) (RI z))) := by
          intro to hto'
          subst hto'
          have F1 := cf_fg_u F0 (j := 34) (x := nI (cf_to (q + 64 * d) m)) (Or.inr rfl)
          have K1 := cf_K4_fg K F1
          refine c181 K1 hq (cf_opp_lt d) ?_
          rw [s1, cf_ru_eq]
          refine c181 K1 hb hto (c_retI ?_)
          rw [s2]
          refine k1 _ emv _ (cf_fg_u F1 (Or.inl rfl)) ?_ ?_
          · rw [cf_ru_eq, g3]; rfl
          · rw [cf_ru_ne (by omega), cf_ru_eq, g4]
        refine ⟨fun c6 => ?_, fun c6 => ?_⟩
        · have := fin (cf_lf d) (by unfold cf_to; rw [if_pos (e3.mp c6), g2])
          rw [i2, cf_rot d 2 hd (by decide), i3, cf_rot d 3 hd (by decide)]
          exact this
        · have := fin (cf_rt d) (by unfold cf_to; rw [if_neg (mt e3.mpr c6), g2])
          rw [i2, cf_rot d 2 hd (by decide), i1, cf_rot d 1 hd (by decide)]
          exact this
  · -- forward
    have h2 := cf_B_ne c2
    have hm1 := e1.mp c4
    subst hm1
    have emv : cf_mv w h (cf_two kd) (q + 64 * d) 1 = (cf_step w h q d).map (fun q => q + 64 * d) := by
      unfold cf_mv; rw [if_neg (by decide), h2, cond_true, if_pos rfl, g1, g2]
    refine c181 K0 hq hd ?_
    rw [cf_ru_eq]
    cases e : cf_step w h q d with
    | none =>
      rw [e] at emv
      exact ⟨fun _ => c_retI (k0 emv _ (cf_fg_u F0 (Or.inl rfl))), fun g => absurd (by decide) g⟩
    | some p =>
      rw [e] at emv
      have hp := cf_step_lt hq e
      obtain ⟨g3, g4⟩ := cf_cod (show p < 64 by omega) hd
      have F1 := cf_fg_u F0 (j := 33) (x := nI p) (Or.inl rfl)
      refine ⟨fun g => absurd g (nI_pos (by omega)), fun _ => c179 (cf_K4_fg K F1) hk hp hd ⟨fun c7 => ?_, fun c7 => c_retI (k1 _ emv _ F1 ?_ ?_)⟩⟩
      · rw [cf_cmp0] at c7
        have hv : cf_vs w h (cf_two kd) (p + 64 * d) := cf_mv_vs hwh hs (by decide) emv
        exact absurd c7 (cf_std_ne hwh hv)
      · rw [cf_ru_eq]; show nI p = nI ((p + 64 * d) % 64); rw [g3]
      · rw [cf_ru_ne (by omega), cf_ru_eq]; show nI d = nI ((p + 64 * d) / 64 % 4); rw [g4]
  · -- back
    have h2 := cf_B_ne c2
    rw [e2] at c3
    have hm2 : m = 2 := by
      have := mt e1.mpr c4
      have := mt e0.mpr c
      omega
    subst hm2
    rw [i2, cf_rot d 2 hd (by decide), show (d + 2) % 4 = cf_opp d from rfl]
    refine c181 K0 hq (cf_opp_lt d) ?_
    rw [cf_ru_eq]
    have h3 := hs.2 h2
    rw [g1, g2] at h3
    cases e : cf_step w h q (cf_opp d) with
    | none => exact absurd e h3
    | some p =>
      have hp := cf_step_lt hq e
      obtain ⟨g3, g4⟩ := cf_cod (show p < 64 by omega) hd
      have F1 := cf_fg_u F0 (j := 33) (x := nI p) (Or.inl rfl)
      have emv : cf_mv w h (cf_two kd) (q + 64 * d) 2 = (match cf_step w h p (cf_opp d) with
         | none => none
         | some _ => some (p + 64 * d)) := by
        unfold cf_mv; rw [if_neg (by decide), h2, cond_true, if_neg (by decide), if_pos rfl, g1, g2, e]; rfl
      refine ⟨fun g => absurd g (nI_pos (by omega)), fun _ => c179 (cf_K4_fg K F1) hk hp hd ⟨fun c7 => c_retI ?_, fun c7 => c_retI ?_⟩⟩
      · rw [cf_cmp0] at c7
        cases e9 : cf_step w h p (cf_opp d) with
        | none => rw [e9] at emv; exact k0 emv _ F1
        | some x =>
          have hv : cf_vs w h (cf_two kd) (p + 64 * d) := ⟨by rw [g3]; exact hp, fun _ => by rw [g3, g4, e9]; exact fun z => by cases z⟩
          exact absurd c7 (cf_std_ne hwh hv)
      · rw [cf_cmp0] at c7
        cases e9 : cf_step w h p (cf_opp d) with
        | none => exact absurd (by rw [h2]; exact cf_std_0 (by rw [g3, g4]; exact e9)) c7
        | some x =>
          rw [e9] at emv
          refine k1 _ emv _ F1 ?_ ?_
          · rw [cf_ru_eq, g3]
          · rw [cf_ru_ne (by omega), cf_ru_eq, g4]
end RXE
