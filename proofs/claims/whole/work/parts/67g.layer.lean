/-! goalTick: from a layer to the next. -/
section RXE
variable {L : Nat} {t : List (Nat × Nat)} {hl : Nat → Nat → Int64} {v : Nat → Nat → Option Nat}
variable {Q : Option Value → rx_H → Prop}
/-- only newSquare, newHeading and the row of layers from a place on have changed -/
def cf_fy (p : Nat) (hi hi2 : Nat → Nat → Int32) : Prop := ∀ a b, ¬ (a = 90 ∧ (b = 33 ∨ b = 34)) → ¬ (a = 115 ∧ p ≤ b) → hi2 a b = hi a b
theorem cf_M_fy {S : cf_S} {p : Nat} {hi hi2 : Nat → Nat → Int32} (M : cf_M S hi) (F : cf_fy p hi hi2) : cf_M S hi2 := by
  obtain ⟨⟨a1, a2, a3, a4, a5, a6, a7⟩, b, c, d, e, f, g⟩ := M
  refine ⟨⟨a1, a2, a3, a4, (F 90 0 (by omega) (by omega)).trans a5, (F 90 1 (by omega) (by omega)).trans a6, (F 90 2 (by omega) (by omega)).trans a7⟩, (F 90 6 (by omega) (by omega)).trans b, (F 90 21 (by omega) (by omega)).trans c, fun q hq => (F 91 q (by omega) (by omega)).trans (d q hq), fun q hq => (F 92 q (by omega) (by omega)).trans (e q hq), fun i hi0 => ?_, fun s hs => (F 107 s (by omega) (by omega)).trans (g s hs)⟩
  obtain ⟨f1, f2, f3, f4, f5, f6, f7, f8, f9, f10⟩ := f i hi0
  exact ⟨(F 93 i (by omega) (by omega)).trans f1, (F 94 i (by omega) (by omega)).trans f2, (F 96 i (by omega) (by omega)).trans f3, fun q => ⟨(F 97 i (by omega) (by omega)).trans (f4 q).1, (F 98 i (by omega) (by omega)).trans (f4 q).2⟩, (F 99 i (by omega) (by omega)).trans f5, (F 100 i (by omega) (by omega)).trans f6, fun j hj => (F 95 _ (by omega) (by omega)).trans (f7 j hj), (F 101 _ (by omega) (by omega)).trans f8, (F 102 _ (by omega) (by omega)).trans f9, (F 103 _ (by omega) (by omega)).trans f10⟩
set_option maxRecDepth 100000 in
theorem g172a {S : cf_S} {hi : Nat → Nat → Int32} (V : cf_V S) (M : cf_M S hi) {T : Nat → Int64} (hT : ∀ u, u < 402 → (hl 90 43 ||| hl 117 u) ||| hl 119 u = T u) {sd : Nat → Nat → Int64} (W : ∀ c, c < S 0 2 → ∀ u, u < 402 → hl 105 (402 * c + u) = sd u c) {c j : Nat} (hc : c < S 0 2) (hj : j < 400)
    {ly : Nat → Bool} (hly : ∀ s, ly s = true → cf_vs (S 0 0) (S 0 1) (cf_two (S 3 c)) s ∧ s < 256) (R0 : ∀ r, r < 256 → hi 115 (256 * j + r) = cf_B (ly (cf_dec r))) (R1 : ∀ r, r < 256 → hi 115 (256 * (j + 1) + r) = 0) {N : Nat} (hN : N = 256) {x2 x3 x4 x5 x6 : Int32}
    (k : ∀ hi2, cf_fy (256 * (j + 1)) hi hi2 → (∀ b, 256 * (j + 2) ≤ b → hi2 115 b = hi 115 b) → (∀ r, r < 256 → hi2 115 (256 * (j + 1) + r) = cf_B (cf_any (fun r' => ly (cf_dec r') && cf_any (fun m => decide (cf_may S T sd c j (cf_dec r') m = some (cf_dec r))) 5) N)) →
      rx_aw 172 103 [.ref 90, .int (nI c), .int x2, .int x3, .int x4, .int x5, .int x6, .int (nI (j + 1)), rx_no, rx_no] [] (rx_hp L t hi2 hl v) Q) :
    rx_aw 172 167 [.ref 90, .int (nI c), .int x2, .int x3, .int x4, .int x5, .int x6, .int (nI j), .int (nI 0), rx_no] [] (rx_hp L t hi hl v) Q := by
  have h6 := V.2.2.1
  have i256 : (256 : Int32) = nI 256 := rfl
  have i4 : (4 : Int32) = nI 4 := rfl
  have outer : ∀ e x, x + e = N → ∀ hi2, cf_fy (256 * (j + 1)) hi hi2 → (∀ b, 256 * (j + 2) ≤ b → hi2 115 b = hi 115 b) → (∀ r, r < 256 → hi2 115 (256 * (j + 1) + r) = cf_B (cf_any (fun r' => ly (cf_dec r') && cf_any (fun m => decide (cf_may S T sd c j (cf_dec r') m = some (cf_dec r))) 5) x)) →
      rx_aw 172 167 [.ref 90, .int (nI c), .int x2, .int x3, .int x4, .int x5, .int x6, .int (nI j), .int (nI x), rx_no] [] (rx_hp L t hi2 hl v) Q := by
    intro e
    induction e with
    | zero =>
      intro x hx hi2 F G P
      have : x = N := by omega
      subst this
      refine w172_goalTick_r_167 ⟨fun _ => ?_, fun g => absurd ?_ g⟩
      · rw [nI_1]
        exact k hi2 F G P
      · rw [i256, hN]; exact nI_le (Nat.le_refl _) (by decide)
    | succ e ih =>
      intro x hx hi2 F G P
      have hx256 : x < 256 := by omega
      refine w172_goalTick_r_167 ⟨fun g => ?_, fun _ => ⟨fun g => ?_, fun _ => ?_⟩⟩
      · rw [i256] at g; exact absurd g (nI_ge (by omega) (by decide))
      · rw [show (400 : Int32) = nI 400 from rfl] at g; exact absurd g (nI_ge (by omega) (by decide))
      have inner : ∀ e2 y, y + e2 = 5 → ∀ hi3, cf_fy (256 * (j + 1)) hi hi3 → (∀ b, 256 * (j + 2) ≤ b → hi3 115 b = hi 115 b) → (∀ r, r < 256 → hi3 115 (256 * (j + 1) + r) = cf_B (cf_any (fun r' => ly (cf_dec r') && cf_any (fun m => decide (cf_may S T sd c j (cf_dec r') m = some (cf_dec r))) 5) x || (ly (cf_dec x) && cf_any (fun m => decide (cf_may S T sd c j (cf_dec x) m = some (cf_dec r))) y))) →
          rx_aw 172 186 [.ref 90, .int (nI c), .int x2, .int x3, .int x4, .int x5, .int x6, .int (nI j), .int (nI x), .int (nI y)] [] (rx_hp L t hi3 hl v) Q := by
        intro e2
        induction e2 with
        | zero =>
          intro y hy hi3 F3 G3 P3
          have : y = 5 := by omega
          subst this
          refine w172_goalTick_r_186 ⟨fun _ => ?_, fun g => absurd (by decide) g⟩
          rw [nI_1]
          exact ih (x + 1) (by omega) hi3 F3 G3 (fun r hr => P3 r hr)
        | succ e2 ih2 =>
          intro y hy hi3 F3 G3 P3
          refine w172_goalTick_r_186 ⟨fun g => ?_, fun _ => ⟨256 * j + x, ?_, by omega, fun g => ?_, fun g => ?_⟩⟩
          · rw [i4, nI_ltI (by decide) (by omega)] at g; omega
          · rw [i256, cf_nmul, nI_add]
          · rw [F3 115 _ (by omega) (by omega), R0 x hx256] at g
            rw [nI_1]
            refine ih (x + 1) (by omega) hi3 F3 G3 (fun r hr => ?_)
            show _ = cf_B (cf_any (fun r' => ly (cf_dec r') && cf_any (fun m => decide (cf_may S T sd c j (cf_dec r') m = some (cf_dec r))) 5) x || (ly (cf_dec x) && cf_any (fun m => decide (cf_may S T sd c j (cf_dec x) m = some (cf_dec r))) 5))
            rw [P3 r hr, cf_B_eq g, Bool.false_and, Bool.false_and]
          · rw [F3 115 _ (by omega) (by omega), R0 x hx256] at g
            have hl1 := cf_B_ne g
            have hv := hly _ hl1
            have hdq := cf_dec_q x hx256
            have hq : x / 4 < S 0 0 * S 0 1 := by rw [← hdq.1]; exact hv.1.1
            rw [show nI x - nI x / (4 : Int32) * (4 : Int32) = nI (x % 4) by rw [i4, cf_nmod (by omega) (by decide)], show nI x / (4 : Int32) = nI (x / 4) by rw [i4, cf_ndiv (by omega) (by decide)], nI_1, nI_1]
            refine c183 V (cf_M_fy M F3) hT W hc (by omega) (by omega) (by omega) hv.1 hq (fun en hi4 F4 => ⟨fun _ => ?_, fun g => absurd rfl g⟩) (fun r er hi4 F4 f1 f2 => ⟨fun g => absurd g (by decide), fun _ => ?_⟩)
            · refine ih2 (y + 1) (by omega) hi4 (fun a b q1 q2 => (F4 a b q1).trans (F3 a b q1 q2)) (fun b hb => (F4 115 b (by omega)).trans (G3 b hb)) (fun r hr => ?_)
              rw [F4 115 _ (by omega), P3 r hr]
              have en2 : cf_may S T sd c j (cf_dec x) y = none := en
              rw [show cf_any (fun m => decide (cf_may S T sd c j (cf_dec x) m = some (cf_dec r))) (y + 1) = cf_any (fun m => decide (cf_may S T sd c j (cf_dec x) m = some (cf_dec r))) y by rw [cf_any, en2]; simp]
            · have er2 : cf_may S T sd c j (cf_dec x) y = some r := er
              obtain ⟨hvr, hr256⟩ := cf_may_vs V hv.1 (by omega) er2
              refine ⟨256 * (j + 1) + cf_enc r, ?_, by unfold cf_enc; omega, ?_⟩
              · rw [f1, f2, i256, i4, cf_nmul, cf_nmul, nI_add, nI_add]; congr 1; unfold cf_enc; omega
              · refine ih2 (y + 1) (by omega) _ (fun a b q1 q2 => ?_) (fun b hb => ?_) (fun r2 hr2 => ?_)
                · rw [cf_ru_ne (fun q => q2 ⟨q.1, by rw [q.2]; exact Nat.le_add_right _ _⟩)]; exact (F4 a b q1).trans (F3 a b q1 q2)
                · rw [cf_ru_ne (by unfold cf_enc; omega)]; exact (F4 115 b (by omega)).trans (G3 b hb)
                · by_cases e5 : r2 = cf_enc r
                  · subst e5
                    rw [cf_ru_eq, cf_dec_enc hr256, hl1, cf_any, er2, decide_eq_true rfl, Bool.or_true, Bool.and_true, Bool.or_true]; rfl
                  · rw [cf_ru_ne (by omega), F4 115 _ (by omega), P3 r2 hr2]
                    have : ¬ some r = some (cf_dec r2) := by
                      intro q
                      rw [Option.some_inj] at q
                      exact e5 (by rw [q, cf_enc_dec hr2])
                    rw [show cf_any (fun m => decide (cf_may S T sd c j (cf_dec x) m = some (cf_dec r2))) (y + 1) = cf_any (fun m => decide (cf_may S T sd c j (cf_dec x) m = some (cf_dec r2))) y by rw [cf_any, er2, decide_eq_false this, Bool.or_false]]
      exact inner 5 0 (by omega) hi2 F G (fun r hr => by rw [P r hr, cf_any, Bool.and_false, Bool.or_false])
  exact outer N 0 (by omega) hi (fun _ _ _ _ => rfl) (fun _ _ => rfl) (fun r hr => R1 r hr)
end RXE
