section RXE
variable {L : Nat} {t : List (Nat × Nat)} {hi : Nat → Nat → Int32} {hl : Nat → Nat → Int64} {v : Nat → Nat → Option Nat}
variable {RI : Int32 → (Nat → Nat → Int32) → (Nat → Nat → Int64) → (Nat → Nat → Option Nat) → Prop}
/-- whether a MOVE is one of the best: D1 the fewest turns now -/
theorem c190 {S : cf_S} (V : cf_V S) (M : cf_M S hi) {T : Nat → Int64} (hT : ∀ u, u < 402 → (hl 90 43 ||| hl 117 u) ||| hl 119 u = T u) {sd : Nat → Nat → Int64} (W : ∀ c, c < S 0 2 → ∀ u, u < 402 → hl 105 (402 * c + u) = sd u c) {c q d m j : Nat} (hc : c < S 0 2) (hd : d < 4) (hm : m < 5) (hj : j < 401) (hs : cf_vs (S 0 0) (S 0 1) (cf_two (S 3 c)) (q + 64 * d)) (hq : q < S 0 0 * S 0 1)
    {D : Nat → Nat} (hD : ∀ r, cf_vs (S 0 0) (S 0 1) (cf_two (S 3 c)) r → r < 256 → hi 116 (256 * (j + 1) + 4 * (r % 64) + r / 64 % 4) = nI (D r) ∧ D r ≤ 1000000) {D1 : Nat} (hD1 : hi 116 (256 * j + (4 * q + d)) = nI D1) (hb1 : D1 < 1000000)
    (k0 : ¬ cf_cst S T sd D c j (q + 64 * d) m = D1 → ∀ hi2, cf_fg hi hi2 → RI 0 hi2 hl v)
    (k1 : ∀ r, cf_may S T sd c j (q + 64 * d) m = some r → cf_cst S T sd D c j (q + 64 * d) m = D1 → ∀ hi2, cf_fg hi hi2 → hi2 90 33 = nI (r % 64) → hi2 90 34 = nI (r / 64 % 4) → RI 1 hi2 hl v) :
    rx_CI L t 190 [.ref 90, .int (nI c), .int (nI (4 * q + d)), .int (nI m), .int (nI j)] hi hl v RI := by
  have h6 := V.2.2.1
  have hwh := cf_V_wh V
  have hkd := (V.2.2.2.2.2.2.1 c hc).1
  obtain ⟨g1, g2⟩ := cf_cod (show q < 64 by omega) hd
  have e4 : nI (4 * q + d) / (4 : Int32) = nI q := by
    rw [show (4 : Int32) = nI 4 from rfl, cf_ndiv (by omega) (by decide)]; congr 1; omega
  have em : nI (4 * q + d) - nI (4 * q + d) / (4 : Int32) * (4 : Int32) = nI d := by
    rw [show (4 : Int32) = nI 4 from rfl, cf_nmod (by omega) (by decide)]; congr 1; omega
  refine w190_isBest_r ?_
  rw [em, e4]
  refine c183 V M hT W hc hd hm hj hs hq (fun en hi3 F3 => ⟨fun _ => c_retI (k0 ?_ hi3 F3), fun g => absurd rfl g⟩) (fun r er hi3 F3 f1 f2 => ⟨fun g => absurd g (by decide), fun _ => ⟨c, rfl, by omega, ?_⟩⟩)
  · unfold cf_cst; rw [en]; dsimp only; omega
  · obtain ⟨hvr, hr⟩ := cf_may_vs V hs hm er
    have hDr := hD r hvr hr
    rw [((cf_M_fg M F3).2.2.2.2.2.1 c hc).1]
    refine c189 hkd hd (by omega) ⟨256 * (j + 1) + 4 * (r % 64) + r / 64 % 4, ?_, by omega, 256 * j + (4 * q + d), ?_, by omega, ?_⟩
    · rw [f1, f2, show (256 : Int32) = nI 256 from rfl, show (4 : Int32) = nI 4 from rfl, nI_1, cf_nmul, cf_nmul, nI_add, nI_add]
    · rw [show (256 : Int32) = nI 256 from rfl, cf_nmul, nI_add]
    · rw [F3 116 _ (by omega), F3 116 _ (by omega), hDr.1, hD1]
      have ec : cf_cst S T sd D c j (q + 64 * d) m = (bif cf_itn (S 3 c) d m then 1 else 0) + D r := by
        unfold cf_cst; rw [er, g2]
      have eb : cf_B (cf_itn (S 3 c) d m) = nI (bif cf_itn (S 3 c) d m then 1 else 0) := by cases cf_itn (S 3 c) d m <;> rfl
      have hb2 : (bif cf_itn (S 3 c) d m then 1 else 0 : Nat) ≤ 1 := by cases cf_itn (S 3 c) d m <;> decide
      rw [eb, nI_add]
      generalize (bif cf_itn (S 3 c) d m then 1 else 0 : Nat) = b at *
      refine ⟨fun g => c_retI ?_, fun g => c_retI ?_⟩
      · rw [nI_eq (by omega) (by omega)] at g
        exact k1 r er (by omega) hi3 F3 f1 f2
      · rw [nI_eq (by omega) (by omega)] at g
        exact k0 (by omega) hi3 F3
end RXE
