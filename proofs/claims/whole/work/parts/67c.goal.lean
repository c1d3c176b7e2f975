/-! Where the search is to arrive. -/
/-- tg the square; wt the SHELF (and 1) that must lie there, or 0; last: for good, Lt being what is taken from a tick on -/
def cf_gl (S : cf_S) (st sp : Nat → Nat → Nat) (Lt : Nat → Int64) (c tg wt : Nat) (last : Bool) (s t : Nat) : Bool :=
  decide (s % 64 = tg) && (decide (wt = 0) || cf_ly (S 0 2) (st t) (sp t) tg (wt - 1)) && (!last || decide ((cf_std (S 0 0) (S 0 1) (cf_two (S 3 c)) s &&& Lt t) = 0))
section RXE
variable {L : Nat} {t : List (Nat × Nat)} {hi : Nat → Nat → Int32} {hl : Nat → Nat → Int64} {v : Nat → Nat → Option Nat}
variable {RI : Int32 → (Nat → Nat → Int32) → (Nat → Nat → Int64) → (Nat → Nat → Option Nat) → Prop}
theorem c177 {S : cf_S} (V : cf_V S) (M : cf_M S hi) {st sp : Nat → Nat → Nat} {sd hd : Nat → Nat → Int64} (W : cf_RW (S 0 2) (S 0 3) st sp sd hd hi hl) {Lt : Nat → Int64} (hL : ∀ u, u < 402 → hl 118 u ||| hl 120 u = Lt u) {c tg wt q d j : Nat} {last : Bool} (hc : c < S 0 2) (hd' : d < 4) (hq : q < S 0 0 * S 0 1) (htg : tg < 64) (hwt : wt ≤ S 0 3) (hj : j < 402)
    (k : RI (cf_B (cf_gl S st sp Lt c tg wt last (q + 64 * d) j)) hi hl v) : rx_CI L t 177 [.ref 90, .int (nI c), .int (nI tg), .int (oI wt), .int (cf_B last), .int (nI (4 * q + d)), .int (nI j)] hi hl v RI := by
  have h6 := V.2.2.1
  have h12 := V.2.2.2.1
  have hwh := cf_V_wh V
  have hkd := (V.2.2.2.2.2.2.1 c hc).1
  have hC := M.2.2.2.2.2.1 c hc
  obtain ⟨g1, g2⟩ := cf_cod (show q < 64 by omega) hd'
  have e4 : nI (4 * q + d) / (4 : Int32) = nI q := by
    rw [show (4 : Int32) = nI 4 from rfl, cf_ndiv (by omega) (by decide)]; congr 1; omega
  have em : nI (4 * q + d) - nI (4 * q + d) / (4 : Int32) * (4 : Int32) = nI d := by
    rw [show (4 : Int32) = nI 4 from rfl, cf_nmod (by omega) (by decide)]; congr 1; omega
  have A : cf_atR (S 0 2) (S 0 3) j (st j) (sp j) hi := ⟨fun c hc => ⟨(W.1 c hc j hj).1, (W.1 c hc j hj).2.1, (W.1 c hc j hj).2.2.1, (W.1 c hc j hj).2.2.2.2.2⟩, fun s hs => W.2 s hs j hj⟩
  unfold cf_gl at k
  rw [g1] at k
  -- the last test
  have own : (decide (q = tg) && (decide (wt = 0) || cf_ly (S 0 2) (st j) (sp j) tg (wt - 1))) = true → rx_CL L t 179 [.ref 90, .int (nI (S 3 c)), .int (nI q), .int (nI d)] hi hl v (fun z4 hi4 hl4 v4 => (cf_B last = 0 → ∃ z : Int32, some (Value.int 1) = some (.int z) ∧ rx_ok2 L t (rx_hp L t hi4 hl4 v4) (RI z)) ∧ (¬ cf_B last = 0 → (∃ j6 : Nat, nI j = nI j6 ∧ j6 < 402 ∧ (∃ j7 : Nat, nI j = nI j7 ∧ j7 < 402 ∧ (((lg_cmp (z4 &&& ((hl4 118 j6) ||| (hl4 120 j7))) (0 : Int64)) = 0 → ∃ z : Int32, some (Value.int 1) = some (.int z) ∧ rx_ok2 L t (rx_hp L t hi4 hl4 v4) (RI z)) ∧ (¬ ((lg_cmp (z4 &&& ((hl4 118 j6) ||| (hl4 120 j7))) (0 : Int64)) = 0) → ∃ z : Int32, some (Value.int 0) = some (.int z) ∧ rx_ok2 L t (rx_hp L t hi4 hl4 v4) (RI z))))))) := by
    intro h1
    rw [h1, Bool.true_and] at k
    refine c179 M.1 hkd hq hd' ⟨fun g => c_retI ?_, fun g => ⟨j, rfl, hj, j, rfl, hj, fun g3 => c_retI ?_, fun g3 => c_retI ?_⟩⟩
    · rw [cf_B_eq g, Bool.not_false, Bool.true_or] at k; exact k
    · rw [cf_cmp0, hL j hj] at g3
      rw [decide_eq_true g3, Bool.or_true] at k; exact k
    · rw [cf_cmp0, hL j hj] at g3
      rw [cf_B_ne g, decide_eq_false g3] at k; exact k
  refine w177_isGoal_r ⟨fun g => ⟨fun g3 => ⟨c, rfl, by omega, ?_⟩, fun g3 => ?_⟩, fun g => c_retI ?_⟩
  · rw [e4, nI_eq (by omega) (by omega)] at g
    rw [cf_oneg (by omega)] at g3
    rw [em, e4, hC.1]
    exact own (by rw [decide_eq_true g, decide_eq_true g3]; rfl)
  · rw [e4, nI_eq (by omega) (by omega)] at g
    rw [cf_oneg (by omega)] at g3
    obtain ⟨p, rfl⟩ : ∃ p, wt = p + 1 := ⟨wt - 1, by omega⟩
    have hsp := W.2 p (by omega) j hj
    rw [cf_oS]
    refine ⟨402 * p + j, cf_402, by omega, fun g5 => c178 M.2.1 h6 hj A (by omega) ⟨fun g6 => ⟨c, rfl, by omega, ?_⟩, fun g6 => c_retI ?_⟩, fun g5 => c_retI ?_⟩
    · rw [e4, hsp.1, nI_eq (by omega) (by omega)] at g5
      rw [em, e4, hC.1]
      refine own ?_
      unfold cf_ly
      rw [decide_eq_true g, show p + 1 - 1 = p by omega, decide_eq_true (show sp j p = tg by omega), cf_B_eq g6, Bool.not_false, Bool.and_true, Bool.or_true]; rfl
    · unfold cf_ly at k
      rw [decide_eq_false (show ¬ p + 1 = 0 by omega), show p + 1 - 1 = p by omega, cf_B_ne g6, Bool.not_true, Bool.and_false, Bool.or_false, Bool.and_false, Bool.false_and] at k; exact k
    · rw [e4, hsp.1, nI_eq (by omega) (by omega)] at g5
      unfold cf_ly at k
      rw [decide_eq_false (show ¬ p + 1 = 0 by omega), show p + 1 - 1 = p by omega, decide_eq_false (show ¬ sp j p = tg by omega), Bool.false_and, Bool.or_false, Bool.and_false, Bool.false_and] at k; exact k
  · rw [e4, nI_eq (by omega) (by omega)] at g
    rw [decide_eq_false g, Bool.false_and, Bool.false_and] at k; exact k
end RXE
