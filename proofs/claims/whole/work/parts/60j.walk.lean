/-! Methods walked by program (gen/wp.py): what is left to show of each. -/
/-- CartFloorModel.digest()J -/
theorem w224_digest_r {L : Nat} {t : List (Nat × Nat)} {hi : Nat → Nat → Int32} {hl : Nat → Nat → Int64} {v : Nat → Nat → Option Nat} {Q : Option Value → rx_H → Prop}  (k : rx_aw 224 4 [.ref 90, .long 0, rx_no, .int 0, rx_no] [] (rx_hp L t hi hl v) Q) : rx_me 224 [.ref 90] (rx_hp L t hi hl v) Q := by
  show rx_aw 224 0 [.ref 90, rx_no, rx_no, rx_no, rx_no] [] (rx_hp L t hi hl v) Q
  refine rx_aw_s 4 (pc := 0) rfl ?_
  show rx_aw 224 4 [.ref 90, .long 0, rx_no, .int 0, rx_no] [] (rx_hp L t hi hl v) Q
  exact k
theorem w224_digest_r_4 {L : Nat} {t : List (Nat × Nat)} {hi : Nat → Nat → Int32} {hl : Nat → Nat → Int64} {v : Nat → Nat → Option Nat} {Q : Option Value → rx_H → Prop} {x1 : Int64} {x3 : Int32} (k : (((hi 90 6) ≤ x3 → Q (some (.long x1)) (rx_hp L t hi hl v)) ∧ (¬ ((hi 90 6) ≤ x3) → rx_aw 224 15 [.ref 90, .long x1, rx_no, .int x3, .int 0] [] (rx_hp L t hi hl v) Q))) : rx_aw 224 4 [.ref 90, .long x1, rx_no, .int x3, rx_no] [] (rx_hp L t hi hl v) Q := by
  refine rx_aw_s 4 (pc := 4) rfl ?_
  refine rx_w_if (c := (hi 90 6) ≤ x3) ⟨fun c1 => ?_, fun c1 => ?_⟩
  · have k := k.1 c1
    show rx_aw 224 55 [.ref 90, .long x1, rx_no, .int x3, rx_no] [] (rx_hp L t hi hl v) Q
    refine rx_aw_s 1 (pc := 55) rfl ?_
    show rx_aw 224 56 [.ref 90, .long x1, rx_no, .int x3, rx_no] [.long x1] (rx_hp L t hi hl v) Q
    exact rx_aw_ret (pc := 56) rfl k
  · have k := k.2 c1
    show rx_aw 224 12 [.ref 90, .long x1, rx_no, .int x3, rx_no] [] (rx_hp L t hi hl v) Q
    refine rx_aw_s 2 (pc := 12) rfl ?_
    show rx_aw 224 15 [.ref 90, .long x1, rx_no, .int x3, .int 0] [] (rx_hp L t hi hl v) Q
    exact k
theorem w224_digest_r_15 {L : Nat} {t : List (Nat × Nat)} {hi : Nat → Nat → Int32} {hl : Nat → Nat → Int64} {v : Nat → Nat → Option Nat} {Q : Option Value → rx_H → Prop} {x1 : Int64} {x3 : Int32} {x4 : Int32} (k : (∃ j2 : Nat, x3 = nI j2 ∧ j2 < 6 ∧ (((hi 94 j2) ≤ x4 → rx_aw 224 4 [.ref 90, .long x1, rx_no, .int (x3 + 1), rx_no] [] (rx_hp L t hi hl v) Q) ∧ (¬ ((hi 94 j2) ≤ x4) → rx_me 194 [.ref 90, .int x3, .int x4] (rx_hp L t hi hl v) (fun r h2 => ∃ z4 : Int32, r = some (.int z4) ∧ rx_ok2 L t h2 (fun hi4 hl4 v4 => rx_aw 224 15 [.ref 90, .long (((31 * x1) + (Int32.toInt64 z4)) + 1), rx_no, .int x3, .int (x4 + 1)] [] (rx_hp L t hi4 hl4 v4) Q)))))) : rx_aw 224 15 [.ref 90, .long x1, rx_no, .int x3, .int x4] [] (rx_hp L t hi hl v) Q := by
  refine rx_aw_s 4 (pc := 15) rfl ?_
  show rx_aw 224 22 [.ref 90, .long x1, rx_no, .int x3, .int x4] [.int x3, .ref 94, .int x4] (rx_hp L t hi hl v) Q
  obtain ⟨j2, ej2, hj2, k⟩ := k
  refine rx_aw_iald (pc := 22) (n := 6) j2 ej2 rfl rfl rfl hj2 (by decide) ?_
  show rx_aw 224 23 [.ref 90, .long x1, rx_no, .int x3, .int x4] [.int (hi 94 j2), .int x4] (rx_hp L t hi hl v) Q
  refine rx_aw_s 1 (pc := 23) rfl ?_
  refine rx_w_if (c := (hi 94 j2) ≤ x4) ⟨fun c3 => ?_, fun c3 => ?_⟩
  · have k := k.1 c3
    show rx_aw 224 49 [.ref 90, .long x1, rx_no, .int x3, .int x4] [] (rx_hp L t hi hl v) Q
    refine rx_aw_s 2 (pc := 49) rfl ?_
    show rx_aw 224 4 [.ref 90, .long x1, rx_no, .int (x3 + 1), .int x4] [] (rx_hp L t hi hl v) Q
    exact rx_aw_le (ls := [.ref 90, .long x1, rx_no, .int (x3 + 1), rx_no]) ⟨Or.inr rfl, ⟨Or.inr rfl, ⟨Or.inl rfl, ⟨Or.inr rfl, ⟨Or.inl rfl, trivial⟩⟩⟩⟩⟩ k
  · have k := k.2 c3
    show rx_aw 224 26 [.ref 90, .long x1, rx_no, .int x3, .int x4] [] (rx_hp L t hi hl v) Q
    refine rx_aw_s 6 (pc := 26) rfl ?_
    show rx_aw 224 35 [.ref 90, .long x1, rx_no, .int x3, .int x4] [.int x4, .int x3, .ref 90, .long (31 * x1)] (rx_hp L t hi hl v) Q
    refine rx_w_callI (j := 194) (pc := 35) rfl rfl rfl rfl rfl ?_
    refine rx_aw.mono k (fun r h2 k => ?_)
    obtain ⟨z4, rfl, hi4, hl4, v4, rfl, k⟩ := k
    refine ⟨z4, rfl, ?_⟩
    show rx_aw 224 38 [.ref 90, .long x1, rx_no, .int x3, .int x4] [.int z4, .long (31 * x1)] (rx_hp L t hi4 hl4 v4) Q
    refine rx_aw_s 7 (pc := 38) rfl ?_
    show rx_aw 224 15 [.ref 90, .long (((31 * x1) + (Int32.toInt64 z4)) + 1), rx_no, .int x3, .int (x4 + 1)] [] (rx_hp L t hi4 hl4 v4) Q
    exact k
/-- CartFloorModel.safe()Z -/
theorem w225_safe_r {L : Nat} {t : List (Nat × Nat)} {hi : Nat → Nat → Int32} {hl : Nat → Nat → Int64} {v : Nat → Nat → Option Nat} {Q : Option Value → rx_H → Prop}  (k : rx_aw 225 4 [.ref 90, .int 1, .int 0] [] (rx_hp L t hi hl v) Q) : rx_me 225 [.ref 90] (rx_hp L t hi hl v) Q := by
  show rx_aw 225 0 [.ref 90, rx_no, rx_no] [] (rx_hp L t hi hl v) Q
  refine rx_aw_s 4 (pc := 0) rfl ?_
  show rx_aw 225 4 [.ref 90, .int 1, .int 0] [] (rx_hp L t hi hl v) Q
  exact k
theorem w225_safe_r_4 {L : Nat} {t : List (Nat × Nat)} {hi : Nat → Nat → Int32} {hl : Nat → Nat → Int64} {v : Nat → Nat → Option Nat} {Q : Option Value → rx_H → Prop} {x1 : Int32} {x2 : Int32} (k : (((hi 90 6) ≤ x2 → ((x1 = 0 ∨ x1 = 1) ∧ Q (some (.int x1)) (rx_hp L t hi hl v))) ∧ (¬ ((hi 90 6) ≤ x2) → (∃ j2 : Nat, x2 = nI j2 ∧ j2 < 6 ∧ ((1 < (hi 93 j2) → rx_aw 225 4 [.ref 90, .int (x1 &&& 0), .int (x2 + 1)] [] (rx_hp L t hi hl v) Q) ∧ (¬ (1 < (hi 93 j2)) → (∃ j4 : Nat, x2 = nI j4 ∧ j4 < 6 ∧ (((hi 96 j4) = 0 → rx_aw 225 4 [.ref 90, .int (x1 &&& 1), .int (x2 + 1)] [] (rx_hp L t hi hl v) Q) ∧ (¬ ((hi 96 j4) = 0) → rx_me 226 [.ref 90, .int x2] (rx_hp L t hi hl v) (fun r h2 => ∃ z6 : Int32, r = some (.int z6) ∧ rx_ok2 L t h2 (fun hi6 hl6 v6 => ((z6 = 0 → rx_aw 225 4 [.ref 90, .int (x1 &&& 0), .int (x2 + 1)] [] (rx_hp L t hi6 hl6 v6) Q) ∧ (¬ (z6 = 0) → rx_aw 225 4 [.ref 90, .int (x1 &&& 1), .int (x2 + 1)] [] (rx_hp L t hi6 hl6 v6) Q))))))))))))) : rx_aw 225 4 [.ref 90, .int x1, .int x2] [] (rx_hp L t hi hl v) Q := by
  refine rx_aw_s 4 (pc := 4) rfl ?_
  refine rx_w_if (c := (hi 90 6) ≤ x2) ⟨fun c1 => ?_, fun c1 => ?_⟩
  · have k := k.1 c1
    show rx_aw 225 53 [.ref 90, .int x1, .int x2] [] (rx_hp L t hi hl v) Q
    refine rx_aw_s 1 (pc := 53) rfl ?_
    show rx_aw 225 54 [.ref 90, .int x1, .int x2] [.int x1] (rx_hp L t hi hl v) Q
    exact rx_w_zret (pc := 54) rfl rfl k
  · have k := k.2 c1
    show rx_aw 225 12 [.ref 90, .int x1, .int x2] [] (rx_hp L t hi hl v) Q
    refine rx_aw_s 4 (pc := 12) rfl ?_
    show rx_aw 225 18 [.ref 90, .int x1, .int x2] [.int x2, .ref 93, .int x1] (rx_hp L t hi hl v) Q
    obtain ⟨j2, ej2, hj2, k⟩ := k
    refine rx_aw_iald (pc := 18) (n := 6) j2 ej2 rfl rfl rfl hj2 (by decide) ?_
    show rx_aw 225 19 [.ref 90, .int x1, .int x2] [.int (hi 93 j2), .int x1] (rx_hp L t hi hl v) Q
    refine rx_aw_s 2 (pc := 19) rfl ?_
    refine rx_w_if (c := 1 < (hi 93 j2)) ⟨fun c3 => ?_, fun c3 => ?_⟩
    · have k := k.1 c3
      show rx_aw 225 44 [.ref 90, .int x1, .int x2] [.int x1] (rx_hp L t hi hl v) Q
      refine rx_aw_s 5 (pc := 44) rfl ?_
      show rx_aw 225 4 [.ref 90, .int (x1 &&& 0), .int (x2 + 1)] [] (rx_hp L t hi hl v) Q
      exact k
    · have k := k.2 c3
      show rx_aw 225 23 [.ref 90, .int x1, .int x2] [.int x1] (rx_hp L t hi hl v) Q
      refine rx_aw_s 3 (pc := 23) rfl ?_
      show rx_aw 225 28 [.ref 90, .int x1, .int x2] [.int x2, .ref 96, .int x1] (rx_hp L t hi hl v) Q
      obtain ⟨j4, ej4, hj4, k⟩ := k
      refine rx_aw_bald (pc := 28) (n := 6) j4 ej4 rfl (Or.inr rfl) (by decide) rfl hj4 (by decide) ?_
      show rx_aw 225 29 [.ref 90, .int x1, .int x2] [.int (hi 96 j4), .int x1] (rx_hp L t hi hl v) Q
      refine rx_aw_s 1 (pc := 29) rfl ?_
      refine rx_w_if (c := (hi 96 j4) = 0) ⟨fun c5 => ?_, fun c5 => ?_⟩
      · have k := k.1 c5
        show rx_aw 225 40 [.ref 90, .int x1, .int x2] [.int x1] (rx_hp L t hi hl v) Q
        refine rx_aw_s 6 (pc := 40) rfl ?_
        show rx_aw 225 4 [.ref 90, .int (x1 &&& 1), .int (x2 + 1)] [] (rx_hp L t hi hl v) Q
        exact k
      · have k := k.2 c5
        show rx_aw 225 32 [.ref 90, .int x1, .int x2] [.int x1] (rx_hp L t hi hl v) Q
        refine rx_aw_s 2 (pc := 32) rfl ?_
        show rx_aw 225 34 [.ref 90, .int x1, .int x2] [.int x2, .ref 90, .int x1] (rx_hp L t hi hl v) Q
        refine rx_w_callI (j := 226) (pc := 34) rfl rfl rfl rfl rfl ?_
        refine rx_aw.mono k (fun r h2 k => ?_)
        obtain ⟨z6, rfl, hi6, hl6, v6, rfl, k⟩ := k
        refine ⟨z6, rfl, ?_⟩
        show rx_aw 225 37 [.ref 90, .int x1, .int x2] [.int z6, .int x1] (rx_hp L t hi6 hl6 v6) Q
        refine rx_aw_s 1 (pc := 37) rfl ?_
        refine rx_w_if (c := z6 = 0) ⟨fun c7 => ?_, fun c7 => ?_⟩
        · have k := k.1 c7
          show rx_aw 225 44 [.ref 90, .int x1, .int x2] [.int x1] (rx_hp L t hi6 hl6 v6) Q
          refine rx_aw_s 5 (pc := 44) rfl ?_
          show rx_aw 225 4 [.ref 90, .int (x1 &&& 0), .int (x2 + 1)] [] (rx_hp L t hi6 hl6 v6) Q
          exact k
        · have k := k.2 c7
          show rx_aw 225 40 [.ref 90, .int x1, .int x2] [.int x1] (rx_hp L t hi6 hl6 v6) Q
          refine rx_aw_s 6 (pc := 40) rfl ?_
          show rx_aw 225 4 [.ref 90, .int (x1 &&& 1), .int (x2 + 1)] [] (rx_hp L t hi6 hl6 v6) Q
          exact k
/-- CartFloorModel.isSafe(I)Z -/
theorem w226_isSafe_r {L : Nat} {t : List (Nat × Nat)} {hi : Nat → Nat → Int32} {hl : Nat → Nat → Int64} {v : Nat → Nat → Option Nat} {Q : Option Value → rx_H → Prop} {a0 : Int32} (k : rx_me 167 [.ref 90] (rx_hp L t hi hl v) (fun r h2 => ∃ z1 : Int64, r = some (.long z1) ∧ rx_ok2 L t h2 (fun hi1 hl1 v1 => rx_me 171 [.ref 90, .int 0, .int (-1)] (rx_hp L t hi1 hl1 v1) (fun r h2 => ∃ z2 : Int64, r = some (.long z2) ∧ rx_ok2 L t h2 (fun hi2 hl2 v2 => (∃ j3 : Nat, a0 = nI j3 ∧ j3 < 6 ∧ ((0 ≤ (hi2 98 j3) → rx_aw 226 31 [.ref 90, .int a0, .long (z1 ||| z2), rx_no, .int 0, .int 0] [] (rx_hp L t hi2 hl2 v2) Q) ∧ (¬ (0 ≤ (hi2 98 j3)) → rx_aw 226 31 [.ref 90, .int a0, .long (z1 ||| z2), rx_no, .int 1, .int 0] [] (rx_hp L t hi2 hl2 v2) Q)))))))) : rx_me 226 [.ref 90, .int a0] (rx_hp L t hi hl v) Q := by
  show rx_aw 226 0 [.ref 90, .int a0, rx_no, rx_no, rx_no, rx_no] [] (rx_hp L t hi hl v) Q
  refine rx_aw_s 1 (pc := 0) rfl ?_
  show rx_aw 226 1 [.ref 90, .int a0, rx_no, rx_no, rx_no, rx_no] [.ref 90] (rx_hp L t hi hl v) Q
  refine rx_w_callL (j := 167) (pc := 1) rfl rfl rfl rfl rfl ?_
  refine rx_aw.mono k (fun r h2 k => ?_)
  obtain ⟨z1, rfl, hi1, hl1, v1, rfl, k⟩ := k
  refine ⟨z1, rfl, ?_⟩
  show rx_aw 226 4 [.ref 90, .int a0, rx_no, rx_no, rx_no, rx_no] [.long z1] (rx_hp L t hi1 hl1 v1) Q
  refine rx_aw_s 3 (pc := 4) rfl ?_
  show rx_aw 226 7 [.ref 90, .int a0, rx_no, rx_no, rx_no, rx_no] [.int (-1), .int 0, .ref 90, .long z1] (rx_hp L t hi1 hl1 v1) Q
  refine rx_w_callL (j := 171) (pc := 7) rfl rfl rfl rfl rfl ?_
  refine rx_aw.mono k (fun r h2 k => ?_)
  obtain ⟨z2, rfl, hi2, hl2, v2, rfl, k⟩ := k
  refine ⟨z2, rfl, ?_⟩
  show rx_aw 226 10 [.ref 90, .int a0, rx_no, rx_no, rx_no, rx_no] [.long z2, .long z1] (rx_hp L t hi2 hl2 v2) Q
  refine rx_aw_s 5 (pc := 10) rfl ?_
  show rx_aw 226 17 [.ref 90, .int a0, .long (z1 ||| z2), rx_no, rx_no, rx_no] [.int a0, .ref 98] (rx_hp L t hi2 hl2 v2) Q
  obtain ⟨j3, ej3, hj3, k⟩ := k
  refine rx_aw_iald (pc := 17) (n := 6) j3 ej3 rfl rfl rfl hj3 (by decide) ?_
  show rx_aw 226 18 [.ref 90, .int a0, .long (z1 ||| z2), rx_no, rx_no, rx_no] [.int (hi2 98 j3)] (rx_hp L t hi2 hl2 v2) Q
  refine rx_aw_s 1 (pc := 18) rfl ?_
  refine rx_w_if (c := 0 ≤ (hi2 98 j3)) ⟨fun c4 => ?_, fun c4 => ?_⟩
  · have k := k.1 c4
    show rx_aw 226 25 [.ref 90, .int a0, .long (z1 ||| z2), rx_no, rx_no, rx_no] [] (rx_hp L t hi2 hl2 v2) Q
    refine rx_aw_s 4 (pc := 25) rfl ?_
    show rx_aw 226 31 [.ref 90, .int a0, .long (z1 ||| z2), rx_no, .int 0, .int 0] [] (rx_hp L t hi2 hl2 v2) Q
    exact k
  · have k := k.2 c4
    show rx_aw 226 21 [.ref 90, .int a0, .long (z1 ||| z2), rx_no, rx_no, rx_no] [] (rx_hp L t hi2 hl2 v2) Q
    refine rx_aw_s 5 (pc := 21) rfl ?_
    show rx_aw 226 31 [.ref 90, .int a0, .long (z1 ||| z2), rx_no, .int 1, .int 0] [] (rx_hp L t hi2 hl2 v2) Q
    exact k
theorem w226_isSafe_r_31 {L : Nat} {t : List (Nat × Nat)} {hi : Nat → Nat → Int32} {hl : Nat → Nat → Int64} {v : Nat → Nat → Option Nat} {Q : Option Value → rx_H → Prop} {x1 : Int32} {x2 : Int64} {x4 : Int32} {x5 : Int32} (k : (((hi 90 6) ≤ x5 → ((x4 = 0 → Q (some (.int 0)) (rx_hp L t hi hl v)) ∧ (¬ (x4 = 0) → (∃ j7 : Nat, (402 * x1) = nI j7 ∧ j7 < 2412 ∧ (∃ j8 : Nat, x1 = nI j8 ∧ j8 < 6 ∧ rx_me 227 [.ref 90, .int (hi 101 j7), .int (hi 97 j8), .long x2] (rx_hp L t hi hl v) (fun r h2 => ∃ z9 : Int32, r = some (.int z9) ∧ rx_ok2 L t h2 (fun hi9 hl9 v9 => ((z9 = 0 → Q (some (.int 0)) (rx_hp L t hi9 hl9 v9)) ∧ (¬ (z9 = 0) → Q (some (.int 1)) (rx_hp L t hi9 hl9 v9)))))))))) ∧ (¬ ((hi 90 6) ≤ x5) → ((x5 = x1 → rx_aw 226 31 [.ref 90, .int x1, .long x2, rx_no, .int x4, .int (x5 + 1)] [] (rx_hp L t hi hl v) Q) ∧ (¬ (x5 = x1) → (∃ j12 : Nat, (402 * x5) = nI j12 ∧ j12 < 2412 ∧ (∃ j13 : Nat, x5 = nI j13 ∧ j13 < 6 ∧ (((hi 96 j13) = 0 → (∃ j15 : Nat, (402 * x5) = nI j15 ∧ j15 < 2412 ∧ (∃ j16 : Nat, x1 = nI j16 ∧ j16 < 6 ∧ rx_me 169 [.int (hi 97 j16)] (rx_hp L t hi hl v) (fun r h2 => ∃ z17 : Int64, r = some (.long z17) ∧ rx_ok2 L t h2 (fun hi17 hl17 v17 => (((lg_cmp ((hl 105 j15) &&& z17) 0) = 0 → (∃ j19 : Nat, x5 = nI j19 ∧ j19 < 6 ∧ (((hi17 96 j19) = 0 → rx_aw 226 31 [.ref 90, .int x1, .long (x2 ||| ((hl 105 j12) ||| 0)), rx_no, .int (x4 &&& 1), .int (x5 + 1)] [] (rx_hp L t hi17 hl17 v17) Q) ∧ (¬ ((hi17 96 j19) = 0) → (∃ j21 : Nat, x5 = nI j21 ∧ j21 < 6 ∧ (∃ j22 : Nat, x1 = nI j22 ∧ j22 < 6 ∧ (((hi17 97 j21) = (hi17 97 j22) → rx_aw 226 31 [.ref 90, .int x1, .long (x2 ||| ((hl 105 j12) ||| 0)), rx_no, .int (x4 &&& 0), .int (x5 + 1)] [] (rx_hp L t hi17 hl17 v17) Q) ∧ (¬ ((hi17 97 j21) = (hi17 97 j22)) → rx_aw 226 31 [.ref 90, .int x1, .long (x2 ||| ((hl 105 j12) ||| 0)), rx_no, .int (x4 &&& 1), .int (x5 + 1)] [] (rx_hp L t hi17 hl17 v17) Q)))))))) ∧ (¬ ((lg_cmp ((hl 105 j15) &&& z17) 0) = 0) → rx_aw 226 31 [.ref 90, .int x1, .long (x2 ||| ((hl 105 j12) ||| 0)), rx_no, .int (x4 &&& 0), .int (x5 + 1)] [] (rx_hp L t hi17 hl17 v17) Q))))))) ∧ (¬ ((hi 96 j13) = 0) → (∃ j24 : Nat, x5 = nI j24 ∧ j24 < 6 ∧ rx_me 169 [.int (hi 97 j24)] (rx_hp L t hi hl v) (fun r h2 => ∃ z25 : Int64, r = some (.long z25) ∧ rx_ok2 L t h2 (fun hi25 hl25 v25 => (∃ j26 : Nat, (402 * x5) = nI j26 ∧ j26 < 2412 ∧ (∃ j27 : Nat, x1 = nI j27 ∧ j27 < 6 ∧ rx_me 169 [.int (hi25 97 j27)] (rx_hp L t hi25 hl25 v25) (fun r h2 => ∃ z28 : Int64, r = some (.long z28) ∧ rx_ok2 L t h2 (fun hi28 hl28 v28 => (((lg_cmp ((hl25 105 j26) &&& z28) 0) = 0 → (∃ j30 : Nat, x5 = nI j30 ∧ j30 < 6 ∧ (((hi28 96 j30) = 0 → rx_aw 226 31 [.ref 90, .int x1, .long (x2 ||| ((hl 105 j12) ||| z25)), rx_no, .int (x4 &&& 1), .int (x5 + 1)] [] (rx_hp L t hi28 hl28 v28) Q) ∧ (¬ ((hi28 96 j30) = 0) → (∃ j32 : Nat, x5 = nI j32 ∧ j32 < 6 ∧ (∃ j33 : Nat, x1 = nI j33 ∧ j33 < 6 ∧ (((hi28 97 j32) = (hi28 97 j33) → rx_aw 226 31 [.ref 90, .int x1, .long (x2 ||| ((hl 105 j12) ||| z25)), rx_no, .int (x4 &&& 0), .int (x5 + 1)] [] (rx_hp L t hi28 hl28 v28) Q) ∧ (¬ ((hi28 97 j32) = (hi28 97 j33)) → rx_aw 226 31 [.ref 90, .int x1, .long (x2 ||| ((hl 105 j12) ||| z25)), rx_no, .int (x4 &&& 1), .int (x5 + 1)] [] (rx_hp L t hi28 hl28 v28) Q)))))))) ∧ (¬ ((lg_cmp ((hl25 105 j26) &&& z28) 0) = 0) → rx_aw 226 31 [.ref 90, .int x1, .long (x2 ||| ((hl 105 j12) ||| z25)), rx_no, .int (x4 &&& 0), .int (x5 + 1)] [] (rx_hp L t hi28 hl28 v28) Q)))))))))))))))))) : rx_aw 226 31 [.ref 90, .int x1, .long x2, rx_no, .int x4, .int x5] [] (rx_hp L t hi hl v) Q := by
  refine rx_aw_s 4 (pc := 31) rfl ?_
  refine rx_w_if (c := (hi 90 6) ≤ x5) ⟨fun c5 => ?_, fun c5 => ?_⟩
  · have k := k.1 c5
    show rx_aw 226 153 [.ref 90, .int x1, .long x2, rx_no, .int x4, .int x5] [] (rx_hp L t hi hl v) Q
    refine rx_aw_s 2 (pc := 153) rfl ?_
    refine rx_w_if (c := x4 = 0) ⟨fun c6 => ?_, fun c6 => ?_⟩
    · have k := k.1 c6
      show rx_aw 226 186 [.ref 90, .int x1, .long x2, rx_no, .int x4, .int x5] [] (rx_hp L t hi hl v) Q
      refine rx_aw_s 1 (pc := 186) rfl ?_
      show rx_aw 226 187 [.ref 90, .int x1, .long x2, rx_no, .int x4, .int x5] [.int 0] (rx_hp L t hi hl v) Q
      exact rx_aw_ret (pc := 187) rfl k
    · have k := k.2 c6
      show rx_aw 226 158 [.ref 90, .int x1, .long x2, rx_no, .int x4, .int x5] [] (rx_hp L t hi hl v) Q
      refine rx_aw_s 6 (pc := 158) rfl ?_
      show rx_aw 226 168 [.ref 90, .int x1, .long x2, rx_no, .int x4, .int x5] [.int (402 * x1), .ref 101, .ref 90] (rx_hp L t hi hl v) Q
      obtain ⟨j7, ej7, hj7, k⟩ := k
      refine rx_aw_iald (pc := 168) (n := 2412) j7 ej7 rfl rfl rfl hj7 (by decide) ?_
      show rx_aw 226 169 [.ref 90, .int x1, .long x2, rx_no, .int x4, .int x5] [.int (hi 101 j7), .ref 90] (rx_hp L t hi hl v) Q
      refine rx_aw_s 3 (pc := 169) rfl ?_
      show rx_aw 226 174 [.ref 90, .int x1, .long x2, rx_no, .int x4, .int x5] [.int x1, .ref 97, .int (hi 101 j7), .ref 90] (rx_hp L t hi hl v) Q
      obtain ⟨j8, ej8, hj8, k⟩ := k
      refine rx_aw_iald (pc := 174) (n := 6) j8 ej8 rfl rfl rfl hj8 (by decide) ?_
      show rx_aw 226 175 [.ref 90, .int x1, .long x2, rx_no, .int x4, .int x5] [.int (hi 97 j8), .int (hi 101 j7), .ref 90] (rx_hp L t hi hl v) Q
      refine rx_aw_s 1 (pc := 175) rfl ?_
      show rx_aw 226 176 [.ref 90, .int x1, .long x2, rx_no, .int x4, .int x5] [.long x2, .int (hi 97 j8), .int (hi 101 j7), .ref 90] (rx_hp L t hi hl v) Q
      refine rx_w_callI (j := 227) (pc := 176) rfl rfl rfl rfl rfl ?_
      refine rx_aw.mono k (fun r h2 k => ?_)
      obtain ⟨z9, rfl, hi9, hl9, v9, rfl, k⟩ := k
      refine ⟨z9, rfl, ?_⟩
      show rx_aw 226 179 [.ref 90, .int x1, .long x2, rx_no, .int x4, .int x5] [.int z9] (rx_hp L t hi9 hl9 v9) Q
      refine rx_aw_s 1 (pc := 179) rfl ?_
      refine rx_w_if (c := z9 = 0) ⟨fun c10 => ?_, fun c10 => ?_⟩
      · have k := k.1 c10
        show rx_aw 226 186 [.ref 90, .int x1, .long x2, rx_no, .int x4, .int x5] [] (rx_hp L t hi9 hl9 v9) Q
        refine rx_aw_s 1 (pc := 186) rfl ?_
        show rx_aw 226 187 [.ref 90, .int x1, .long x2, rx_no, .int x4, .int x5] [.int 0] (rx_hp L t hi9 hl9 v9) Q
        exact rx_aw_ret (pc := 187) rfl k
      · have k := k.2 c10
        show rx_aw 226 182 [.ref 90, .int x1, .long x2, rx_no, .int x4, .int x5] [] (rx_hp L t hi9 hl9 v9) Q
        refine rx_aw_s 2 (pc := 182) rfl ?_
        show rx_aw 226 187 [.ref 90, .int x1, .long x2, rx_no, .int x4, .int x5] [.int 1] (rx_hp L t hi9 hl9 v9) Q
        exact rx_aw_ret (pc := 187) rfl k
  · have k := k.2 c5
    show rx_aw 226 40 [.ref 90, .int x1, .long x2, rx_no, .int x4, .int x5] [] (rx_hp L t hi hl v) Q
    refine rx_aw_s 3 (pc := 40) rfl ?_
    refine rx_w_if (c := x5 = x1) ⟨fun c11 => ?_, fun c11 => ?_⟩
    · have k := k.1 c11
      show rx_aw 226 147 [.ref 90, .int x1, .long x2, rx_no, .int x4, .int x5] [] (rx_hp L t hi hl v) Q
      refine rx_aw_s 2 (pc := 147) rfl ?_
      show rx_aw 226 31 [.ref 90, .int x1, .long x2, rx_no, .int x4, .int (x5 + 1)] [] (rx_hp L t hi hl v) Q
      exact k
    · have k := k.2 c11
      show rx_aw 226 46 [.ref 90, .int x1, .long x2, rx_no, .int x4, .int x5] [] (rx_hp L t hi hl v) Q
      refine rx_aw_s 6 (pc := 46) rfl ?_
      show rx_aw 226 57 [.ref 90, .int x1, .long x2, rx_no, .int x4, .int x5] [.int (402 * x5), .ref 105, .long x2] (rx_hp L t hi hl v) Q
      obtain ⟨j12, ej12, hj12, k⟩ := k
      refine rx_aw_lald (pc := 57) (n := 2412) j12 ej12 rfl rfl (by decide) rfl hj12 (by decide) ?_
      show rx_aw 226 58 [.ref 90, .int x1, .long x2, rx_no, .int x4, .int x5] [.long (hl 105 j12), .long x2] (rx_hp L t hi hl v) Q
      refine rx_aw_s 3 (pc := 58) rfl ?_
      show rx_aw 226 64 [.ref 90, .int x1, .long x2, rx_no, .int x4, .int x5] [.int x5, .ref 96, .long (hl 105 j12), .long x2] (rx_hp L t hi hl v) Q
      obtain ⟨j13, ej13, hj13, k⟩ := k
      refine rx_aw_bald (pc := 64) (n := 6) j13 ej13 rfl (Or.inr rfl) (by decide) rfl hj13 (by decide) ?_
      show rx_aw 226 65 [.ref 90, .int x1, .long x2, rx_no, .int x4, .int x5] [.int (hi 96 j13), .long (hl 105 j12), .long x2] (rx_hp L t hi hl v) Q
      refine rx_aw_s 1 (pc := 65) rfl ?_
      refine rx_w_if (c := (hi 96 j13) = 0) ⟨fun c14 => ?_, fun c14 => ?_⟩
      · have k := k.1 c14
        show rx_aw 226 81 [.ref 90, .int x1, .long x2, rx_no, .int x4, .int x5] [.long (hl 105 j12), .long x2] (rx_hp L t hi hl v) Q
        refine rx_aw_s 10 (pc := 81) rfl ?_
        show rx_aw 226 97 [.ref 90, .int x1, .long (x2 ||| ((hl 105 j12) ||| 0)), rx_no, .int x4, .int x5] [.int (402 * x5), .ref 105, .int x4] (rx_hp L t hi hl v) Q
        obtain ⟨j15, ej15, hj15, k⟩ := k
        refine rx_aw_lald (pc := 97) (n := 2412) j15 ej15 rfl rfl (by decide) rfl hj15 (by decide) ?_
        show rx_aw 226 98 [.ref 90, .int x1, .long (x2 ||| ((hl 105 j12) ||| 0)), rx_no, .int x4, .int x5] [.long (hl 105 j15), .int x4] (rx_hp L t hi hl v) Q
        refine rx_aw_s 3 (pc := 98) rfl ?_
        show rx_aw 226 103 [.ref 90, .int x1, .long (x2 ||| ((hl 105 j12) ||| 0)), rx_no, .int x4, .int x5] [.int x1, .ref 97, .long (hl 105 j15), .int x4] (rx_hp L t hi hl v) Q
        obtain ⟨j16, ej16, hj16, k⟩ := k
        refine rx_aw_iald (pc := 103) (n := 6) j16 ej16 rfl rfl rfl hj16 (by decide) ?_
        show rx_aw 226 104 [.ref 90, .int x1, .long (x2 ||| ((hl 105 j12) ||| 0)), rx_no, .int x4, .int x5] [.int (hi 97 j16), .long (hl 105 j15), .int x4] (rx_hp L t hi hl v) Q
        refine rx_w_callL (j := 169) (pc := 104) rfl rfl rfl rfl rfl ?_
        refine rx_aw.mono k (fun r h2 k => ?_)
        obtain ⟨z17, rfl, hi17, hl17, v17, rfl, k⟩ := k
        refine ⟨z17, rfl, ?_⟩
        show rx_aw 226 107 [.ref 90, .int x1, .long (x2 ||| ((hl 105 j12) ||| 0)), rx_no, .int x4, .int x5] [.long z17, .long (hl 105 j15), .int x4] (rx_hp L t hi17 hl17 v17) Q
        refine rx_aw_s 4 (pc := 107) rfl ?_
        refine rx_w_ifn (c := (lg_cmp ((hl 105 j15) &&& z17) 0) = 0) ⟨fun c18 => ?_, fun c18 => ?_⟩
        · have k := k.1 c18
          show rx_aw 226 113 [.ref 90, .int x1, .long (x2 ||| ((hl 105 j12) ||| 0)), rx_no, .int x4, .int x5] [.int x4] (rx_hp L t hi17 hl17 v17) Q
          refine rx_aw_s 3 (pc := 113) rfl ?_
          show rx_aw 226 119 [.ref 90, .int x1, .long (x2 ||| ((hl 105 j12) ||| 0)), rx_no, .int x4, .int x5] [.int x5, .ref 96, .int x4] (rx_hp L t hi17 hl17 v17) Q
          obtain ⟨j19, ej19, hj19, k⟩ := k
          refine rx_aw_bald (pc := 119) (n := 6) j19 ej19 rfl (Or.inr rfl) (by decide) rfl hj19 (by decide) ?_
          show rx_aw 226 120 [.ref 90, .int x1, .long (x2 ||| ((hl 105 j12) ||| 0)), rx_no, .int x4, .int x5] [.int (hi17 96 j19), .int x4] (rx_hp L t hi17 hl17 v17) Q
          refine rx_aw_s 1 (pc := 120) rfl ?_
          refine rx_w_if (c := (hi17 96 j19) = 0) ⟨fun c20 => ?_, fun c20 => ?_⟩
          · have k := k.1 c20
            show rx_aw 226 139 [.ref 90, .int x1, .long (x2 ||| ((hl 105 j12) ||| 0)), rx_no, .int x4, .int x5] [.int x4] (rx_hp L t hi17 hl17 v17) Q
            refine rx_aw_s 6 (pc := 139) rfl ?_
            show rx_aw 226 31 [.ref 90, .int x1, .long (x2 ||| ((hl 105 j12) ||| 0)), rx_no, .int (x4 &&& 1), .int (x5 + 1)] [] (rx_hp L t hi17 hl17 v17) Q
            exact k
          · have k := k.2 c20
            show rx_aw 226 123 [.ref 90, .int x1, .long (x2 ||| ((hl 105 j12) ||| 0)), rx_no, .int x4, .int x5] [.int x4] (rx_hp L t hi17 hl17 v17) Q
            refine rx_aw_s 3 (pc := 123) rfl ?_
            show rx_aw 226 129 [.ref 90, .int x1, .long (x2 ||| ((hl 105 j12) ||| 0)), rx_no, .int x4, .int x5] [.int x5, .ref 97, .int x4] (rx_hp L t hi17 hl17 v17) Q
            obtain ⟨j21, ej21, hj21, k⟩ := k
            refine rx_aw_iald (pc := 129) (n := 6) j21 ej21 rfl rfl rfl hj21 (by decide) ?_
            show rx_aw 226 130 [.ref 90, .int x1, .long (x2 ||| ((hl 105 j12) ||| 0)), rx_no, .int x4, .int x5] [.int (hi17 97 j21), .int x4] (rx_hp L t hi17 hl17 v17) Q
            refine rx_aw_s 3 (pc := 130) rfl ?_
            show rx_aw 226 135 [.ref 90, .int x1, .long (x2 ||| ((hl 105 j12) ||| 0)), rx_no, .int x4, .int x5] [.int x1, .ref 97, .int (hi17 97 j21), .int x4] (rx_hp L t hi17 hl17 v17) Q
            obtain ⟨j22, ej22, hj22, k⟩ := k
            refine rx_aw_iald (pc := 135) (n := 6) j22 ej22 rfl rfl rfl hj22 (by decide) ?_
            show rx_aw 226 136 [.ref 90, .int x1, .long (x2 ||| ((hl 105 j12) ||| 0)), rx_no, .int x4, .int x5] [.int (hi17 97 j22), .int (hi17 97 j21), .int x4] (rx_hp L t hi17 hl17 v17) Q
            refine rx_aw_s 1 (pc := 136) rfl ?_
            refine rx_w_if (c := (hi17 97 j21) = (hi17 97 j22)) ⟨fun c23 => ?_, fun c23 => ?_⟩
            · have k := k.1 c23
              show rx_aw 226 143 [.ref 90, .int x1, .long (x2 ||| ((hl 105 j12) ||| 0)), rx_no, .int x4, .int x5] [.int x4] (rx_hp L t hi17 hl17 v17) Q
              refine rx_aw_s 5 (pc := 143) rfl ?_
              show rx_aw 226 31 [.ref 90, .int x1, .long (x2 ||| ((hl 105 j12) ||| 0)), rx_no, .int (x4 &&& 0), .int (x5 + 1)] [] (rx_hp L t hi17 hl17 v17) Q
              exact k
            · have k := k.2 c23
              show rx_aw 226 139 [.ref 90, .int x1, .long (x2 ||| ((hl 105 j12) ||| 0)), rx_no, .int x4, .int x5] [.int x4] (rx_hp L t hi17 hl17 v17) Q
              refine rx_aw_s 6 (pc := 139) rfl ?_
              show rx_aw 226 31 [.ref 90, .int x1, .long (x2 ||| ((hl 105 j12) ||| 0)), rx_no, .int (x4 &&& 1), .int (x5 + 1)] [] (rx_hp L t hi17 hl17 v17) Q
              exact k
        · have k := k.2 c18
          show rx_aw 226 143 [.ref 90, .int x1, .long (x2 ||| ((hl 105 j12) ||| 0)), rx_no, .int x4, .int x5] [.int x4] (rx_hp L t hi17 hl17 v17) Q
          refine rx_aw_s 5 (pc := 143) rfl ?_
          show rx_aw 226 31 [.ref 90, .int x1, .long (x2 ||| ((hl 105 j12) ||| 0)), rx_no, .int (x4 &&& 0), .int (x5 + 1)] [] (rx_hp L t hi17 hl17 v17) Q
          exact k
      · have k := k.2 c14
        show rx_aw 226 68 [.ref 90, .int x1, .long x2, rx_no, .int x4, .int x5] [.long (hl 105 j12), .long x2] (rx_hp L t hi hl v) Q
        refine rx_aw_s 3 (pc := 68) rfl ?_
        show rx_aw 226 74 [.ref 90, .int x1, .long x2, rx_no, .int x4, .int x5] [.int x5, .ref 97, .long (hl 105 j12), .long x2] (rx_hp L t hi hl v) Q
        obtain ⟨j24, ej24, hj24, k⟩ := k
        refine rx_aw_iald (pc := 74) (n := 6) j24 ej24 rfl rfl rfl hj24 (by decide) ?_
        show rx_aw 226 75 [.ref 90, .int x1, .long x2, rx_no, .int x4, .int x5] [.int (hi 97 j24), .long (hl 105 j12), .long x2] (rx_hp L t hi hl v) Q
        refine rx_w_callL (j := 169) (pc := 75) rfl rfl rfl rfl rfl ?_
        refine rx_aw.mono k (fun r h2 k => ?_)
        obtain ⟨z25, rfl, hi25, hl25, v25, rfl, k⟩ := k
        refine ⟨z25, rfl, ?_⟩
        show rx_aw 226 78 [.ref 90, .int x1, .long x2, rx_no, .int x4, .int x5] [.long z25, .long (hl 105 j12), .long x2] (rx_hp L t hi25 hl25 v25) Q
        refine rx_aw_s 10 (pc := 78) rfl ?_
        show rx_aw 226 97 [.ref 90, .int x1, .long (x2 ||| ((hl 105 j12) ||| z25)), rx_no, .int x4, .int x5] [.int (402 * x5), .ref 105, .int x4] (rx_hp L t hi25 hl25 v25) Q
        obtain ⟨j26, ej26, hj26, k⟩ := k
        refine rx_aw_lald (pc := 97) (n := 2412) j26 ej26 rfl rfl (by decide) rfl hj26 (by decide) ?_
        show rx_aw 226 98 [.ref 90, .int x1, .long (x2 ||| ((hl 105 j12) ||| z25)), rx_no, .int x4, .int x5] [.long (hl25 105 j26), .int x4] (rx_hp L t hi25 hl25 v25) Q
        refine rx_aw_s 3 (pc := 98) rfl ?_
        show rx_aw 226 103 [.ref 90, .int x1, .long (x2 ||| ((hl 105 j12) ||| z25)), rx_no, .int x4, .int x5] [.int x1, .ref 97, .long (hl25 105 j26), .int x4] (rx_hp L t hi25 hl25 v25) Q
        obtain ⟨j27, ej27, hj27, k⟩ := k
        refine rx_aw_iald (pc := 103) (n := 6) j27 ej27 rfl rfl rfl hj27 (by decide) ?_
        show rx_aw 226 104 [.ref 90, .int x1, .long (x2 ||| ((hl 105 j12) ||| z25)), rx_no, .int x4, .int x5] [.int (hi25 97 j27), .long (hl25 105 j26), .int x4] (rx_hp L t hi25 hl25 v25) Q
        refine rx_w_callL (j := 169) (pc := 104) rfl rfl rfl rfl rfl ?_
        refine rx_aw.mono k (fun r h2 k => ?_)
        obtain ⟨z28, rfl, hi28, hl28, v28, rfl, k⟩ := k
        refine ⟨z28, rfl, ?_⟩
        show rx_aw 226 107 [.ref 90, .int x1, .long (x2 ||| ((hl 105 j12) ||| z25)), rx_no, .int x4, .int x5] [.long z28, .long (hl25 105 j26), .int x4] (rx_hp L t hi28 hl28 v28) Q
        refine rx_aw_s 4 (pc := 107) rfl ?_
        refine rx_w_ifn (c := (lg_cmp ((hl25 105 j26) &&& z28) 0) = 0) ⟨fun c29 => ?_, fun c29 => ?_⟩
        · have k := k.1 c29
          show rx_aw 226 113 [.ref 90, .int x1, .long (x2 ||| ((hl 105 j12) ||| z25)), rx_no, .int x4, .int x5] [.int x4] (rx_hp L t hi28 hl28 v28) Q
          refine rx_aw_s 3 (pc := 113) rfl ?_
          show rx_aw 226 119 [.ref 90, .int x1, .long (x2 ||| ((hl 105 j12) ||| z25)), rx_no, .int x4, .int x5] [.int x5, .ref 96, .int x4] (rx_hp L t hi28 hl28 v28) Q
          obtain ⟨j30, ej30, hj30, k⟩ := k
          refine rx_aw_bald (pc := 119) (n := 6) j30 ej30 rfl (Or.inr rfl) (by decide) rfl hj30 (by decide) ?_
          show rx_aw 226 120 [.ref 90, .int x1, .long (x2 ||| ((hl 105 j12) ||| z25)), rx_no, .int x4, .int x5] [.int (hi28 96 j30), .int x4] (rx_hp L t hi28 hl28 v28) Q
          refine rx_aw_s 1 (pc := 120) rfl ?_
          refine rx_w_if (c := (hi28 96 j30) = 0) ⟨fun c31 => ?_, fun c31 => ?_⟩
          · have k := k.1 c31
            show rx_aw 226 139 [.ref 90, .int x1, .long (x2 ||| ((hl 105 j12) ||| z25)), rx_no, .int x4, .int x5] [.int x4] (rx_hp L t hi28 hl28 v28) Q
            refine rx_aw_s 6 (pc := 139) rfl ?_
            show rx_aw 226 31 [.ref 90, .int x1, .long (x2 ||| ((hl 105 j12) ||| z25)), rx_no, .int (x4 &&& 1), .int (x5 + 1)] [] (rx_hp L t hi28 hl28 v28) Q
            exact k
          · have k := k.2 c31
            show rx_aw 226 123 [.ref 90, .int x1, .long (x2 ||| ((hl 105 j12) ||| z25)), rx_no, .int x4, .int x5] [.int x4] (rx_hp L t hi28 hl28 v28) Q
            refine rx_aw_s 3 (pc := 123) rfl ?_
            show rx_aw 226 129 [.ref 90, .int x1, .long (x2 ||| ((hl 105 j12) ||| z25)), rx_no, .int x4, .int x5] [.int x5, .ref 97, .int x4] (rx_hp L t hi28 hl28 v28) Q
            obtain ⟨j32, ej32, hj32, k⟩ := k
            refine rx_aw_iald (pc := 129) (n := 6) j32 ej32 rfl rfl rfl hj32 (by decide) ?_
            show rx_aw 226 130 [.ref 90, .int x1, .long (x2 ||| ((hl 105 j12) ||| z25)), rx_no, .int x4, .int x5] [.int (hi28 97 j32), .int x4] (rx_hp L t hi28 hl28 v28) Q
            refine rx_aw_s 3 (pc := 130) rfl ?_
            show rx_aw 226 135 [.ref 90, .int x1, .long (x2 ||| ((hl 105 j12) ||| z25)), rx_no, .int x4, .int x5] [.int x1, .ref 97, .int (hi28 97 j32), .int x4] (rx_hp L t hi28 hl28 v28) Q
            obtain ⟨j33, ej33, hj33, k⟩ := k
            refine rx_aw_iald (pc := 135) (n := 6) j33 ej33 rfl rfl rfl hj33 (by decide) ?_
            show rx_aw 226 136 [.ref 90, .int x1, .long (x2 ||| ((hl 105 j12) ||| z25)), rx_no, .int x4, .int x5] [.int (hi28 97 j33), .int (hi28 97 j32), .int x4] (rx_hp L t hi28 hl28 v28) Q
            refine rx_aw_s 1 (pc := 136) rfl ?_
            refine rx_w_if (c := (hi28 97 j32) = (hi28 97 j33)) ⟨fun c34 => ?_, fun c34 => ?_⟩
            · have k := k.1 c34
              show rx_aw 226 143 [.ref 90, .int x1, .long (x2 ||| ((hl 105 j12) ||| z25)), rx_no, .int x4, .int x5] [.int x4] (rx_hp L t hi28 hl28 v28) Q
              refine rx_aw_s 5 (pc := 143) rfl ?_
              show rx_aw 226 31 [.ref 90, .int x1, .long (x2 ||| ((hl 105 j12) ||| z25)), rx_no, .int (x4 &&& 0), .int (x5 + 1)] [] (rx_hp L t hi28 hl28 v28) Q
              exact k
            · have k := k.2 c34
              show rx_aw 226 139 [.ref 90, .int x1, .long (x2 ||| ((hl 105 j12) ||| z25)), rx_no, .int x4, .int x5] [.int x4] (rx_hp L t hi28 hl28 v28) Q
              refine rx_aw_s 6 (pc := 139) rfl ?_
              show rx_aw 226 31 [.ref 90, .int x1, .long (x2 ||| ((hl 105 j12) ||| z25)), rx_no, .int (x4 &&& 1), .int (x5 + 1)] [] (rx_hp L t hi28 hl28 v28) Q
              exact k
        · have k := k.2 c29
          show rx_aw 226 143 [.ref 90, .int x1, .long (x2 ||| ((hl 105 j12) ||| z25)), rx_no, .int x4, .int x5] [.int x4] (rx_hp L t hi28 hl28 v28) Q
          refine rx_aw_s 5 (pc := 143) rfl ?_
          show rx_aw 226 31 [.ref 90, .int x1, .long (x2 ||| ((hl 105 j12) ||| z25)), rx_no, .int (x4 &&& 0), .int (x5 + 1)] [] (rx_hp L t hi28 hl28 v28) Q
          exact k
/-- CartFloorModel.leads(IIJ)Z -/
theorem w227_leads_r {L : Nat} {t : List (Nat × Nat)} {hi : Nat → Nat → Int32} {hl : Nat → Nat → Int64} {v : Nat → Nat → Option Nat} {Q : Option Value → rx_H → Prop} {a0 : Int32} {a1 : Int32} {a2 : Int64} (k : rx_aw 227 3 [.ref 90, .int a0, .int a1, .long a2, rx_no, .int 0, rx_no, rx_no, rx_no] [] (rx_hp L t hi hl v) Q) : rx_me 227 [.ref 90, .int a0, .int a1, .long a2] (rx_hp L t hi hl v) Q := by
  show rx_aw 227 0 [.ref 90, .int a0, .int a1, .long a2, rx_no, rx_no, rx_no, rx_no, rx_no] [] (rx_hp L t hi hl v) Q
  refine rx_aw_s 2 (pc := 0) rfl ?_
  show rx_aw 227 3 [.ref 90, .int a0, .int a1, .long a2, rx_no, .int 0, rx_no, rx_no, rx_no] [] (rx_hp L t hi hl v) Q
  exact k
theorem w227_leads_r_3 {L : Nat} {t : List (Nat × Nat)} {hi : Nat → Nat → Int32} {hl : Nat → Nat → Int64} {v : Nat → Nat → Option Nat} {Q : Option Value → rx_H → Prop} {x1 : Int32} {x2 : Int32} {x3 : Int64} {x5 : Int32} (k : ((64 ≤ x5 → rx_aw 227 49 [.ref 90, .int x1, .int x2, .long x3, rx_no, .int 1, rx_no, rx_no, rx_no] [] (rx_hp L t hi hl v) Q) ∧ (¬ (64 ≤ x5) → ((x5 = x1 → rx_me 169 [.int x5] (rx_hp L t hi hl v) (fun r h2 => ∃ z3 : Int64, r = some (.long z3) ∧ rx_ok2 L t h2 (fun hi3 hl3 v3 => (((lg_cmp (x3 &&& z3) 0) = 0 → (∃ j5 : Nat, x5 = nI j5 ∧ j5 < 64 ∧ rx_aw 227 3 [.ref 90, .int x1, .int x2, .long x3, rx_no, .int (x5 + 1), rx_no, rx_no, rx_no] [] (rx_hp L t (rx_u hi3 125 j5 (vp_nar .boolean 1)) hl3 v3) Q)) ∧ (¬ ((lg_cmp (x3 &&& z3) 0) = 0) → (∃ j6 : Nat, x5 = nI j6 ∧ j6 < 64 ∧ rx_aw 227 3 [.ref 90, .int x1, .int x2, .long x3, rx_no, .int (x5 + 1), rx_no, rx_no, rx_no] [] (rx_hp L t (rx_u hi3 125 j6 (vp_nar .boolean 0)) hl3 v3) Q)))))) ∧ (¬ (x5 = x1) → (∃ j7 : Nat, x5 = nI j7 ∧ j7 < 64 ∧ rx_aw 227 3 [.ref 90, .int x1, .int x2, .long x3, rx_no, .int (x5 + 1), rx_no, rx_no, rx_no] [] (rx_hp L t (rx_u hi 125 j7 (vp_nar .boolean 0)) hl v) Q)))))) : rx_aw 227 3 [.ref 90, .int x1, .int x2, .long x3, rx_no, .int x5, rx_no, rx_no, rx_no] [] (rx_hp L t hi hl v) Q := by
  refine rx_aw_s 3 (pc := 3) rfl ?_
  refine rx_w_if (c := 64 ≤ x5) ⟨fun c1 => ?_, fun c1 => ?_⟩
  · have k := k.1 c1
    show rx_aw 227 46 [.ref 90, .int x1, .int x2, .long x3, rx_no, .int x5, rx_no, rx_no, rx_no] [] (rx_hp L t hi hl v) Q
    refine rx_aw_s 2 (pc := 46) rfl ?_
    show rx_aw 227 49 [.ref 90, .int x1, .int x2, .long x3, rx_no, .int 1, rx_no, rx_no, rx_no] [] (rx_hp L t hi hl v) Q
    exact k
  · have k := k.2 c1
    show rx_aw 227 10 [.ref 90, .int x1, .int x2, .long x3, rx_no, .int x5, rx_no, rx_no, rx_no] [] (rx_hp L t hi hl v) Q
    refine rx_aw_s 6 (pc := 10) rfl ?_
    refine rx_w_ifn (c := x5 = x1) ⟨fun c2 => ?_, fun c2 => ?_⟩
    · have k := k.1 c2
      show rx_aw 227 22 [.ref 90, .int x1, .int x2, .long x3, rx_no, .int x5, rx_no, rx_no, rx_no] [.int x5, .ref 125] (rx_hp L t hi hl v) Q
      refine rx_aw_s 2 (pc := 22) rfl ?_
      show rx_aw 227 25 [.ref 90, .int x1, .int x2, .long x3, rx_no, .int x5, rx_no, rx_no, rx_no] [.int x5, .long x3, .int x5, .ref 125] (rx_hp L t hi hl v) Q
      refine rx_w_callL (j := 169) (pc := 25) rfl rfl rfl rfl rfl ?_
      refine rx_aw.mono k (fun r h2 k => ?_)
      obtain ⟨z3, rfl, hi3, hl3, v3, rfl, k⟩ := k
      refine ⟨z3, rfl, ?_⟩
      show rx_aw 227 28 [.ref 90, .int x1, .int x2, .long x3, rx_no, .int x5, rx_no, rx_no, rx_no] [.long z3, .long x3, .int x5, .ref 125] (rx_hp L t hi3 hl3 v3) Q
      refine rx_aw_s 4 (pc := 28) rfl ?_
      refine rx_w_ifn (c := (lg_cmp (x3 &&& z3) 0) = 0) ⟨fun c4 => ?_, fun c4 => ?_⟩
      · have k := k.1 c4
        show rx_aw 227 34 [.ref 90, .int x1, .int x2, .long x3, rx_no, .int x5, rx_no, rx_no, rx_no] [.int x5, .ref 125] (rx_hp L t hi3 hl3 v3) Q
        refine rx_aw_s 2 (pc := 34) rfl ?_
        show rx_aw 227 39 [.ref 90, .int x1, .int x2, .long x3, rx_no, .int x5, rx_no, rx_no, rx_no] [.int 1, .int x5, .ref 125] (rx_hp L t hi3 hl3 v3) Q
        obtain ⟨j5, ej5, hj5, k⟩ := k
        refine rx_aw_zast (pc := 39) (n := 64) j5 ej5 rfl rfl (by decide) rfl hj5 (by decide) ?_
        show rx_aw 227 40 [.ref 90, .int x1, .int x2, .long x3, rx_no, .int x5, rx_no, rx_no, rx_no] [] (rx_hp L t (rx_u hi3 125 j5 (vp_nar .boolean 1)) hl3 v3) Q
        refine rx_aw_s 2 (pc := 40) rfl ?_
        show rx_aw 227 3 [.ref 90, .int x1, .int x2, .long x3, rx_no, .int (x5 + 1), rx_no, rx_no, rx_no] [] (rx_hp L t (rx_u hi3 125 j5 (vp_nar .boolean 1)) hl3 v3) Q
        exact k
      · have k := k.2 c4
        show rx_aw 227 38 [.ref 90, .int x1, .int x2, .long x3, rx_no, .int x5, rx_no, rx_no, rx_no] [.int x5, .ref 125] (rx_hp L t hi3 hl3 v3) Q
        refine rx_aw_s 1 (pc := 38) rfl ?_
        show rx_aw 227 39 [.ref 90, .int x1, .int x2, .long x3, rx_no, .int x5, rx_no, rx_no, rx_no] [.int 0, .int x5, .ref 125] (rx_hp L t hi3 hl3 v3) Q
        obtain ⟨j6, ej6, hj6, k⟩ := k
        refine rx_aw_zast (pc := 39) (n := 64) j6 ej6 rfl rfl (by decide) rfl hj6 (by decide) ?_
        show rx_aw 227 40 [.ref 90, .int x1, .int x2, .long x3, rx_no, .int x5, rx_no, rx_no, rx_no] [] (rx_hp L t (rx_u hi3 125 j6 (vp_nar .boolean 0)) hl3 v3) Q
        refine rx_aw_s 2 (pc := 40) rfl ?_
        show rx_aw 227 3 [.ref 90, .int x1, .int x2, .long x3, rx_no, .int (x5 + 1), rx_no, rx_no, rx_no] [] (rx_hp L t (rx_u hi3 125 j6 (vp_nar .boolean 0)) hl3 v3) Q
        exact k
    · have k := k.2 c2
      show rx_aw 227 38 [.ref 90, .int x1, .int x2, .long x3, rx_no, .int x5, rx_no, rx_no, rx_no] [.int x5, .ref 125] (rx_hp L t hi hl v) Q
      refine rx_aw_s 1 (pc := 38) rfl ?_
      show rx_aw 227 39 [.ref 90, .int x1, .int x2, .long x3, rx_no, .int x5, rx_no, rx_no, rx_no] [.int 0, .int x5, .ref 125] (rx_hp L t hi hl v) Q
      obtain ⟨j7, ej7, hj7, k⟩ := k
      refine rx_aw_zast (pc := 39) (n := 64) j7 ej7 rfl rfl (by decide) rfl hj7 (by decide) ?_
      show rx_aw 227 40 [.ref 90, .int x1, .int x2, .long x3, rx_no, .int x5, rx_no, rx_no, rx_no] [] (rx_hp L t (rx_u hi 125 j7 (vp_nar .boolean 0)) hl v) Q
      refine rx_aw_s 2 (pc := 40) rfl ?_
      show rx_aw 227 3 [.ref 90, .int x1, .int x2, .long x3, rx_no, .int (x5 + 1), rx_no, rx_no, rx_no] [] (rx_hp L t (rx_u hi 125 j7 (vp_nar .boolean 0)) hl v) Q
      exact k
theorem w227_leads_r_49 {L : Nat} {t : List (Nat × Nat)} {hi : Nat → Nat → Int32} {hl : Nat → Nat → Int64} {v : Nat → Nat → Option Nat} {Q : Option Value → rx_H → Prop} {x1 : Int32} {x2 : Int32} {x3 : Int64} {x5 : Int32} (k : ((x5 = 0 → (∃ j9 : Nat, x2 = nI j9 ∧ j9 < 64 ∧ (((hi 125 j9) = 0 ∨ (hi 125 j9) = 1) ∧ Q (some (.int (hi 125 j9))) (rx_hp L t hi hl v)))) ∧ (¬ (x5 = 0) → rx_aw 227 60 [.ref 90, .int x1, .int x2, .long x3, rx_no, .int 0, .int 0, rx_no, rx_no] [] (rx_hp L t hi hl v) Q))) : rx_aw 227 49 [.ref 90, .int x1, .int x2, .long x3, rx_no, .int x5, rx_no, rx_no, rx_no] [] (rx_hp L t hi hl v) Q := by
  refine rx_aw_s 2 (pc := 49) rfl ?_
  refine rx_w_if (c := x5 = 0) ⟨fun c8 => ?_, fun c8 => ?_⟩
  · have k := k.1 c8
    show rx_aw 227 151 [.ref 90, .int x1, .int x2, .long x3, rx_no, .int x5, rx_no, rx_no, rx_no] [] (rx_hp L t hi hl v) Q
    refine rx_aw_s 3 (pc := 151) rfl ?_
    show rx_aw 227 156 [.ref 90, .int x1, .int x2, .long x3, rx_no, .int x5, rx_no, rx_no, rx_no] [.int x2, .ref 125] (rx_hp L t hi hl v) Q
    obtain ⟨j9, ej9, hj9, k⟩ := k
    refine rx_aw_bald (pc := 156) (n := 64) j9 ej9 rfl (Or.inr rfl) (by decide) rfl hj9 (by decide) ?_
    show rx_aw 227 157 [.ref 90, .int x1, .int x2, .long x3, rx_no, .int x5, rx_no, rx_no, rx_no] [.int (hi 125 j9)] (rx_hp L t hi hl v) Q
    exact rx_w_zret (pc := 157) rfl rfl k
  · have k := k.2 c8
    show rx_aw 227 54 [.ref 90, .int x1, .int x2, .long x3, rx_no, .int x5, rx_no, rx_no, rx_no] [] (rx_hp L t hi hl v) Q
    refine rx_aw_s 4 (pc := 54) rfl ?_
    show rx_aw 227 60 [.ref 90, .int x1, .int x2, .long x3, rx_no, .int 0, .int 0, rx_no, rx_no] [] (rx_hp L t hi hl v) Q
    exact k
theorem w227_leads_r_60 {L : Nat} {t : List (Nat × Nat)} {hi : Nat → Nat → Int32} {hl : Nat → Nat → Int64} {v : Nat → Nat → Option Nat} {Q : Option Value → rx_H → Prop} {x1 : Int32} {x2 : Int32} {x3 : Int64} {x5 : Int32} {x6 : Int32} (k : (((hi 90 2) ≤ x6 → rx_aw 227 49 [.ref 90, .int x1, .int x2, .long x3, rx_no, .int x5, rx_no, rx_no, rx_no] [] (rx_hp L t hi hl v) Q) ∧ (¬ ((hi 90 2) ≤ x6) → rx_aw 227 72 [.ref 90, .int x1, .int x2, .long x3, rx_no, .int x5, .int x6, .int 0, rx_no] [] (rx_hp L t hi hl v) Q))) : rx_aw 227 60 [.ref 90, .int x1, .int x2, .long x3, rx_no, .int x5, .int x6, rx_no, rx_no] [] (rx_hp L t hi hl v) Q := by
  refine rx_aw_s 4 (pc := 60) rfl ?_
  refine rx_w_if (c := (hi 90 2) ≤ x6) ⟨fun c10 => ?_, fun c10 => ?_⟩
  · have k := k.1 c10
    show rx_aw 227 148 [.ref 90, .int x1, .int x2, .long x3, rx_no, .int x5, .int x6, rx_no, rx_no] [] (rx_hp L t hi hl v) Q
    refine rx_aw_s 1 (pc := 148) rfl ?_
    show rx_aw 227 49 [.ref 90, .int x1, .int x2, .long x3, rx_no, .int x5, .int x6, rx_no, rx_no] [] (rx_hp L t hi hl v) Q
    exact rx_aw_le (ls := [.ref 90, .int x1, .int x2, .long x3, rx_no, .int x5, rx_no, rx_no, rx_no]) ⟨Or.inr rfl, ⟨Or.inr rfl, ⟨Or.inr rfl, ⟨Or.inr rfl, ⟨Or.inl rfl, ⟨Or.inr rfl, ⟨Or.inl rfl, ⟨Or.inl rfl, ⟨Or.inl rfl, trivial⟩⟩⟩⟩⟩⟩⟩⟩⟩ k
  · have k := k.2 c10
    show rx_aw 227 69 [.ref 90, .int x1, .int x2, .long x3, rx_no, .int x5, .int x6, rx_no, rx_no] [] (rx_hp L t hi hl v) Q
    refine rx_aw_s 2 (pc := 69) rfl ?_
    show rx_aw 227 72 [.ref 90, .int x1, .int x2, .long x3, rx_no, .int x5, .int x6, .int 0, rx_no] [] (rx_hp L t hi hl v) Q
    exact k
theorem w227_leads_r_72 {L : Nat} {t : List (Nat × Nat)} {hi : Nat → Nat → Int32} {hl : Nat → Nat → Int64} {v : Nat → Nat → Option Nat} {Q : Option Value → rx_H → Prop} {x1 : Int32} {x2 : Int32} {x3 : Int64} {x5 : Int32} {x6 : Int32} {x7 : Int32} (k : ((4 ≤ x7 → rx_aw 227 60 [.ref 90, .int x1, .int x2, .long x3, rx_no, .int x5, .int (x6 + 1), rx_no, rx_no] [] (rx_hp L t hi hl v) Q) ∧ (¬ (4 ≤ x7) → (∃ j12 : Nat, x6 = nI j12 ∧ j12 < 64 ∧ (((hi 125 j12) = 0 → rx_aw 227 60 [.ref 90, .int x1, .int x2, .long x3, rx_no, .int x5, .int (x6 + 1), rx_no, rx_no] [] (rx_hp L t hi hl v) Q) ∧ (¬ ((hi 125 j12) = 0) → rx_me 181 [.ref 90, .int x6, .int x7] (rx_hp L t hi hl v) (fun r h2 => ∃ z14 : Int32, r = some (.int z14) ∧ rx_ok2 L t h2 (fun hi14 hl14 v14 => ((z14 < 0 → rx_aw 227 72 [.ref 90, .int x1, .int x2, .long x3, rx_no, .int x5, .int x6, .int (x7 + 1), rx_no] [] (rx_hp L t hi14 hl14 v14) Q) ∧ (¬ (z14 < 0) → (∃ j16 : Nat, z14 = nI j16 ∧ j16 < 64 ∧ (((hi14 125 j16) = 0 → rx_me 169 [.int z14] (rx_hp L t hi14 hl14 v14) (fun r h2 => ∃ z18 : Int64, r = some (.long z18) ∧ rx_ok2 L t h2 (fun hi18 hl18 v18 => (((lg_cmp (x3 &&& z18) 0) = 0 → (∃ j20 : Nat, z14 = nI j20 ∧ j20 < 64 ∧ rx_aw 227 72 [.ref 90, .int x1, .int x2, .long x3, rx_no, .int 1, .int x6, .int (x7 + 1), rx_no] [] (rx_hp L t (rx_u hi18 125 j20 (vp_nar .boolean 1)) hl18 v18) Q)) ∧ (¬ ((lg_cmp (x3 &&& z18) 0) = 0) → rx_aw 227 72 [.ref 90, .int x1, .int x2, .long x3, rx_no, .int x5, .int x6, .int (x7 + 1), rx_no] [] (rx_hp L t hi18 hl18 v18) Q))))) ∧ (¬ ((hi14 125 j16) = 0) → rx_aw 227 72 [.ref 90, .int x1, .int x2, .long x3, rx_no, .int x5, .int x6, .int (x7 + 1), rx_no] [] (rx_hp L t hi14 hl14 v14) Q))))))))))))) : rx_aw 227 72 [.ref 90, .int x1, .int x2, .long x3, rx_no, .int x5, .int x6, .int x7, rx_no] [] (rx_hp L t hi hl v) Q := by
  refine rx_aw_s 3 (pc := 72) rfl ?_
  refine rx_w_if (c := 4 ≤ x7) ⟨fun c11 => ?_, fun c11 => ?_⟩
  · have k := k.1 c11
    show rx_aw 227 142 [.ref 90, .int x1, .int x2, .long x3, rx_no, .int x5, .int x6, .int x7, rx_no] [] (rx_hp L t hi hl v) Q
    refine rx_aw_s 2 (pc := 142) rfl ?_
    show rx_aw 227 60 [.ref 90, .int x1, .int x2, .long x3, rx_no, .int x5, .int (x6 + 1), .int x7, rx_no] [] (rx_hp L t hi hl v) Q
    exact rx_aw_le (ls := [.ref 90, .int x1, .int x2, .long x3, rx_no, .int x5, .int (x6 + 1), rx_no, rx_no]) ⟨Or.inr rfl, ⟨Or.inr rfl, ⟨Or.inr rfl, ⟨Or.inr rfl, ⟨Or.inl rfl, ⟨Or.inr rfl, ⟨Or.inr rfl, ⟨Or.inl rfl, ⟨Or.inl rfl, trivial⟩⟩⟩⟩⟩⟩⟩⟩⟩ k
  · have k := k.2 c11
    show rx_aw 227 78 [.ref 90, .int x1, .int x2, .long x3, rx_no, .int x5, .int x6, .int x7, rx_no] [] (rx_hp L t hi hl v) Q
    refine rx_aw_s 3 (pc := 78) rfl ?_
    show rx_aw 227 84 [.ref 90, .int x1, .int x2, .long x3, rx_no, .int x5, .int x6, .int x7, rx_no] [.int x6, .ref 125] (rx_hp L t hi hl v) Q
    obtain ⟨j12, ej12, hj12, k⟩ := k
    refine rx_aw_bald (pc := 84) (n := 64) j12 ej12 rfl (Or.inr rfl) (by decide) rfl hj12 (by decide) ?_
    show rx_aw 227 85 [.ref 90, .int x1, .int x2, .long x3, rx_no, .int x5, .int x6, .int x7, rx_no] [.int (hi 125 j12)] (rx_hp L t hi hl v) Q
    refine rx_aw_s 1 (pc := 85) rfl ?_
    refine rx_w_if (c := (hi 125 j12) = 0) ⟨fun c13 => ?_, fun c13 => ?_⟩
    · have k := k.1 c13
      show rx_aw 227 142 [.ref 90, .int x1, .int x2, .long x3, rx_no, .int x5, .int x6, .int x7, rx_no] [] (rx_hp L t hi hl v) Q
      refine rx_aw_s 2 (pc := 142) rfl ?_
      show rx_aw 227 60 [.ref 90, .int x1, .int x2, .long x3, rx_no, .int x5, .int (x6 + 1), .int x7, rx_no] [] (rx_hp L t hi hl v) Q
      exact rx_aw_le (ls := [.ref 90, .int x1, .int x2, .long x3, rx_no, .int x5, .int (x6 + 1), rx_no, rx_no]) ⟨Or.inr rfl, ⟨Or.inr rfl, ⟨Or.inr rfl, ⟨Or.inr rfl, ⟨Or.inl rfl, ⟨Or.inr rfl, ⟨Or.inr rfl, ⟨Or.inl rfl, ⟨Or.inl rfl, trivial⟩⟩⟩⟩⟩⟩⟩⟩⟩ k
    · have k := k.2 c13
      show rx_aw 227 88 [.ref 90, .int x1, .int x2, .long x3, rx_no, .int x5, .int x6, .int x7, rx_no] [] (rx_hp L t hi hl v) Q
      refine rx_aw_s 3 (pc := 88) rfl ?_
      show rx_aw 227 93 [.ref 90, .int x1, .int x2, .long x3, rx_no, .int x5, .int x6, .int x7, rx_no] [.int x7, .int x6, .ref 90] (rx_hp L t hi hl v) Q
      refine rx_w_callI (j := 181) (pc := 93) rfl rfl rfl rfl rfl ?_
      refine rx_aw.mono k (fun r h2 k => ?_)
      obtain ⟨z14, rfl, hi14, hl14, v14, rfl, k⟩ := k
      refine ⟨z14, rfl, ?_⟩
      show rx_aw 227 96 [.ref 90, .int x1, .int x2, .long x3, rx_no, .int x5, .int x6, .int x7, rx_no] [.int z14] (rx_hp L t hi14 hl14 v14) Q
      refine rx_aw_s 3 (pc := 96) rfl ?_
      refine rx_w_if (c := z14 < 0) ⟨fun c15 => ?_, fun c15 => ?_⟩
      · have k := k.1 c15
        show rx_aw 227 136 [.ref 90, .int x1, .int x2, .long x3, rx_no, .int x5, .int x6, .int x7, .int z14] [] (rx_hp L t hi14 hl14 v14) Q
        refine rx_aw_s 2 (pc := 136) rfl ?_
        show rx_aw 227 72 [.ref 90, .int x1, .int x2, .long x3, rx_no, .int x5, .int x6, .int (x7 + 1), .int z14] [] (rx_hp L t hi14 hl14 v14) Q
        exact rx_aw_le (ls := [.ref 90, .int x1, .int x2, .long x3, rx_no, .int x5, .int x6, .int (x7 + 1), rx_no]) ⟨Or.inr rfl, ⟨Or.inr rfl, ⟨Or.inr rfl, ⟨Or.inr rfl, ⟨Or.inl rfl, ⟨Or.inr rfl, ⟨Or.inr rfl, ⟨Or.inr rfl, ⟨Or.inl rfl, trivial⟩⟩⟩⟩⟩⟩⟩⟩⟩ k
      · have k := k.2 c15
        show rx_aw 227 103 [.ref 90, .int x1, .int x2, .long x3, rx_no, .int x5, .int x6, .int x7, .int z14] [] (rx_hp L t hi14 hl14 v14) Q
        refine rx_aw_s 3 (pc := 103) rfl ?_
        show rx_aw 227 109 [.ref 90, .int x1, .int x2, .long x3, rx_no, .int x5, .int x6, .int x7, .int z14] [.int z14, .ref 125] (rx_hp L t hi14 hl14 v14) Q
        obtain ⟨j16, ej16, hj16, k⟩ := k
        refine rx_aw_bald (pc := 109) (n := 64) j16 ej16 rfl (Or.inr rfl) (by decide) rfl hj16 (by decide) ?_
        show rx_aw 227 110 [.ref 90, .int x1, .int x2, .long x3, rx_no, .int x5, .int x6, .int x7, .int z14] [.int (hi14 125 j16)] (rx_hp L t hi14 hl14 v14) Q
        refine rx_aw_s 1 (pc := 110) rfl ?_
        refine rx_w_ifn (c := (hi14 125 j16) = 0) ⟨fun c17 => ?_, fun c17 => ?_⟩
        · have k := k.1 c17
          show rx_aw 227 113 [.ref 90, .int x1, .int x2, .long x3, rx_no, .int x5, .int x6, .int x7, .int z14] [] (rx_hp L t hi14 hl14 v14) Q
          refine rx_aw_s 2 (pc := 113) rfl ?_
          show rx_aw 227 116 [.ref 90, .int x1, .int x2, .long x3, rx_no, .int x5, .int x6, .int x7, .int z14] [.int z14, .long x3] (rx_hp L t hi14 hl14 v14) Q
          refine rx_w_callL (j := 169) (pc := 116) rfl rfl rfl rfl rfl ?_
          refine rx_aw.mono k (fun r h2 k => ?_)
          obtain ⟨z18, rfl, hi18, hl18, v18, rfl, k⟩ := k
          refine ⟨z18, rfl, ?_⟩
          show rx_aw 227 119 [.ref 90, .int x1, .int x2, .long x3, rx_no, .int x5, .int x6, .int x7, .int z14] [.long z18, .long x3] (rx_hp L t hi18 hl18 v18) Q
          refine rx_aw_s 4 (pc := 119) rfl ?_
          refine rx_w_ifn (c := (lg_cmp (x3 &&& z18) 0) = 0) ⟨fun c19 => ?_, fun c19 => ?_⟩
          · have k := k.1 c19
            show rx_aw 227 125 [.ref 90, .int x1, .int x2, .long x3, rx_no, .int x5, .int x6, .int x7, .int z14] [] (rx_hp L t hi18 hl18 v18) Q
            refine rx_aw_s 4 (pc := 125) rfl ?_
            show rx_aw 227 132 [.ref 90, .int x1, .int x2, .long x3, rx_no, .int x5, .int x6, .int x7, .int z14] [.int 1, .int z14, .ref 125] (rx_hp L t hi18 hl18 v18) Q
            obtain ⟨j20, ej20, hj20, k⟩ := k
            refine rx_aw_zast (pc := 132) (n := 64) j20 ej20 rfl rfl (by decide) rfl hj20 (by decide) ?_
            show rx_aw 227 133 [.ref 90, .int x1, .int x2, .long x3, rx_no, .int x5, .int x6, .int x7, .int z14] [] (rx_hp L t (rx_u hi18 125 j20 (vp_nar .boolean 1)) hl18 v18) Q
            refine rx_aw_s 4 (pc := 133) rfl ?_
            show rx_aw 227 72 [.ref 90, .int x1, .int x2, .long x3, rx_no, .int 1, .int x6, .int (x7 + 1), .int z14] [] (rx_hp L t (rx_u hi18 125 j20 (vp_nar .boolean 1)) hl18 v18) Q
            exact rx_aw_le (ls := [.ref 90, .int x1, .int x2, .long x3, rx_no, .int 1, .int x6, .int (x7 + 1), rx_no]) ⟨Or.inr rfl, ⟨Or.inr rfl, ⟨Or.inr rfl, ⟨Or.inr rfl, ⟨Or.inl rfl, ⟨Or.inr rfl, ⟨Or.inr rfl, ⟨Or.inr rfl, ⟨Or.inl rfl, trivial⟩⟩⟩⟩⟩⟩⟩⟩⟩ k
          · have k := k.2 c19
            show rx_aw 227 136 [.ref 90, .int x1, .int x2, .long x3, rx_no, .int x5, .int x6, .int x7, .int z14] [] (rx_hp L t hi18 hl18 v18) Q
            refine rx_aw_s 2 (pc := 136) rfl ?_
            show rx_aw 227 72 [.ref 90, .int x1, .int x2, .long x3, rx_no, .int x5, .int x6, .int (x7 + 1), .int z14] [] (rx_hp L t hi18 hl18 v18) Q
            exact rx_aw_le (ls := [.ref 90, .int x1, .int x2, .long x3, rx_no, .int x5, .int x6, .int (x7 + 1), rx_no]) ⟨Or.inr rfl, ⟨Or.inr rfl, ⟨Or.inr rfl, ⟨Or.inr rfl, ⟨Or.inl rfl, ⟨Or.inr rfl, ⟨Or.inr rfl, ⟨Or.inr rfl, ⟨Or.inl rfl, trivial⟩⟩⟩⟩⟩⟩⟩⟩⟩ k
        · have k := k.2 c17
          show rx_aw 227 136 [.ref 90, .int x1, .int x2, .long x3, rx_no, .int x5, .int x6, .int x7, .int z14] [] (rx_hp L t hi14 hl14 v14) Q
          refine rx_aw_s 2 (pc := 136) rfl ?_
          show rx_aw 227 72 [.ref 90, .int x1, .int x2, .long x3, rx_no, .int x5, .int x6, .int (x7 + 1), .int z14] [] (rx_hp L t hi14 hl14 v14) Q
          exact rx_aw_le (ls := [.ref 90, .int x1, .int x2, .long x3, rx_no, .int x5, .int x6, .int (x7 + 1), rx_no]) ⟨Or.inr rfl, ⟨Or.inr rfl, ⟨Or.inr rfl, ⟨Or.inr rfl, ⟨Or.inl rfl, ⟨Or.inr rfl, ⟨Or.inr rfl, ⟨Or.inr rfl, ⟨Or.inl rfl, trivial⟩⟩⟩⟩⟩⟩⟩⟩⟩ k
/-- CartFloorModel.few(III)I -/
theorem w228_few_r {L : Nat} {t : List (Nat × Nat)} {hi : Nat → Nat → Int32} {hl : Nat → Nat → Int64} {v : Nat → Nat → Option Nat} {Q : Option Value → rx_H → Prop} {a0 : Int32} {a1 : Int32} {a2 : Int32} (k : ((a2 = (-1) → (∃ j2 : Nat, 0 = nI j2 ∧ j2 < 3 ∧ (∃ j3 : Nat, 1 = nI j3 ∧ j3 < 3 ∧ (∃ j4 : Nat, 2 = nI j4 ∧ j4 < 3 ∧ rx_me 229 [.ref 90, .int a0] (rx_hp L t (rx_u (rx_u (rx_u (rx_u hi 90 53 2) 128 j2 a0) 128 j3 a1) 128 j4 a2) hl v) (fun r h2 => ∃ z5 : Int32, r = some (.int z5) ∧ rx_ok2 L t h2 (fun hi5 hl5 v5 => ((z5 = 0 → Q (some (.int (-2))) (rx_hp L t hi5 hl5 v5)) ∧ (¬ (z5 = 0) → rx_me 229 [.ref 90, .int a1] (rx_hp L t hi5 hl5 v5) (fun r h2 => ∃ z7 : Int32, r = some (.int z7) ∧ rx_ok2 L t h2 (fun hi7 hl7 v7 => ((z7 = 0 → Q (some (.int (-2))) (rx_hp L t hi7 hl7 v7)) ∧ (¬ (z7 = 0) → ((a0 = a1 → Q (some (.int (-2))) (rx_hp L t hi7 hl7 v7)) ∧ (¬ (a0 = a1) → (((hi7 90 53) = 3 → rx_me 229 [.ref 90, .int a2] (rx_hp L t hi7 hl7 v7) (fun r h2 => ∃ z11 : Int32, r = some (.int z11) ∧ rx_ok2 L t h2 (fun hi11 hl11 v11 => ((z11 = 0 → Q (some (.int (-2))) (rx_hp L t hi11 hl11 v11)) ∧ (¬ (z11 = 0) → ((a2 = a0 → Q (some (.int (-2))) (rx_hp L t hi11 hl11 v11)) ∧ (¬ (a2 = a0) → ((a2 = a1 → Q (some (.int (-2))) (rx_hp L t hi11 hl11 v11)) ∧ (¬ (a2 = a1) → rx_aw 228 93 [.ref 90, .int a0, .int a1, .int a2, .int 0, rx_no] [] (rx_hp L t (rx_u hi11 90 50 0) hl11 v11) Q))))))))) ∧ (¬ ((hi7 90 53) = 3) → rx_aw 228 93 [.ref 90, .int a0, .int a1, .int a2, .int 0, rx_no] [] (rx_hp L t (rx_u hi7 90 50 0) hl7 v7) Q)))))))))))))))) ∧ (¬ (a2 = (-1)) → (∃ j15 : Nat, 0 = nI j15 ∧ j15 < 3 ∧ (∃ j16 : Nat, 1 = nI j16 ∧ j16 < 3 ∧ (∃ j17 : Nat, 2 = nI j17 ∧ j17 < 3 ∧ rx_me 229 [.ref 90, .int a0] (rx_hp L t (rx_u (rx_u (rx_u (rx_u hi 90 53 3) 128 j15 a0) 128 j16 a1) 128 j17 a2) hl v) (fun r h2 => ∃ z18 : Int32, r = some (.int z18) ∧ rx_ok2 L t h2 (fun hi18 hl18 v18 => ((z18 = 0 → Q (some (.int (-2))) (rx_hp L t hi18 hl18 v18)) ∧ (¬ (z18 = 0) → rx_me 229 [.ref 90, .int a1] (rx_hp L t hi18 hl18 v18) (fun r h2 => ∃ z20 : Int32, r = some (.int z20) ∧ rx_ok2 L t h2 (fun hi20 hl20 v20 => ((z20 = 0 → Q (some (.int (-2))) (rx_hp L t hi20 hl20 v20)) ∧ (¬ (z20 = 0) → ((a0 = a1 → Q (some (.int (-2))) (rx_hp L t hi20 hl20 v20)) ∧ (¬ (a0 = a1) → (((hi20 90 53) = 3 → rx_me 229 [.ref 90, .int a2] (rx_hp L t hi20 hl20 v20) (fun r h2 => ∃ z24 : Int32, r = some (.int z24) ∧ rx_ok2 L t h2 (fun hi24 hl24 v24 => ((z24 = 0 → Q (some (.int (-2))) (rx_hp L t hi24 hl24 v24)) ∧ (¬ (z24 = 0) → ((a2 = a0 → Q (some (.int (-2))) (rx_hp L t hi24 hl24 v24)) ∧ (¬ (a2 = a0) → ((a2 = a1 → Q (some (.int (-2))) (rx_hp L t hi24 hl24 v24)) ∧ (¬ (a2 = a1) → rx_aw 228 93 [.ref 90, .int a0, .int a1, .int a2, .int 0, rx_no] [] (rx_hp L t (rx_u hi24 90 50 0) hl24 v24) Q))))))))) ∧ (¬ ((hi20 90 53) = 3) → rx_aw 228 93 [.ref 90, .int a0, .int a1, .int a2, .int 0, rx_no] [] (rx_hp L t (rx_u hi20 90 50 0) hl20 v20) Q)))))))))))))))))) : rx_me 228 [.ref 90, .int a0, .int a1, .int a2] (rx_hp L t hi hl v) Q := by
  show rx_aw 228 0 [.ref 90, .int a0, .int a1, .int a2, rx_no, rx_no] [] (rx_hp L t hi hl v) Q
  refine rx_aw_s 4 (pc := 0) rfl ?_
  refine rx_w_ifn (c := a2 = (-1)) ⟨fun c1 => ?_, fun c1 => ?_⟩
  · have k := k.1 c1
    show rx_aw 228 6 [.ref 90, .int a0, .int a1, .int a2, rx_no, rx_no] [.ref 90] (rx_hp L t hi hl v) Q
    refine rx_aw_s 7 (pc := 6) rfl ?_
    show rx_aw 228 20 [.ref 90, .int a0, .int a1, .int a2, rx_no, rx_no] [.int a0, .int 0, .ref 128] (rx_hp L t (rx_u hi 90 53 2) hl v) Q
    obtain ⟨j2, ej2, hj2, k⟩ := k
    refine rx_aw_iast (pc := 20) (n := 3) j2 ej2 rfl rfl (by decide) rfl hj2 (by decide) ?_
    show rx_aw 228 21 [.ref 90, .int a0, .int a1, .int a2, rx_no, rx_no] [] (rx_hp L t (rx_u (rx_u hi 90 53 2) 128 j2 a0) hl v) Q
    refine rx_aw_s 4 (pc := 21) rfl ?_
    show rx_aw 228 27 [.ref 90, .int a0, .int a1, .int a2, rx_no, rx_no] [.int a1, .int 1, .ref 128] (rx_hp L t (rx_u (rx_u hi 90 53 2) 128 j2 a0) hl v) Q
    obtain ⟨j3, ej3, hj3, k⟩ := k
    refine rx_aw_iast (pc := 27) (n := 3) j3 ej3 rfl rfl (by decide) rfl hj3 (by decide) ?_
    show rx_aw 228 28 [.ref 90, .int a0, .int a1, .int a2, rx_no, rx_no] [] (rx_hp L t (rx_u (rx_u (rx_u hi 90 53 2) 128 j2 a0) 128 j3 a1) hl v) Q
    refine rx_aw_s 4 (pc := 28) rfl ?_
    show rx_aw 228 34 [.ref 90, .int a0, .int a1, .int a2, rx_no, rx_no] [.int a2, .int 2, .ref 128] (rx_hp L t (rx_u (rx_u (rx_u hi 90 53 2) 128 j2 a0) 128 j3 a1) hl v) Q
    obtain ⟨j4, ej4, hj4, k⟩ := k
    refine rx_aw_iast (pc := 34) (n := 3) j4 ej4 rfl rfl (by decide) rfl hj4 (by decide) ?_
    show rx_aw 228 35 [.ref 90, .int a0, .int a1, .int a2, rx_no, rx_no] [] (rx_hp L t (rx_u (rx_u (rx_u (rx_u hi 90 53 2) 128 j2 a0) 128 j3 a1) 128 j4 a2) hl v) Q
    refine rx_aw_s 2 (pc := 35) rfl ?_
    show rx_aw 228 37 [.ref 90, .int a0, .int a1, .int a2, rx_no, rx_no] [.int a0, .ref 90] (rx_hp L t (rx_u (rx_u (rx_u (rx_u hi 90 53 2) 128 j2 a0) 128 j3 a1) 128 j4 a2) hl v) Q
    refine rx_w_callI (j := 229) (pc := 37) rfl rfl rfl rfl rfl ?_
    refine rx_aw.mono k (fun r h2 k => ?_)
    obtain ⟨z5, rfl, hi5, hl5, v5, rfl, k⟩ := k
    refine ⟨z5, rfl, ?_⟩
    show rx_aw 228 40 [.ref 90, .int a0, .int a1, .int a2, rx_no, rx_no] [.int z5] (rx_hp L t hi5 hl5 v5) Q
    refine rx_aw_s 1 (pc := 40) rfl ?_
    refine rx_w_if (c := z5 = 0) ⟨fun c6 => ?_, fun c6 => ?_⟩
    · have k := k.1 c6
      show rx_aw 228 82 [.ref 90, .int a0, .int a1, .int a2, rx_no, rx_no] [] (rx_hp L t hi5 hl5 v5) Q
      refine rx_aw_s 1 (pc := 82) rfl ?_
      show rx_aw 228 84 [.ref 90, .int a0, .int a1, .int a2, rx_no, rx_no] [.int (-2)] (rx_hp L t hi5 hl5 v5) Q
      exact rx_aw_ret (pc := 84) rfl k
    · have k := k.2 c6
      show rx_aw 228 43 [.ref 90, .int a0, .int a1, .int a2, rx_no, rx_no] [] (rx_hp L t hi5 hl5 v5) Q
      refine rx_aw_s 2 (pc := 43) rfl ?_
      show rx_aw 228 45 [.ref 90, .int a0, .int a1, .int a2, rx_no, rx_no] [.int a1, .ref 90] (rx_hp L t hi5 hl5 v5) Q
      refine rx_w_callI (j := 229) (pc := 45) rfl rfl rfl rfl rfl ?_
      refine rx_aw.mono k (fun r h2 k => ?_)
      obtain ⟨z7, rfl, hi7, hl7, v7, rfl, k⟩ := k
      refine ⟨z7, rfl, ?_⟩
      show rx_aw 228 48 [.ref 90, .int a0, .int a1, .int a2, rx_no, rx_no] [.int z7] (rx_hp L t hi7 hl7 v7) Q
      refine rx_aw_s 1 (pc := 48) rfl ?_
      refine rx_w_if (c := z7 = 0) ⟨fun c8 => ?_, fun c8 => ?_⟩
      · have k := k.1 c8
        show rx_aw 228 82 [.ref 90, .int a0, .int a1, .int a2, rx_no, rx_no] [] (rx_hp L t hi7 hl7 v7) Q
        refine rx_aw_s 1 (pc := 82) rfl ?_
        show rx_aw 228 84 [.ref 90, .int a0, .int a1, .int a2, rx_no, rx_no] [.int (-2)] (rx_hp L t hi7 hl7 v7) Q
        exact rx_aw_ret (pc := 84) rfl k
      · have k := k.2 c8
        show rx_aw 228 51 [.ref 90, .int a0, .int a1, .int a2, rx_no, rx_no] [] (rx_hp L t hi7 hl7 v7) Q
        refine rx_aw_s 3 (pc := 51) rfl ?_
        refine rx_w_if (c := a0 = a1) ⟨fun c9 => ?_, fun c9 => ?_⟩
        · have k := k.1 c9
          show rx_aw 228 82 [.ref 90, .int a0, .int a1, .int a2, rx_no, rx_no] [] (rx_hp L t hi7 hl7 v7) Q
          refine rx_aw_s 1 (pc := 82) rfl ?_
          show rx_aw 228 84 [.ref 90, .int a0, .int a1, .int a2, rx_no, rx_no] [.int (-2)] (rx_hp L t hi7 hl7 v7) Q
          exact rx_aw_ret (pc := 84) rfl k
        · have k := k.2 c9
          show rx_aw 228 56 [.ref 90, .int a0, .int a1, .int a2, rx_no, rx_no] [] (rx_hp L t hi7 hl7 v7) Q
          refine rx_aw_s 4 (pc := 56) rfl ?_
          refine rx_w_ifn (c := (hi7 90 53) = 3) ⟨fun c10 => ?_, fun c10 => ?_⟩
          · have k := k.1 c10
            show rx_aw 228 64 [.ref 90, .int a0, .int a1, .int a2, rx_no, rx_no] [] (rx_hp L t hi7 hl7 v7) Q
            refine rx_aw_s 2 (pc := 64) rfl ?_
            show rx_aw 228 66 [.ref 90, .int a0, .int a1, .int a2, rx_no, rx_no] [.int a2, .ref 90] (rx_hp L t hi7 hl7 v7) Q
            refine rx_w_callI (j := 229) (pc := 66) rfl rfl rfl rfl rfl ?_
            refine rx_aw.mono k (fun r h2 k => ?_)
            obtain ⟨z11, rfl, hi11, hl11, v11, rfl, k⟩ := k
            refine ⟨z11, rfl, ?_⟩
            show rx_aw 228 69 [.ref 90, .int a0, .int a1, .int a2, rx_no, rx_no] [.int z11] (rx_hp L t hi11 hl11 v11) Q
            refine rx_aw_s 1 (pc := 69) rfl ?_
            refine rx_w_if (c := z11 = 0) ⟨fun c12 => ?_, fun c12 => ?_⟩
            · have k := k.1 c12
              show rx_aw 228 82 [.ref 90, .int a0, .int a1, .int a2, rx_no, rx_no] [] (rx_hp L t hi11 hl11 v11) Q
              refine rx_aw_s 1 (pc := 82) rfl ?_
              show rx_aw 228 84 [.ref 90, .int a0, .int a1, .int a2, rx_no, rx_no] [.int (-2)] (rx_hp L t hi11 hl11 v11) Q
              exact rx_aw_ret (pc := 84) rfl k
            · have k := k.2 c12
              show rx_aw 228 72 [.ref 90, .int a0, .int a1, .int a2, rx_no, rx_no] [] (rx_hp L t hi11 hl11 v11) Q
              refine rx_aw_s 3 (pc := 72) rfl ?_
              refine rx_w_if (c := a2 = a0) ⟨fun c13 => ?_, fun c13 => ?_⟩
              · have k := k.1 c13
                show rx_aw 228 82 [.ref 90, .int a0, .int a1, .int a2, rx_no, rx_no] [] (rx_hp L t hi11 hl11 v11) Q
                refine rx_aw_s 1 (pc := 82) rfl ?_
                show rx_aw 228 84 [.ref 90, .int a0, .int a1, .int a2, rx_no, rx_no] [.int (-2)] (rx_hp L t hi11 hl11 v11) Q
                exact rx_aw_ret (pc := 84) rfl k
              · have k := k.2 c13
                show rx_aw 228 77 [.ref 90, .int a0, .int a1, .int a2, rx_no, rx_no] [] (rx_hp L t hi11 hl11 v11) Q
                refine rx_aw_s 3 (pc := 77) rfl ?_
                refine rx_w_ifn (c := a2 = a1) ⟨fun c14 => ?_, fun c14 => ?_⟩
                · have k := k.1 c14
                  show rx_aw 228 82 [.ref 90, .int a0, .int a1, .int a2, rx_no, rx_no] [] (rx_hp L t hi11 hl11 v11) Q
                  refine rx_aw_s 1 (pc := 82) rfl ?_
                  show rx_aw 228 84 [.ref 90, .int a0, .int a1, .int a2, rx_no, rx_no] [.int (-2)] (rx_hp L t hi11 hl11 v11) Q
                  exact rx_aw_ret (pc := 84) rfl k
                · have k := k.2 c14
                  show rx_aw 228 85 [.ref 90, .int a0, .int a1, .int a2, rx_no, rx_no] [] (rx_hp L t hi11 hl11 v11) Q
                  refine rx_aw_s 5 (pc := 85) rfl ?_
                  show rx_aw 228 93 [.ref 90, .int a0, .int a1, .int a2, .int 0, rx_no] [] (rx_hp L t (rx_u hi11 90 50 0) hl11 v11) Q
                  exact k
          · have k := k.2 c10
            show rx_aw 228 85 [.ref 90, .int a0, .int a1, .int a2, rx_no, rx_no] [] (rx_hp L t hi7 hl7 v7) Q
            refine rx_aw_s 5 (pc := 85) rfl ?_
            show rx_aw 228 93 [.ref 90, .int a0, .int a1, .int a2, .int 0, rx_no] [] (rx_hp L t (rx_u hi7 90 50 0) hl7 v7) Q
            exact k
  · have k := k.2 c1
    show rx_aw 228 10 [.ref 90, .int a0, .int a1, .int a2, rx_no, rx_no] [.ref 90] (rx_hp L t hi hl v) Q
    refine rx_aw_s 6 (pc := 10) rfl ?_
    show rx_aw 228 20 [.ref 90, .int a0, .int a1, .int a2, rx_no, rx_no] [.int a0, .int 0, .ref 128] (rx_hp L t (rx_u hi 90 53 3) hl v) Q
    obtain ⟨j15, ej15, hj15, k⟩ := k
    refine rx_aw_iast (pc := 20) (n := 3) j15 ej15 rfl rfl (by decide) rfl hj15 (by decide) ?_
    show rx_aw 228 21 [.ref 90, .int a0, .int a1, .int a2, rx_no, rx_no] [] (rx_hp L t (rx_u (rx_u hi 90 53 3) 128 j15 a0) hl v) Q
    refine rx_aw_s 4 (pc := 21) rfl ?_
    show rx_aw 228 27 [.ref 90, .int a0, .int a1, .int a2, rx_no, rx_no] [.int a1, .int 1, .ref 128] (rx_hp L t (rx_u (rx_u hi 90 53 3) 128 j15 a0) hl v) Q
    obtain ⟨j16, ej16, hj16, k⟩ := k
    refine rx_aw_iast (pc := 27) (n := 3) j16 ej16 rfl rfl (by decide) rfl hj16 (by decide) ?_
    show rx_aw 228 28 [.ref 90, .int a0, .int a1, .int a2, rx_no, rx_no] [] (rx_hp L t (rx_u (rx_u (rx_u hi 90 53 3) 128 j15 a0) 128 j16 a1) hl v) Q
    refine rx_aw_s 4 (pc := 28) rfl ?_
    show rx_aw 228 34 [.ref 90, .int a0, .int a1, .int a2, rx_no, rx_no] [.int a2, .int 2, .ref 128] (rx_hp L t (rx_u (rx_u (rx_u hi 90 53 3) 128 j15 a0) 128 j16 a1) hl v) Q
    obtain ⟨j17, ej17, hj17, k⟩ := k
    refine rx_aw_iast (pc := 34) (n := 3) j17 ej17 rfl rfl (by decide) rfl hj17 (by decide) ?_
    show rx_aw 228 35 [.ref 90, .int a0, .int a1, .int a2, rx_no, rx_no] [] (rx_hp L t (rx_u (rx_u (rx_u (rx_u hi 90 53 3) 128 j15 a0) 128 j16 a1) 128 j17 a2) hl v) Q
    refine rx_aw_s 2 (pc := 35) rfl ?_
    show rx_aw 228 37 [.ref 90, .int a0, .int a1, .int a2, rx_no, rx_no] [.int a0, .ref 90] (rx_hp L t (rx_u (rx_u (rx_u (rx_u hi 90 53 3) 128 j15 a0) 128 j16 a1) 128 j17 a2) hl v) Q
    refine rx_w_callI (j := 229) (pc := 37) rfl rfl rfl rfl rfl ?_
    refine rx_aw.mono k (fun r h2 k => ?_)
    obtain ⟨z18, rfl, hi18, hl18, v18, rfl, k⟩ := k
    refine ⟨z18, rfl, ?_⟩
    show rx_aw 228 40 [.ref 90, .int a0, .int a1, .int a2, rx_no, rx_no] [.int z18] (rx_hp L t hi18 hl18 v18) Q
    refine rx_aw_s 1 (pc := 40) rfl ?_
    refine rx_w_if (c := z18 = 0) ⟨fun c19 => ?_, fun c19 => ?_⟩
    · have k := k.1 c19
      show rx_aw 228 82 [.ref 90, .int a0, .int a1, .int a2, rx_no, rx_no] [] (rx_hp L t hi18 hl18 v18) Q
      refine rx_aw_s 1 (pc := 82) rfl ?_
      show rx_aw 228 84 [.ref 90, .int a0, .int a1, .int a2, rx_no, rx_no] [.int (-2)] (rx_hp L t hi18 hl18 v18) Q
      exact rx_aw_ret (pc := 84) rfl k
    · have k := k.2 c19
      show rx_aw 228 43 [.ref 90, .int a0, .int a1, .int a2, rx_no, rx_no] [] (rx_hp L t hi18 hl18 v18) Q
      refine rx_aw_s 2 (pc := 43) rfl ?_
      show rx_aw 228 45 [.ref 90, .int a0, .int a1, .int a2, rx_no, rx_no] [.int a1, .ref 90] (rx_hp L t hi18 hl18 v18) Q
      refine rx_w_callI (j := 229) (pc := 45) rfl rfl rfl rfl rfl ?_
      refine rx_aw.mono k (fun r h2 k => ?_)
      obtain ⟨z20, rfl, hi20, hl20, v20, rfl, k⟩ := k
      refine ⟨z20, rfl, ?_⟩
      show rx_aw 228 48 [.ref 90, .int a0, .int a1, .int a2, rx_no, rx_no] [.int z20] (rx_hp L t hi20 hl20 v20) Q
      refine rx_aw_s 1 (pc := 48) rfl ?_
      refine rx_w_if (c := z20 = 0) ⟨fun c21 => ?_, fun c21 => ?_⟩
      · have k := k.1 c21
        show rx_aw 228 82 [.ref 90, .int a0, .int a1, .int a2, rx_no, rx_no] [] (rx_hp L t hi20 hl20 v20) Q
        refine rx_aw_s 1 (pc := 82) rfl ?_
        show rx_aw 228 84 [.ref 90, .int a0, .int a1, .int a2, rx_no, rx_no] [.int (-2)] (rx_hp L t hi20 hl20 v20) Q
        exact rx_aw_ret (pc := 84) rfl k
      · have k := k.2 c21
        show rx_aw 228 51 [.ref 90, .int a0, .int a1, .int a2, rx_no, rx_no] [] (rx_hp L t hi20 hl20 v20) Q
        refine rx_aw_s 3 (pc := 51) rfl ?_
        refine rx_w_if (c := a0 = a1) ⟨fun c22 => ?_, fun c22 => ?_⟩
        · have k := k.1 c22
          show rx_aw 228 82 [.ref 90, .int a0, .int a1, .int a2, rx_no, rx_no] [] (rx_hp L t hi20 hl20 v20) Q
          refine rx_aw_s 1 (pc := 82) rfl ?_
          show rx_aw 228 84 [.ref 90, .int a0, .int a1, .int a2, rx_no, rx_no] [.int (-2)] (rx_hp L t hi20 hl20 v20) Q
          exact rx_aw_ret (pc := 84) rfl k
        · have k := k.2 c22
          show rx_aw 228 56 [.ref 90, .int a0, .int a1, .int a2, rx_no, rx_no] [] (rx_hp L t hi20 hl20 v20) Q
          refine rx_aw_s 4 (pc := 56) rfl ?_
          refine rx_w_ifn (c := (hi20 90 53) = 3) ⟨fun c23 => ?_, fun c23 => ?_⟩
          · have k := k.1 c23
            show rx_aw 228 64 [.ref 90, .int a0, .int a1, .int a2, rx_no, rx_no] [] (rx_hp L t hi20 hl20 v20) Q
            refine rx_aw_s 2 (pc := 64) rfl ?_
            show rx_aw 228 66 [.ref 90, .int a0, .int a1, .int a2, rx_no, rx_no] [.int a2, .ref 90] (rx_hp L t hi20 hl20 v20) Q
            refine rx_w_callI (j := 229) (pc := 66) rfl rfl rfl rfl rfl ?_
            refine rx_aw.mono k (fun r h2 k => ?_)
            obtain ⟨z24, rfl, hi24, hl24, v24, rfl, k⟩ := k
            refine ⟨z24, rfl, ?_⟩
            show rx_aw 228 69 [.ref 90, .int a0, .int a1, .int a2, rx_no, rx_no] [.int z24] (rx_hp L t hi24 hl24 v24) Q
            refine rx_aw_s 1 (pc := 69) rfl ?_
            refine rx_w_if (c := z24 = 0) ⟨fun c25 => ?_, fun c25 => ?_⟩
            · have k := k.1 c25
              show rx_aw 228 82 [.ref 90, .int a0, .int a1, .int a2, rx_no, rx_no] [] (rx_hp L t hi24 hl24 v24) Q
              refine rx_aw_s 1 (pc := 82) rfl ?_
              show rx_aw 228 84 [.ref 90, .int a0, .int a1, .int a2, rx_no, rx_no] [.int (-2)] (rx_hp L t hi24 hl24 v24) Q
              exact rx_aw_ret (pc := 84) rfl k
            · have k := k.2 c25
              show rx_aw 228 72 [.ref 90, .int a0, .int a1, .int a2, rx_no, rx_no] [] (rx_hp L t hi24 hl24 v24) Q
              refine rx_aw_s 3 (pc := 72) rfl ?_
              refine rx_w_if (c := a2 = a0) ⟨fun c26 => ?_, fun c26 => ?_⟩
              · have k := k.1 c26
                show rx_aw 228 82 [.ref 90, .int a0, .int a1, .int a2, rx_no, rx_no] [] (rx_hp L t hi24 hl24 v24) Q
                refine rx_aw_s 1 (pc := 82) rfl ?_
                show rx_aw 228 84 [.ref 90, .int a0, .int a1, .int a2, rx_no, rx_no] [.int (-2)] (rx_hp L t hi24 hl24 v24) Q
                exact rx_aw_ret (pc := 84) rfl k
              · have k := k.2 c26
                show rx_aw 228 77 [.ref 90, .int a0, .int a1, .int a2, rx_no, rx_no] [] (rx_hp L t hi24 hl24 v24) Q
                refine rx_aw_s 3 (pc := 77) rfl ?_
                refine rx_w_ifn (c := a2 = a1) ⟨fun c27 => ?_, fun c27 => ?_⟩
                · have k := k.1 c27
                  show rx_aw 228 82 [.ref 90, .int a0, .int a1, .int a2, rx_no, rx_no] [] (rx_hp L t hi24 hl24 v24) Q
                  refine rx_aw_s 1 (pc := 82) rfl ?_
                  show rx_aw 228 84 [.ref 90, .int a0, .int a1, .int a2, rx_no, rx_no] [.int (-2)] (rx_hp L t hi24 hl24 v24) Q
                  exact rx_aw_ret (pc := 84) rfl k
                · have k := k.2 c27
                  show rx_aw 228 85 [.ref 90, .int a0, .int a1, .int a2, rx_no, rx_no] [] (rx_hp L t hi24 hl24 v24) Q
                  refine rx_aw_s 5 (pc := 85) rfl ?_
                  show rx_aw 228 93 [.ref 90, .int a0, .int a1, .int a2, .int 0, rx_no] [] (rx_hp L t (rx_u hi24 90 50 0) hl24 v24) Q
                  exact k
          · have k := k.2 c23
            show rx_aw 228 85 [.ref 90, .int a0, .int a1, .int a2, rx_no, rx_no] [] (rx_hp L t hi20 hl20 v20) Q
            refine rx_aw_s 5 (pc := 85) rfl ?_
            show rx_aw 228 93 [.ref 90, .int a0, .int a1, .int a2, .int 0, rx_no] [] (rx_hp L t (rx_u hi20 90 50 0) hl20 v20) Q
            exact k
theorem w228_few_r_93 {L : Nat} {t : List (Nat × Nat)} {hi : Nat → Nat → Int32} {hl : Nat → Nat → Int64} {v : Nat → Nat → Option Nat} {Q : Option Value → rx_H → Prop} {x1 : Int32} {x2 : Int32} {x3 : Int32} {x4 : Int32} (k : (((hi 90 2) ≤ x4 → rx_aw 228 172 [.ref 90, .int x1, .int x2, .int x3, .int 0, rx_no] [] (rx_hp L t hi hl v) Q) ∧ (¬ ((hi 90 2) ≤ x4) → (∃ j29 : Nat, x4 = nI j29 ∧ j29 < 64 ∧ rx_me 168 [.ref 90, .int x4] (rx_hp L t (rx_u hi 127 j29 (-1)) hl v) (fun r h2 => ∃ z30 : Int32, r = some (.int z30) ∧ rx_ok2 L t h2 (fun hi30 hl30 v30 => ((z30 = 0 → (((hi30 90 50) = 20 → Q (some (.int (-2))) (rx_hp L t hi30 hl30 v30)) ∧ (¬ ((hi30 90 50) = 20) → (∃ j33 : Nat, (hi30 90 50) = nI j33 ∧ j33 < 20 ∧ (∃ j34 : Nat, x4 = nI j34 ∧ j34 < 64 ∧ rx_aw 228 93 [.ref 90, .int x1, .int x2, .int x3, .int (x4 + 1), rx_no] [] (rx_hp L t (rx_u (rx_u (rx_u hi30 126 j33 x4) 127 j34 ((rx_u hi30 126 j33 x4) 90 50)) 90 50 (((rx_u (rx_u hi30 126 j33 x4) 127 j34 ((rx_u hi30 126 j33 x4) 90 50)) 90 50) + 1)) hl30 v30) Q))))) ∧ (¬ (z30 = 0) → rx_aw 228 93 [.ref 90, .int x1, .int x2, .int x3, .int (x4 + 1), rx_no] [] (rx_hp L t hi30 hl30 v30) Q)))))))) : rx_aw 228 93 [.ref 90, .int x1, .int x2, .int x3, .int x4, rx_no] [] (rx_hp L t hi hl v) Q := by
  refine rx_aw_s 4 (pc := 93) rfl ?_
  refine rx_w_if (c := (hi 90 2) ≤ x4) ⟨fun c28 => ?_, fun c28 => ?_⟩
  · have k := k.1 c28
    show rx_aw 228 169 [.ref 90, .int x1, .int x2, .int x3, .int x4, rx_no] [] (rx_hp L t hi hl v) Q
    refine rx_aw_s 2 (pc := 169) rfl ?_
    show rx_aw 228 172 [.ref 90, .int x1, .int x2, .int x3, .int 0, rx_no] [] (rx_hp L t hi hl v) Q
    exact k
  · have k := k.2 c28
    show rx_aw 228 102 [.ref 90, .int x1, .int x2, .int x3, .int x4, rx_no] [] (rx_hp L t hi hl v) Q
    refine rx_aw_s 4 (pc := 102) rfl ?_
    show rx_aw 228 109 [.ref 90, .int x1, .int x2, .int x3, .int x4, rx_no] [.int (-1), .int x4, .ref 127] (rx_hp L t hi hl v) Q
    obtain ⟨j29, ej29, hj29, k⟩ := k
    refine rx_aw_iast (pc := 109) (n := 64) j29 ej29 rfl rfl (by decide) rfl hj29 (by decide) ?_
    show rx_aw 228 110 [.ref 90, .int x1, .int x2, .int x3, .int x4, rx_no] [] (rx_hp L t (rx_u hi 127 j29 (-1)) hl v) Q
    refine rx_aw_s 2 (pc := 110) rfl ?_
    show rx_aw 228 113 [.ref 90, .int x1, .int x2, .int x3, .int x4, rx_no] [.int x4, .ref 90] (rx_hp L t (rx_u hi 127 j29 (-1)) hl v) Q
    refine rx_w_callI (j := 168) (pc := 113) rfl rfl rfl rfl rfl ?_
    refine rx_aw.mono k (fun r h2 k => ?_)
    obtain ⟨z30, rfl, hi30, hl30, v30, rfl, k⟩ := k
    refine ⟨z30, rfl, ?_⟩
    show rx_aw 228 116 [.ref 90, .int x1, .int x2, .int x3, .int x4, rx_no] [.int z30] (rx_hp L t hi30 hl30 v30) Q
    refine rx_aw_s 1 (pc := 116) rfl ?_
    refine rx_w_ifn (c := z30 = 0) ⟨fun c31 => ?_, fun c31 => ?_⟩
    · have k := k.1 c31
      show rx_aw 228 119 [.ref 90, .int x1, .int x2, .int x3, .int x4, rx_no] [] (rx_hp L t hi30 hl30 v30) Q
      refine rx_aw_s 4 (pc := 119) rfl ?_
      refine rx_w_ifn (c := (hi30 90 50) = 20) ⟨fun c32 => ?_, fun c32 => ?_⟩
      · have k := k.1 c32
        show rx_aw 228 128 [.ref 90, .int x1, .int x2, .int x3, .int x4, rx_no] [] (rx_hp L t hi30 hl30 v30) Q
        refine rx_aw_s 1 (pc := 128) rfl ?_
        show rx_aw 228 130 [.ref 90, .int x1, .int x2, .int x3, .int x4, rx_no] [.int (-2)] (rx_hp L t hi30 hl30 v30) Q
        exact rx_aw_ret (pc := 130) rfl k
      · have k := k.2 c32
        show rx_aw 228 131 [.ref 90, .int x1, .int x2, .int x3, .int x4, rx_no] [] (rx_hp L t hi30 hl30 v30) Q
        refine rx_aw_s 5 (pc := 131) rfl ?_
        show rx_aw 228 141 [.ref 90, .int x1, .int x2, .int x3, .int x4, rx_no] [.int x4, .int (hi30 90 50), .ref 126] (rx_hp L t hi30 hl30 v30) Q
        obtain ⟨j33, ej33, hj33, k⟩ := k
        refine rx_aw_iast (pc := 141) (n := 20) j33 ej33 rfl rfl (by decide) rfl hj33 (by decide) ?_
        show rx_aw 228 142 [.ref 90, .int x1, .int x2, .int x3, .int x4, rx_no] [] (rx_hp L t (rx_u hi30 126 j33 x4) hl30 v30) Q
        refine rx_aw_s 5 (pc := 142) rfl ?_
        show rx_aw 228 152 [.ref 90, .int x1, .int x2, .int x3, .int x4, rx_no] [.int ((rx_u hi30 126 j33 x4) 90 50), .int x4, .ref 127] (rx_hp L t (rx_u hi30 126 j33 x4) hl30 v30) Q
        obtain ⟨j34, ej34, hj34, k⟩ := k
        refine rx_aw_iast (pc := 152) (n := 64) j34 ej34 rfl rfl (by decide) rfl hj34 (by decide) ?_
        show rx_aw 228 153 [.ref 90, .int x1, .int x2, .int x3, .int x4, rx_no] [] (rx_hp L t (rx_u (rx_u hi30 126 j33 x4) 127 j34 ((rx_u hi30 126 j33 x4) 90 50)) hl30 v30) Q
        refine rx_aw_s 8 (pc := 153) rfl ?_
        show rx_aw 228 93 [.ref 90, .int x1, .int x2, .int x3, .int (x4 + 1), rx_no] [] (rx_hp L t (rx_u (rx_u (rx_u hi30 126 j33 x4) 127 j34 ((rx_u hi30 126 j33 x4) 90 50)) 90 50 (((rx_u (rx_u hi30 126 j33 x4) 127 j34 ((rx_u hi30 126 j33 x4) 90 50)) 90 50) + 1)) hl30 v30) Q
        exact k
    · have k := k.2 c31
      show rx_aw 228 163 [.ref 90, .int x1, .int x2, .int x3, .int x4, rx_no] [] (rx_hp L t hi30 hl30 v30) Q
      refine rx_aw_s 2 (pc := 163) rfl ?_
      show rx_aw 228 93 [.ref 90, .int x1, .int x2, .int x3, .int (x4 + 1), rx_no] [] (rx_hp L t hi30 hl30 v30) Q
      exact k
theorem w228_few_r_172 {L : Nat} {t : List (Nat × Nat)} {hi : Nat → Nat → Int32} {hl : Nat → Nat → Int64} {v : Nat → Nat → Option Nat} {Q : Option Value → rx_H → Prop} {x1 : Int32} {x2 : Int32} {x3 : Int32} {x4 : Int32} (k : ((64000 ≤ x4 → rx_aw 228 206 [.ref 90, .int x1, .int x2, .int x3, .int 0, rx_no] [] (rx_hp L t hi hl v) Q) ∧ (¬ (64000 ≤ x4) → (∃ j36 : Nat, x4 = nI j36 ∧ j36 < 64000 ∧ (∃ j37 : Nat, x4 = nI j37 ∧ j37 < 64000 ∧ rx_aw 228 172 [.ref 90, .int x1, .int x2, .int x3, .int (x4 + 1), rx_no] [] (rx_hp L t (rx_u (rx_u hi 129 j36 1000000) 130 j37 (vp_nar .boolean 0)) hl v) Q))))) : rx_aw 228 172 [.ref 90, .int x1, .int x2, .int x3, .int x4, rx_no] [] (rx_hp L t hi hl v) Q := by
  refine rx_aw_s 3 (pc := 172) rfl ?_
  refine rx_w_if (c := 64000 ≤ x4) ⟨fun c35 => ?_, fun c35 => ?_⟩
  · have k := k.1 c35
    show rx_aw 228 203 [.ref 90, .int x1, .int x2, .int x3, .int x4, rx_no] [] (rx_hp L t hi hl v) Q
    refine rx_aw_s 2 (pc := 203) rfl ?_
    show rx_aw 228 206 [.ref 90, .int x1, .int x2, .int x3, .int 0, rx_no] [] (rx_hp L t hi hl v) Q
    exact k
  · have k := k.2 c35
    show rx_aw 228 179 [.ref 90, .int x1, .int x2, .int x3, .int x4, rx_no] [] (rx_hp L t hi hl v) Q
    refine rx_aw_s 4 (pc := 179) rfl ?_
    show rx_aw 228 188 [.ref 90, .int x1, .int x2, .int x3, .int x4, rx_no] [.int 1000000, .int x4, .ref 129] (rx_hp L t hi hl v) Q
    obtain ⟨j36, ej36, hj36, k⟩ := k
    refine rx_aw_iast (pc := 188) (n := 64000) j36 ej36 rfl rfl (by decide) rfl hj36 (by decide) ?_
    show rx_aw 228 189 [.ref 90, .int x1, .int x2, .int x3, .int x4, rx_no] [] (rx_hp L t (rx_u hi 129 j36 1000000) hl v) Q
    refine rx_aw_s 4 (pc := 189) rfl ?_
    show rx_aw 228 196 [.ref 90, .int x1, .int x2, .int x3, .int x4, rx_no] [.int 0, .int x4, .ref 130] (rx_hp L t (rx_u hi 129 j36 1000000) hl v) Q
    obtain ⟨j37, ej37, hj37, k⟩ := k
    refine rx_aw_zast (pc := 196) (n := 64000) j37 ej37 rfl rfl (by decide) rfl hj37 (by decide) ?_
    show rx_aw 228 197 [.ref 90, .int x1, .int x2, .int x3, .int x4, rx_no] [] (rx_hp L t (rx_u (rx_u hi 129 j36 1000000) 130 j37 (vp_nar .boolean 0)) hl v) Q
    refine rx_aw_s 2 (pc := 197) rfl ?_
    show rx_aw 228 172 [.ref 90, .int x1, .int x2, .int x3, .int (x4 + 1), rx_no] [] (rx_hp L t (rx_u (rx_u hi 129 j36 1000000) 130 j37 (vp_nar .boolean 0)) hl v) Q
    exact k
theorem w228_few_r_206 {L : Nat} {t : List (Nat × Nat)} {hi : Nat → Nat → Int32} {hl : Nat → Nat → Int64} {v : Nat → Nat → Option Nat} {Q : Option Value → rx_H → Prop} {x1 : Int32} {x2 : Int32} {x3 : Int32} {x4 : Int32} (k : (((hi 90 53) ≤ x4 → rx_me 231 [.ref 90, .ref 132, .int ((1 <<< ((hi 90 53) &&& 31)) - 1)] (rx_hp L t hi hl v) (fun r h2 => ∃ z39 : Int32, r = some (.int z39) ∧ rx_ok2 L t h2 (fun hi39 hl39 v39 => rx_me 232 [.ref 90, .int z39, .int 0] (rx_hp L t hi39 hl39 v39) (fun r h2 => ∃ z40 : Int32, r = some (.int z40) ∧ rx_ok2 L t h2 (fun hi40 hl40 v40 => rx_aw 228 293 [.ref 90, .int x1, .int x2, .int x3, .int z40, .int 0] [] (rx_hp L t hi40 hl40 v40) Q))))) ∧ (¬ ((hi 90 53) ≤ x4) → (∃ j41 : Nat, x4 = nI j41 ∧ j41 < 3 ∧ rx_me 230 [.ref 90, .int (hi 128 j41)] (rx_hp L t hi hl v) (fun r h2 => ∃ z42 : Int64, r = some (.long z42) ∧ rx_ok2 L t h2 (fun hi42 hl42 v42 => (∃ j43 : Nat, x4 = nI j43 ∧ j43 < 3 ∧ (∃ j44 : Nat, x4 = nI j44 ∧ j44 < 3 ∧ (∃ j45 : Nat, (402 * (hi42 128 j44)) = nI j45 ∧ j45 < 2412 ∧ (∃ j46 : Nat, (hi42 101 j45) = nI j46 ∧ j46 < 64 ∧ (∃ j47 : Nat, x4 = nI j47 ∧ j47 < 3 ∧ rx_aw 228 206 [.ref 90, .int x1, .int x2, .int x3, .int (x4 + 1), rx_no] [] (rx_hp L t (rx_u hi42 132 j47 (hi42 127 j46)) (rx_u hl42 131 j43 z42) v42) Q))))))))))) : rx_aw 228 206 [.ref 90, .int x1, .int x2, .int x3, .int x4, rx_no] [] (rx_hp L t hi hl v) Q := by
  refine rx_aw_s 4 (pc := 206) rfl ?_
  refine rx_w_if (c := (hi 90 53) ≤ x4) ⟨fun c38 => ?_, fun c38 => ?_⟩
  · have k := k.1 c38
    show rx_aw 228 267 [.ref 90, .int x1, .int x2, .int x3, .int x4, rx_no] [] (rx_hp L t hi hl v) Q
    refine rx_aw_s 10 (pc := 267) rfl ?_
    show rx_aw 228 281 [.ref 90, .int x1, .int x2, .int x3, .int x4, rx_no] [.int ((1 <<< ((hi 90 53) &&& 31)) - 1), .ref 132, .ref 90, .ref 90] (rx_hp L t hi hl v) Q
    refine rx_w_callI (j := 231) (pc := 281) rfl rfl rfl rfl rfl ?_
    refine rx_aw.mono k (fun r h2 k => ?_)
    obtain ⟨z39, rfl, hi39, hl39, v39, rfl, k⟩ := k
    refine ⟨z39, rfl, ?_⟩
    show rx_aw 228 284 [.ref 90, .int x1, .int x2, .int x3, .int x4, rx_no] [.int z39, .ref 90] (rx_hp L t hi39 hl39 v39) Q
    refine rx_aw_s 1 (pc := 284) rfl ?_
    show rx_aw 228 285 [.ref 90, .int x1, .int x2, .int x3, .int x4, rx_no] [.int 0, .int z39, .ref 90] (rx_hp L t hi39 hl39 v39) Q
    refine rx_w_callI (j := 232) (pc := 285) rfl rfl rfl rfl rfl ?_
    refine rx_aw.mono k (fun r h2 k => ?_)
    obtain ⟨z40, rfl, hi40, hl40, v40, rfl, k⟩ := k
    refine ⟨z40, rfl, ?_⟩
    show rx_aw 228 288 [.ref 90, .int x1, .int x2, .int x3, .int x4, rx_no] [.int z40] (rx_hp L t hi40 hl40 v40) Q
    refine rx_aw_s 3 (pc := 288) rfl ?_
    show rx_aw 228 293 [.ref 90, .int x1, .int x2, .int x3, .int z40, .int 0] [] (rx_hp L t hi40 hl40 v40) Q
    exact k
  · have k := k.2 c38
    show rx_aw 228 215 [.ref 90, .int x1, .int x2, .int x3, .int x4, rx_no] [] (rx_hp L t hi hl v) Q
    refine rx_aw_s 7 (pc := 215) rfl ?_
    show rx_aw 228 228 [.ref 90, .int x1, .int x2, .int x3, .int x4, rx_no] [.int x4, .ref 128, .ref 90, .int x4, .ref 131] (rx_hp L t hi hl v) Q
    obtain ⟨j41, ej41, hj41, k⟩ := k
    refine rx_aw_iald (pc := 228) (n := 3) j41 ej41 rfl rfl rfl hj41 (by decide) ?_
    show rx_aw 228 229 [.ref 90, .int x1, .int x2, .int x3, .int x4, rx_no] [.int (hi 128 j41), .ref 90, .int x4, .ref 131] (rx_hp L t hi hl v) Q
    refine rx_w_callL (j := 230) (pc := 229) rfl rfl rfl rfl rfl ?_
    refine rx_aw.mono k (fun r h2 k => ?_)
    obtain ⟨z42, rfl, hi42, hl42, v42, rfl, k⟩ := k
    refine ⟨z42, rfl, ?_⟩
    show rx_aw 228 232 [.ref 90, .int x1, .int x2, .int x3, .int x4, rx_no] [.long z42, .int x4, .ref 131] (rx_hp L t hi42 hl42 v42) Q
    obtain ⟨j43, ej43, hj43, k⟩ := k
    refine rx_aw_last (pc := 232) (n := 3) j43 ej43 rfl rfl (by decide) rfl hj43 (by decide) ?_
    show rx_aw 228 233 [.ref 90, .int x1, .int x2, .int x3, .int x4, rx_no] [] (rx_hp L t hi42 (rx_u hl42 131 j43 z42) v42) Q
    refine rx_aw_s 11 (pc := 233) rfl ?_
    show rx_aw 228 256 [.ref 90, .int x1, .int x2, .int x3, .int x4, rx_no] [.int x4, .ref 128, .int 402, .ref 101, .ref 127, .int x4, .ref 132] (rx_hp L t hi42 (rx_u hl42 131 j43 z42) v42) Q
    obtain ⟨j44, ej44, hj44, k⟩ := k
    refine rx_aw_iald (pc := 256) (n := 3) j44 ej44 rfl rfl rfl hj44 (by decide) ?_
    show rx_aw 228 257 [.ref 90, .int x1, .int x2, .int x3, .int x4, rx_no] [.int (hi42 128 j44), .int 402, .ref 101, .ref 127, .int x4, .ref 132] (rx_hp L t hi42 (rx_u hl42 131 j43 z42) v42) Q
    refine rx_aw_s 1 (pc := 257) rfl ?_
    show rx_aw 228 258 [.ref 90, .int x1, .int x2, .int x3, .int x4, rx_no] [.int (402 * (hi42 128 j44)), .ref 101, .ref 127, .int x4, .ref 132] (rx_hp L t hi42 (rx_u hl42 131 j43 z42) v42) Q
    obtain ⟨j45, ej45, hj45, k⟩ := k
    refine rx_aw_iald (pc := 258) (n := 2412) j45 ej45 rfl rfl rfl hj45 (by decide) ?_
    show rx_aw 228 259 [.ref 90, .int x1, .int x2, .int x3, .int x4, rx_no] [.int (hi42 101 j45), .ref 127, .int x4, .ref 132] (rx_hp L t hi42 (rx_u hl42 131 j43 z42) v42) Q
    obtain ⟨j46, ej46, hj46, k⟩ := k
    refine rx_aw_iald (pc := 259) (n := 64) j46 ej46 rfl rfl rfl hj46 (by decide) ?_
    show rx_aw 228 260 [.ref 90, .int x1, .int x2, .int x3, .int x4, rx_no] [.int (hi42 127 j46), .int x4, .ref 132] (rx_hp L t hi42 (rx_u hl42 131 j43 z42) v42) Q
    obtain ⟨j47, ej47, hj47, k⟩ := k
    refine rx_aw_iast (pc := 260) (n := 3) j47 ej47 rfl rfl (by decide) rfl hj47 (by decide) ?_
    show rx_aw 228 261 [.ref 90, .int x1, .int x2, .int x3, .int x4, rx_no] [] (rx_hp L t (rx_u hi42 132 j47 (hi42 127 j46)) (rx_u hl42 131 j43 z42) v42) Q
    refine rx_aw_s 2 (pc := 261) rfl ?_
    show rx_aw 228 206 [.ref 90, .int x1, .int x2, .int x3, .int (x4 + 1), rx_no] [] (rx_hp L t (rx_u hi42 132 j47 (hi42 127 j46)) (rx_u hl42 131 j43 z42) v42) Q
    exact k
theorem w228_few_r_293 {L : Nat} {t : List (Nat × Nat)} {hi : Nat → Nat → Int32} {hl : Nat → Nat → Int64} {v : Nat → Nat → Option Nat} {Q : Option Value → rx_H → Prop} {x1 : Int32} {x2 : Int32} {x3 : Int32} {x4 : Int32} {x5 : Int32} (k : rx_me 233 [.ref 90, .int x5] (rx_hp L t hi hl v) (fun r h2 => ∃ z48 : Int32, r = some (.int z48) ∧ rx_ok2 L t h2 (fun hi48 hl48 v48 => ((z48 = 0 → Q (some (.int (-1))) (rx_hp L t hi48 hl48 v48)) ∧ (¬ (z48 = 0) → rx_me 234 [.ref 90, .int x5] (rx_hp L t hi48 hl48 v48) (fun r h2 => ∃ z50 : Int32, r = some (.int z50) ∧ rx_ok2 L t h2 (fun hi50 hl50 v50 => ((z50 = 0 → rx_aw 228 293 [.ref 90, .int x1, .int x2, .int x3, .int x4, .int (x5 + 1)] [] (rx_hp L t hi50 hl50 v50) Q) ∧ (¬ (z50 = 0) → Q (some (.int x5)) (rx_hp L t hi50 hl50 v50)))))))))) : rx_aw 228 293 [.ref 90, .int x1, .int x2, .int x3, .int x4, .int x5] [] (rx_hp L t hi hl v) Q := by
  refine rx_aw_s 2 (pc := 293) rfl ?_
  show rx_aw 228 296 [.ref 90, .int x1, .int x2, .int x3, .int x4, .int x5] [.int x5, .ref 90] (rx_hp L t hi hl v) Q
  refine rx_w_callI (j := 233) (pc := 296) rfl rfl rfl rfl rfl ?_
  refine rx_aw.mono k (fun r h2 k => ?_)
  obtain ⟨z48, rfl, hi48, hl48, v48, rfl, k⟩ := k
  refine ⟨z48, rfl, ?_⟩
  show rx_aw 228 299 [.ref 90, .int x1, .int x2, .int x3, .int x4, .int x5] [.int z48] (rx_hp L t hi48 hl48 v48) Q
  refine rx_aw_s 1 (pc := 299) rfl ?_
  refine rx_w_if (c := z48 = 0) ⟨fun c49 => ?_, fun c49 => ?_⟩
  · have k := k.1 c49
    show rx_aw 228 320 [.ref 90, .int x1, .int x2, .int x3, .int x4, .int x5] [] (rx_hp L t hi48 hl48 v48) Q
    refine rx_aw_s 1 (pc := 320) rfl ?_
    show rx_aw 228 321 [.ref 90, .int x1, .int x2, .int x3, .int x4, .int x5] [.int (-1)] (rx_hp L t hi48 hl48 v48) Q
    exact rx_aw_ret (pc := 321) rfl k
  · have k := k.2 c49
    show rx_aw 228 302 [.ref 90, .int x1, .int x2, .int x3, .int x4, .int x5] [] (rx_hp L t hi48 hl48 v48) Q
    refine rx_aw_s 2 (pc := 302) rfl ?_
    show rx_aw 228 305 [.ref 90, .int x1, .int x2, .int x3, .int x4, .int x5] [.int x5, .ref 90] (rx_hp L t hi48 hl48 v48) Q
    refine rx_w_callI (j := 234) (pc := 305) rfl rfl rfl rfl rfl ?_
    refine rx_aw.mono k (fun r h2 k => ?_)
    obtain ⟨z50, rfl, hi50, hl50, v50, rfl, k⟩ := k
    refine ⟨z50, rfl, ?_⟩
    show rx_aw 228 308 [.ref 90, .int x1, .int x2, .int x3, .int x4, .int x5] [.int z50] (rx_hp L t hi50 hl50 v50) Q
    refine rx_aw_s 1 (pc := 308) rfl ?_
    refine rx_w_if (c := z50 = 0) ⟨fun c51 => ?_, fun c51 => ?_⟩
    · have k := k.1 c51
      show rx_aw 228 314 [.ref 90, .int x1, .int x2, .int x3, .int x4, .int x5] [] (rx_hp L t hi50 hl50 v50) Q
      refine rx_aw_s 2 (pc := 314) rfl ?_
      show rx_aw 228 293 [.ref 90, .int x1, .int x2, .int x3, .int x4, .int (x5 + 1)] [] (rx_hp L t hi50 hl50 v50) Q
      exact k
    · have k := k.2 c51
      show rx_aw 228 311 [.ref 90, .int x1, .int x2, .int x3, .int x4, .int x5] [] (rx_hp L t hi50 hl50 v50) Q
      refine rx_aw_s 1 (pc := 311) rfl ?_
      show rx_aw 228 313 [.ref 90, .int x1, .int x2, .int x3, .int x4, .int x5] [.int x5] (rx_hp L t hi50 hl50 v50) Q
      exact rx_aw_ret (pc := 313) rfl k
/-- CartFloorModel.isOne(I)Z -/
theorem w229_isOne_r {L : Nat} {t : List (Nat × Nat)} {hi : Nat → Nat → Int32} {hl : Nat → Nat → Int64} {v : Nat → Nat → Option Nat} {Q : Option Value → rx_H → Prop} {a0 : Int32} (k : rx_me 161 [.ref 90, .int a0] (rx_hp L t hi hl v) (fun r h2 => ∃ z1 : Int32, r = some (.int z1) ∧ rx_ok2 L t h2 (fun hi1 hl1 v1 => ((z1 = 0 → Q (some (.int 0)) (rx_hp L t hi1 hl1 v1)) ∧ (¬ (z1 = 0) → (∃ j3 : Nat, a0 = nI j3 ∧ j3 < 6 ∧ ((1 < (hi1 93 j3) → Q (some (.int 0)) (rx_hp L t hi1 hl1 v1)) ∧ (¬ (1 < (hi1 93 j3)) → (∃ j5 : Nat, (402 * a0) = nI j5 ∧ j5 < 2412 ∧ ((0 ≤ (hi1 103 j5) → Q (some (.int 0)) (rx_hp L t hi1 hl1 v1)) ∧ (¬ (0 ≤ (hi1 103 j5)) → (∃ j7 : Nat, a0 = nI j7 ∧ j7 < 6 ∧ (((hi1 96 j7) = 0 → Q (some (.int 0)) (rx_hp L t hi1 hl1 v1)) ∧ (¬ ((hi1 96 j7) = 0) → (∃ j9 : Nat, a0 = nI j9 ∧ j9 < 6 ∧ ((0 ≤ (hi1 98 j9) → Q (some (.int 0)) (rx_hp L t hi1 hl1 v1)) ∧ (¬ (0 ≤ (hi1 98 j9)) → Q (some (.int 1)) (rx_hp L t hi1 hl1 v1)))))))))))))))))) : rx_me 229 [.ref 90, .int a0] (rx_hp L t hi hl v) Q := by
  show rx_aw 229 0 [.ref 90, .int a0] [] (rx_hp L t hi hl v) Q
  refine rx_aw_s 2 (pc := 0) rfl ?_
  show rx_aw 229 2 [.ref 90, .int a0] [.int a0, .ref 90] (rx_hp L t hi hl v) Q
  refine rx_w_callI (j := 161) (pc := 2) rfl rfl rfl rfl rfl ?_
  refine rx_aw.mono k (fun r h2 k => ?_)
  obtain ⟨z1, rfl, hi1, hl1, v1, rfl, k⟩ := k
  refine ⟨z1, rfl, ?_⟩
  show rx_aw 229 5 [.ref 90, .int a0] [.int z1] (rx_hp L t hi1 hl1 v1) Q
  refine rx_aw_s 1 (pc := 5) rfl ?_
  refine rx_w_if (c := z1 = 0) ⟨fun c2 => ?_, fun c2 => ?_⟩
  · have k := k.1 c2
    show rx_aw 229 53 [.ref 90, .int a0] [] (rx_hp L t hi1 hl1 v1) Q
    refine rx_aw_s 1 (pc := 53) rfl ?_
    show rx_aw 229 54 [.ref 90, .int a0] [.int 0] (rx_hp L t hi1 hl1 v1) Q
    exact rx_aw_ret (pc := 54) rfl k
  · have k := k.2 c2
    show rx_aw 229 8 [.ref 90, .int a0] [] (rx_hp L t hi1 hl1 v1) Q
    refine rx_aw_s 3 (pc := 8) rfl ?_
    show rx_aw 229 13 [.ref 90, .int a0] [.int a0, .ref 93] (rx_hp L t hi1 hl1 v1) Q
    obtain ⟨j3, ej3, hj3, k⟩ := k
    refine rx_aw_iald (pc := 13) (n := 6) j3 ej3 rfl rfl rfl hj3 (by decide) ?_
    show rx_aw 229 14 [.ref 90, .int a0] [.int (hi1 93 j3)] (rx_hp L t hi1 hl1 v1) Q
    refine rx_aw_s 2 (pc := 14) rfl ?_
    refine rx_w_if (c := 1 < (hi1 93 j3)) ⟨fun c4 => ?_, fun c4 => ?_⟩
    · have k := k.1 c4
      show rx_aw 229 53 [.ref 90, .int a0] [] (rx_hp L t hi1 hl1 v1) Q
      refine rx_aw_s 1 (pc := 53) rfl ?_
      show rx_aw 229 54 [.ref 90, .int a0] [.int 0] (rx_hp L t hi1 hl1 v1) Q
      exact rx_aw_ret (pc := 54) rfl k
    · have k := k.2 c4
      show rx_aw 229 18 [.ref 90, .int a0] [] (rx_hp L t hi1 hl1 v1) Q
      refine rx_aw_s 5 (pc := 18) rfl ?_
      show rx_aw 229 27 [.ref 90, .int a0] [.int (402 * a0), .ref 103] (rx_hp L t hi1 hl1 v1) Q
      obtain ⟨j5, ej5, hj5, k⟩ := k
      refine rx_aw_iald (pc := 27) (n := 2412) j5 ej5 rfl rfl rfl hj5 (by decide) ?_
      show rx_aw 229 28 [.ref 90, .int a0] [.int (hi1 103 j5)] (rx_hp L t hi1 hl1 v1) Q
      refine rx_aw_s 1 (pc := 28) rfl ?_
      refine rx_w_if (c := 0 ≤ (hi1 103 j5)) ⟨fun c6 => ?_, fun c6 => ?_⟩
      · have k := k.1 c6
        show rx_aw 229 53 [.ref 90, .int a0] [] (rx_hp L t hi1 hl1 v1) Q
        refine rx_aw_s 1 (pc := 53) rfl ?_
        show rx_aw 229 54 [.ref 90, .int a0] [.int 0] (rx_hp L t hi1 hl1 v1) Q
        exact rx_aw_ret (pc := 54) rfl k
      · have k := k.2 c6
        show rx_aw 229 31 [.ref 90, .int a0] [] (rx_hp L t hi1 hl1 v1) Q
        refine rx_aw_s 3 (pc := 31) rfl ?_
        show rx_aw 229 36 [.ref 90, .int a0] [.int a0, .ref 96] (rx_hp L t hi1 hl1 v1) Q
        obtain ⟨j7, ej7, hj7, k⟩ := k
        refine rx_aw_bald (pc := 36) (n := 6) j7 ej7 rfl (Or.inr rfl) (by decide) rfl hj7 (by decide) ?_
        show rx_aw 229 37 [.ref 90, .int a0] [.int (hi1 96 j7)] (rx_hp L t hi1 hl1 v1) Q
        refine rx_aw_s 1 (pc := 37) rfl ?_
        refine rx_w_if (c := (hi1 96 j7) = 0) ⟨fun c8 => ?_, fun c8 => ?_⟩
        · have k := k.1 c8
          show rx_aw 229 53 [.ref 90, .int a0] [] (rx_hp L t hi1 hl1 v1) Q
          refine rx_aw_s 1 (pc := 53) rfl ?_
          show rx_aw 229 54 [.ref 90, .int a0] [.int 0] (rx_hp L t hi1 hl1 v1) Q
          exact rx_aw_ret (pc := 54) rfl k
        · have k := k.2 c8
          show rx_aw 229 40 [.ref 90, .int a0] [] (rx_hp L t hi1 hl1 v1) Q
          refine rx_aw_s 3 (pc := 40) rfl ?_
          show rx_aw 229 45 [.ref 90, .int a0] [.int a0, .ref 98] (rx_hp L t hi1 hl1 v1) Q
          obtain ⟨j9, ej9, hj9, k⟩ := k
          refine rx_aw_iald (pc := 45) (n := 6) j9 ej9 rfl rfl rfl hj9 (by decide) ?_
          show rx_aw 229 46 [.ref 90, .int a0] [.int (hi1 98 j9)] (rx_hp L t hi1 hl1 v1) Q
          refine rx_aw_s 1 (pc := 46) rfl ?_
          refine rx_w_if (c := 0 ≤ (hi1 98 j9)) ⟨fun c10 => ?_, fun c10 => ?_⟩
          · have k := k.1 c10
            show rx_aw 229 53 [.ref 90, .int a0] [] (rx_hp L t hi1 hl1 v1) Q
            refine rx_aw_s 1 (pc := 53) rfl ?_
            show rx_aw 229 54 [.ref 90, .int a0] [.int 0] (rx_hp L t hi1 hl1 v1) Q
            exact rx_aw_ret (pc := 54) rfl k
          · have k := k.2 c10
            show rx_aw 229 49 [.ref 90, .int a0] [] (rx_hp L t hi1 hl1 v1) Q
            refine rx_aw_s 2 (pc := 49) rfl ?_
            show rx_aw 229 54 [.ref 90, .int a0] [.int 1] (rx_hp L t hi1 hl1 v1) Q
            exact rx_aw_ret (pc := 54) rfl k
/-- CartFloorModel.shutOf(I)J -/
theorem w230_shutOf_r {L : Nat} {t : List (Nat × Nat)} {hi : Nat → Nat → Int32} {hl : Nat → Nat → Int64} {v : Nat → Nat → Option Nat} {Q : Option Value → rx_H → Prop} {a0 : Int32} (k : rx_me 167 [.ref 90] (rx_hp L t hi hl v) (fun r h2 => ∃ z1 : Int64, r = some (.long z1) ∧ rx_ok2 L t h2 (fun hi1 hl1 v1 => (∃ j2 : Nat, a0 = nI j2 ∧ j2 < 6 ∧ (((hi1 93 j2) = 0 → rx_me 171 [.ref 90, .int 0, .int (-1)] (rx_hp L t hi1 hl1 v1) (fun r h2 => ∃ z4 : Int64, r = some (.long z4) ∧ rx_ok2 L t h2 (fun hi4 hl4 v4 => rx_aw 230 28 [.ref 90, .int a0, .long (z1 ||| z4), rx_no, .int 0, rx_no, rx_no] [] (rx_hp L t hi4 hl4 v4) Q))) ∧ (¬ ((hi1 93 j2) = 0) → rx_aw 230 28 [.ref 90, .int a0, .long (z1 ||| 0), rx_no, .int 0, rx_no, rx_no] [] (rx_hp L t hi1 hl1 v1) Q)))))) : rx_me 230 [.ref 90, .int a0] (rx_hp L t hi hl v) Q := by
  show rx_aw 230 0 [.ref 90, .int a0, rx_no, rx_no, rx_no, rx_no, rx_no] [] (rx_hp L t hi hl v) Q
  refine rx_aw_s 1 (pc := 0) rfl ?_
  show rx_aw 230 1 [.ref 90, .int a0, rx_no, rx_no, rx_no, rx_no, rx_no] [.ref 90] (rx_hp L t hi hl v) Q
  refine rx_w_callL (j := 167) (pc := 1) rfl rfl rfl rfl rfl ?_
  refine rx_aw.mono k (fun r h2 k => ?_)
  obtain ⟨z1, rfl, hi1, hl1, v1, rfl, k⟩ := k
  refine ⟨z1, rfl, ?_⟩
  show rx_aw 230 4 [.ref 90, .int a0, rx_no, rx_no, rx_no, rx_no, rx_no] [.long z1] (rx_hp L t hi1 hl1 v1) Q
  refine rx_aw_s 3 (pc := 4) rfl ?_
  show rx_aw 230 9 [.ref 90, .int a0, rx_no, rx_no, rx_no, rx_no, rx_no] [.int a0, .ref 93, .long z1] (rx_hp L t hi1 hl1 v1) Q
  obtain ⟨j2, ej2, hj2, k⟩ := k
  refine rx_aw_iald (pc := 9) (n := 6) j2 ej2 rfl rfl rfl hj2 (by decide) ?_
  show rx_aw 230 10 [.ref 90, .int a0, rx_no, rx_no, rx_no, rx_no, rx_no] [.int (hi1 93 j2), .long z1] (rx_hp L t hi1 hl1 v1) Q
  refine rx_aw_s 1 (pc := 10) rfl ?_
  refine rx_w_ifn (c := (hi1 93 j2) = 0) ⟨fun c3 => ?_, fun c3 => ?_⟩
  · have k := k.1 c3
    show rx_aw 230 13 [.ref 90, .int a0, rx_no, rx_no, rx_no, rx_no, rx_no] [.long z1] (rx_hp L t hi1 hl1 v1) Q
    refine rx_aw_s 3 (pc := 13) rfl ?_
    show rx_aw 230 16 [.ref 90, .int a0, rx_no, rx_no, rx_no, rx_no, rx_no] [.int (-1), .int 0, .ref 90, .long z1] (rx_hp L t hi1 hl1 v1) Q
    refine rx_w_callL (j := 171) (pc := 16) rfl rfl rfl rfl rfl ?_
    refine rx_aw.mono k (fun r h2 k => ?_)
    obtain ⟨z4, rfl, hi4, hl4, v4, rfl, k⟩ := k
    refine ⟨z4, rfl, ?_⟩
    show rx_aw 230 19 [.ref 90, .int a0, rx_no, rx_no, rx_no, rx_no, rx_no] [.long z4, .long z1] (rx_hp L t hi4 hl4 v4) Q
    refine rx_aw_s 5 (pc := 19) rfl ?_
    show rx_aw 230 28 [.ref 90, .int a0, .long (z1 ||| z4), rx_no, .int 0, rx_no, rx_no] [] (rx_hp L t hi4 hl4 v4) Q
    exact k
  · have k := k.2 c3
    show rx_aw 230 22 [.ref 90, .int a0, rx_no, rx_no, rx_no, rx_no, rx_no] [.long z1] (rx_hp L t hi1 hl1 v1) Q
    refine rx_aw_s 5 (pc := 22) rfl ?_
    show rx_aw 230 28 [.ref 90, .int a0, .long (z1 ||| 0), rx_no, .int 0, rx_no, rx_no] [] (rx_hp L t hi1 hl1 v1) Q
    exact k
theorem w230_shutOf_r_28 {L : Nat} {t : List (Nat × Nat)} {hi : Nat → Nat → Int32} {hl : Nat → Nat → Int64} {v : Nat → Nat → Option Nat} {Q : Option Value → rx_H → Prop} {x1 : Int32} {x2 : Int64} {x4 : Int32} (k : (((hi 90 6) ≤ x4 → Q (some (.long x2)) (rx_hp L t hi hl v)) ∧ (¬ ((hi 90 6) ≤ x4) → rx_aw 230 43 [.ref 90, .int x1, .long x2, rx_no, .int x4, .int 0, .int 0] [] (rx_hp L t hi hl v) Q))) : rx_aw 230 28 [.ref 90, .int x1, .long x2, rx_no, .int x4, rx_no, rx_no] [] (rx_hp L t hi hl v) Q := by
  refine rx_aw_s 4 (pc := 28) rfl ?_
  refine rx_w_if (c := (hi 90 6) ≤ x4) ⟨fun c5 => ?_, fun c5 => ?_⟩
  · have k := k.1 c5
    show rx_aw 230 109 [.ref 90, .int x1, .long x2, rx_no, .int x4, rx_no, rx_no] [] (rx_hp L t hi hl v) Q
    refine rx_aw_s 1 (pc := 109) rfl ?_
    show rx_aw 230 110 [.ref 90, .int x1, .long x2, rx_no, .int x4, rx_no, rx_no] [.long x2] (rx_hp L t hi hl v) Q
    exact rx_aw_ret (pc := 110) rfl k
  · have k := k.2 c5
    show rx_aw 230 37 [.ref 90, .int x1, .long x2, rx_no, .int x4, rx_no, rx_no] [] (rx_hp L t hi hl v) Q
    refine rx_aw_s 4 (pc := 37) rfl ?_
    show rx_aw 230 43 [.ref 90, .int x1, .long x2, rx_no, .int x4, .int 0, .int 0] [] (rx_hp L t hi hl v) Q
    exact k
theorem w230_shutOf_r_43 {L : Nat} {t : List (Nat × Nat)} {hi : Nat → Nat → Int32} {hl : Nat → Nat → Int64} {v : Nat → Nat → Option Nat} {Q : Option Value → rx_H → Prop} {x1 : Int32} {x2 : Int64} {x4 : Int32} {x5 : Int32} {x6 : Int32} (k : (((hi 90 53) ≤ x6 → ((x5 = 0 → (∃ j8 : Nat, (402 * x4) = nI j8 ∧ j8 < 2412 ∧ rx_aw 230 28 [.ref 90, .int x1, .long (x2 ||| (hl 105 j8)), rx_no, .int (x4 + 1), rx_no, rx_no] [] (rx_hp L t hi hl v) Q)) ∧ (¬ (x5 = 0) → rx_aw 230 28 [.ref 90, .int x1, .long (x2 ||| 0), rx_no, .int (x4 + 1), rx_no, rx_no] [] (rx_hp L t hi hl v) Q))) ∧ (¬ ((hi 90 53) ≤ x6) → (∃ j9 : Nat, x6 = nI j9 ∧ j9 < 3 ∧ (((hi 128 j9) = x4 → rx_aw 230 43 [.ref 90, .int x1, .long x2, rx_no, .int x4, .int (x5 ||| 1), .int (x6 + 1)] [] (rx_hp L t hi hl v) Q) ∧ (¬ ((hi 128 j9) = x4) → rx_aw 230 43 [.ref 90, .int x1, .long x2, rx_no, .int x4, .int (x5 ||| 0), .int (x6 + 1)] [] (rx_hp L t hi hl v) Q)))))) : rx_aw 230 43 [.ref 90, .int x1, .long x2, rx_no, .int x4, .int x5, .int x6] [] (rx_hp L t hi hl v) Q := by
  refine rx_aw_s 4 (pc := 43) rfl ?_
  refine rx_w_if (c := (hi 90 53) ≤ x6) ⟨fun c6 => ?_, fun c6 => ?_⟩
  · have k := k.1 c6
    show rx_aw 230 80 [.ref 90, .int x1, .long x2, rx_no, .int x4, .int x5, .int x6] [] (rx_hp L t hi hl v) Q
    refine rx_aw_s 3 (pc := 80) rfl ?_
    refine rx_w_if (c := x5 = 0) ⟨fun c7 => ?_, fun c7 => ?_⟩
    · have k := k.1 c7
      show rx_aw 230 90 [.ref 90, .int x1, .long x2, rx_no, .int x4, .int x5, .int x6] [.long x2] (rx_hp L t hi hl v) Q
      refine rx_aw_s 5 (pc := 90) rfl ?_
      show rx_aw 230 100 [.ref 90, .int x1, .long x2, rx_no, .int x4, .int x5, .int x6] [.int (402 * x4), .ref 105, .long x2] (rx_hp L t hi hl v) Q
      obtain ⟨j8, ej8, hj8, k⟩ := k
      refine rx_aw_lald (pc := 100) (n := 2412) j8 ej8 rfl rfl (by decide) rfl hj8 (by decide) ?_
      show rx_aw 230 101 [.ref 90, .int x1, .long x2, rx_no, .int x4, .int x5, .int x6] [.long (hl 105 j8), .long x2] (rx_hp L t hi hl v) Q
      refine rx_aw_s 4 (pc := 101) rfl ?_
      show rx_aw 230 28 [.ref 90, .int x1, .long (x2 ||| (hl 105 j8)), rx_no, .int (x4 + 1), .int x5, .int x6] [] (rx_hp L t hi hl v) Q
      exact rx_aw_le (ls := [.ref 90, .int x1, .long (x2 ||| (hl 105 j8)), rx_no, .int (x4 + 1), rx_no, rx_no]) ⟨Or.inr rfl, ⟨Or.inr rfl, ⟨Or.inr rfl, ⟨Or.inl rfl, ⟨Or.inr rfl, ⟨Or.inl rfl, ⟨Or.inl rfl, trivial⟩⟩⟩⟩⟩⟩⟩ k
    · have k := k.2 c7
      show rx_aw 230 86 [.ref 90, .int x1, .long x2, rx_no, .int x4, .int x5, .int x6] [.long x2] (rx_hp L t hi hl v) Q
      refine rx_aw_s 6 (pc := 86) rfl ?_
      show rx_aw 230 28 [.ref 90, .int x1, .long (x2 ||| 0), rx_no, .int (x4 + 1), .int x5, .int x6] [] (rx_hp L t hi hl v) Q
      exact rx_aw_le (ls := [.ref 90, .int x1, .long (x2 ||| 0), rx_no, .int (x4 + 1), rx_no, rx_no]) ⟨Or.inr rfl, ⟨Or.inr rfl, ⟨Or.inr rfl, ⟨Or.inl rfl, ⟨Or.inr rfl, ⟨Or.inl rfl, ⟨Or.inl rfl, trivial⟩⟩⟩⟩⟩⟩⟩ k
  · have k := k.2 c6
    show rx_aw 230 52 [.ref 90, .int x1, .long x2, rx_no, .int x4, .int x5, .int x6] [] (rx_hp L t hi hl v) Q
    refine rx_aw_s 4 (pc := 52) rfl ?_
    show rx_aw 230 60 [.ref 90, .int x1, .long x2, rx_no, .int x4, .int x5, .int x6] [.int x6, .ref 128, .int x5] (rx_hp L t hi hl v) Q
    obtain ⟨j9, ej9, hj9, k⟩ := k
    refine rx_aw_iald (pc := 60) (n := 3) j9 ej9 rfl rfl rfl hj9 (by decide) ?_
    show rx_aw 230 61 [.ref 90, .int x1, .long x2, rx_no, .int x4, .int x5, .int x6] [.int (hi 128 j9), .int x5] (rx_hp L t hi hl v) Q
    refine rx_aw_s 2 (pc := 61) rfl ?_
    refine rx_w_ifn (c := (hi 128 j9) = x4) ⟨fun c10 => ?_, fun c10 => ?_⟩
    · have k := k.1 c10
      show rx_aw 230 66 [.ref 90, .int x1, .long x2, rx_no, .int x4, .int x5, .int x6] [.int x5] (rx_hp L t hi hl v) Q
      refine rx_aw_s 6 (pc := 66) rfl ?_
      show rx_aw 230 43 [.ref 90, .int x1, .long x2, rx_no, .int x4, .int (x5 ||| 1), .int (x6 + 1)] [] (rx_hp L t hi hl v) Q
      exact k
    · have k := k.2 c10
      show rx_aw 230 70 [.ref 90, .int x1, .long x2, rx_no, .int x4, .int x5, .int x6] [.int x5] (rx_hp L t hi hl v) Q
      refine rx_aw_s 5 (pc := 70) rfl ?_
      show rx_aw 230 43 [.ref 90, .int x1, .long x2, rx_no, .int x4, .int (x5 ||| 0), .int (x6 + 1)] [] (rx_hp L t hi hl v) Q
      exact k
/-- CartFloorModel.better(II)Z -/
theorem w232_better_r {L : Nat} {t : List (Nat × Nat)} {hi : Nat → Nat → Int32} {hl : Nat → Nat → Int64} {v : Nat → Nat → Option Nat} {Q : Option Value → rx_H → Prop} {a0 : Int32} {a1 : Int32} (k : (∃ j1 : Nat, a0 = nI j1 ∧ j1 < 64000 ∧ (((hi 129 j1) ≤ a1 → Q (some (.int 0)) (rx_hp L t hi hl v)) ∧ (¬ ((hi 129 j1) ≤ a1) → (∃ j3 : Nat, a0 = nI j3 ∧ j3 < 64000 ∧ Q (some (.int 1)) (rx_hp L t (rx_u hi 129 j3 a1) hl v)))))) : rx_me 232 [.ref 90, .int a0, .int a1] (rx_hp L t hi hl v) Q := by
  show rx_aw 232 0 [.ref 90, .int a0, .int a1] [] (rx_hp L t hi hl v) Q
  refine rx_aw_s 4 (pc := 0) rfl ?_
  show rx_aw 232 6 [.ref 90, .int a0, .int a1] [.int a0, .ref 129, .int a1] (rx_hp L t hi hl v) Q
  obtain ⟨j1, ej1, hj1, k⟩ := k
  refine rx_aw_iald (pc := 6) (n := 64000) j1 ej1 rfl rfl rfl hj1 (by decide) ?_
  show rx_aw 232 7 [.ref 90, .int a0, .int a1] [.int (hi 129 j1), .int a1] (rx_hp L t hi hl v) Q
  refine rx_aw_s 1 (pc := 7) rfl ?_
  refine rx_w_if (c := (hi 129 j1) ≤ a1) ⟨fun c2 => ?_, fun c2 => ?_⟩
  · have k := k.1 c2
    show rx_aw 232 19 [.ref 90, .int a0, .int a1] [] (rx_hp L t hi hl v) Q
    refine rx_aw_s 1 (pc := 19) rfl ?_
    show rx_aw 232 20 [.ref 90, .int a0, .int a1] [.int 0] (rx_hp L t hi hl v) Q
    exact rx_aw_ret (pc := 20) rfl k
  · have k := k.2 c2
    show rx_aw 232 10 [.ref 90, .int a0, .int a1] [] (rx_hp L t hi hl v) Q
    refine rx_aw_s 4 (pc := 10) rfl ?_
    show rx_aw 232 16 [.ref 90, .int a0, .int a1] [.int a1, .int a0, .ref 129] (rx_hp L t hi hl v) Q
    obtain ⟨j3, ej3, hj3, k⟩ := k
    refine rx_aw_iast (pc := 16) (n := 64000) j3 ej3 rfl rfl (by decide) rfl hj3 (by decide) ?_
    show rx_aw 232 17 [.ref 90, .int a0, .int a1] [] (rx_hp L t (rx_u hi 129 j3 a1) hl v) Q
    refine rx_aw_s 1 (pc := 17) rfl ?_
    show rx_aw 232 18 [.ref 90, .int a0, .int a1] [.int 1] (rx_hp L t (rx_u hi 129 j3 a1) hl v) Q
    exact rx_aw_ret (pc := 18) rfl k
/-- CartFloorModel.isPending(I)Z -/
theorem w233_isPending_r {L : Nat} {t : List (Nat × Nat)} {hi : Nat → Nat → Int32} {hl : Nat → Nat → Int64} {v : Nat → Nat → Option Nat} {Q : Option Value → rx_H → Prop} {a0 : Int32} (k : rx_aw 233 4 [.ref 90, .int a0, .int 0, .int 0] [] (rx_hp L t hi hl v) Q) : rx_me 233 [.ref 90, .int a0] (rx_hp L t hi hl v) Q := by
  show rx_aw 233 0 [.ref 90, .int a0, rx_no, rx_no] [] (rx_hp L t hi hl v) Q
  refine rx_aw_s 4 (pc := 0) rfl ?_
  show rx_aw 233 4 [.ref 90, .int a0, .int 0, .int 0] [] (rx_hp L t hi hl v) Q
  exact k
theorem w233_isPending_r_4 {L : Nat} {t : List (Nat × Nat)} {hi : Nat → Nat → Int32} {hl : Nat → Nat → Int64} {v : Nat → Nat → Option Nat} {Q : Option Value → rx_H → Prop} {x1 : Int32} {x2 : Int32} {x3 : Int32} (k : ((64000 ≤ x3 → ((x2 = 0 ∨ x2 = 1) ∧ Q (some (.int x2)) (rx_hp L t hi hl v))) ∧ (¬ (64000 ≤ x3) → ((x2 = 0 → (∃ j3 : Nat, x3 = nI j3 ∧ j3 < 64000 ∧ (((hi 130 j3) = 0 → (∃ j5 : Nat, x3 = nI j5 ∧ j5 < 64000 ∧ (((hi 129 j5) < x1 → rx_aw 233 4 [.ref 90, .int x1, .int 0, .int (x3 + 1)] [] (rx_hp L t hi hl v) Q) ∧ (¬ ((hi 129 j5) < x1) → (∃ j7 : Nat, x3 = nI j7 ∧ j7 < 64000 ∧ ((1000000 ≤ (hi 129 j7) → rx_aw 233 4 [.ref 90, .int x1, .int 0, .int (x3 + 1)] [] (rx_hp L t hi hl v) Q) ∧ (¬ (1000000 ≤ (hi 129 j7)) → rx_aw 233 4 [.ref 90, .int x1, .int 1, .int (x3 + 1)] [] (rx_hp L t hi hl v) Q))))))) ∧ (¬ ((hi 130 j3) = 0) → rx_aw 233 4 [.ref 90, .int x1, .int 0, .int (x3 + 1)] [] (rx_hp L t hi hl v) Q)))) ∧ (¬ (x2 = 0) → ((x2 = 0 ∨ x2 = 1) ∧ Q (some (.int x2)) (rx_hp L t hi hl v))))))) : rx_aw 233 4 [.ref 90, .int x1, .int x2, .int x3] [] (rx_hp L t hi hl v) Q := by
  refine rx_aw_s 3 (pc := 4) rfl ?_
  refine rx_w_if (c := 64000 ≤ x3) ⟨fun c1 => ?_, fun c1 => ?_⟩
  · have k := k.1 c1
    show rx_aw 233 57 [.ref 90, .int x1, .int x2, .int x3] [] (rx_hp L t hi hl v) Q
    refine rx_aw_s 1 (pc := 57) rfl ?_
    show rx_aw 233 58 [.ref 90, .int x1, .int x2, .int x3] [.int x2] (rx_hp L t hi hl v) Q
    exact rx_w_zret (pc := 58) rfl rfl k
  · have k := k.2 c1
    show rx_aw 233 10 [.ref 90, .int x1, .int x2, .int x3] [] (rx_hp L t hi hl v) Q
    refine rx_aw_s 2 (pc := 10) rfl ?_
    refine rx_w_ifn (c := x2 = 0) ⟨fun c2 => ?_, fun c2 => ?_⟩
    · have k := k.1 c2
      show rx_aw 233 14 [.ref 90, .int x1, .int x2, .int x3] [] (rx_hp L t hi hl v) Q
      refine rx_aw_s 3 (pc := 14) rfl ?_
      show rx_aw 233 19 [.ref 90, .int x1, .int x2, .int x3] [.int x3, .ref 130] (rx_hp L t hi hl v) Q
      obtain ⟨j3, ej3, hj3, k⟩ := k
      refine rx_aw_bald (pc := 19) (n := 64000) j3 ej3 rfl (Or.inr rfl) (by decide) rfl hj3 (by decide) ?_
      show rx_aw 233 20 [.ref 90, .int x1, .int x2, .int x3] [.int (hi 130 j3)] (rx_hp L t hi hl v) Q
      refine rx_aw_s 1 (pc := 20) rfl ?_
      refine rx_w_ifn (c := (hi 130 j3) = 0) ⟨fun c4 => ?_, fun c4 => ?_⟩
      · have k := k.1 c4
        show rx_aw 233 23 [.ref 90, .int x1, .int x2, .int x3] [] (rx_hp L t hi hl v) Q
        refine rx_aw_s 3 (pc := 23) rfl ?_
        show rx_aw 233 28 [.ref 90, .int x1, .int x2, .int x3] [.int x3, .ref 129] (rx_hp L t hi hl v) Q
        obtain ⟨j5, ej5, hj5, k⟩ := k
        refine rx_aw_iald (pc := 28) (n := 64000) j5 ej5 rfl rfl rfl hj5 (by decide) ?_
        show rx_aw 233 29 [.ref 90, .int x1, .int x2, .int x3] [.int (hi 129 j5)] (rx_hp L t hi hl v) Q
        refine rx_aw_s 2 (pc := 29) rfl ?_
        refine rx_w_if (c := (hi 129 j5) < x1) ⟨fun c6 => ?_, fun c6 => ?_⟩
        · have k := k.1 c6
          show rx_aw 233 49 [.ref 90, .int x1, .int x2, .int x3] [] (rx_hp L t hi hl v) Q
          refine rx_aw_s 4 (pc := 49) rfl ?_
          show rx_aw 233 4 [.ref 90, .int x1, .int 0, .int (x3 + 1)] [] (rx_hp L t hi hl v) Q
          exact k
        · have k := k.2 c6
          show rx_aw 233 33 [.ref 90, .int x1, .int x2, .int x3] [] (rx_hp L t hi hl v) Q
          refine rx_aw_s 3 (pc := 33) rfl ?_
          show rx_aw 233 38 [.ref 90, .int x1, .int x2, .int x3] [.int x3, .ref 129] (rx_hp L t hi hl v) Q
          obtain ⟨j7, ej7, hj7, k⟩ := k
          refine rx_aw_iald (pc := 38) (n := 64000) j7 ej7 rfl rfl rfl hj7 (by decide) ?_
          show rx_aw 233 39 [.ref 90, .int x1, .int x2, .int x3] [.int (hi 129 j7)] (rx_hp L t hi hl v) Q
          refine rx_aw_s 2 (pc := 39) rfl ?_
          refine rx_w_if (c := 1000000 ≤ (hi 129 j7)) ⟨fun c8 => ?_, fun c8 => ?_⟩
          · have k := k.1 c8
            show rx_aw 233 49 [.ref 90, .int x1, .int x2, .int x3] [] (rx_hp L t hi hl v) Q
            refine rx_aw_s 4 (pc := 49) rfl ?_
            show rx_aw 233 4 [.ref 90, .int x1, .int 0, .int (x3 + 1)] [] (rx_hp L t hi hl v) Q
            exact k
          · have k := k.2 c8
            show rx_aw 233 45 [.ref 90, .int x1, .int x2, .int x3] [] (rx_hp L t hi hl v) Q
            refine rx_aw_s 5 (pc := 45) rfl ?_
            show rx_aw 233 4 [.ref 90, .int x1, .int 1, .int (x3 + 1)] [] (rx_hp L t hi hl v) Q
            exact k
      · have k := k.2 c4
        show rx_aw 233 49 [.ref 90, .int x1, .int x2, .int x3] [] (rx_hp L t hi hl v) Q
        refine rx_aw_s 4 (pc := 49) rfl ?_
        show rx_aw 233 4 [.ref 90, .int x1, .int 0, .int (x3 + 1)] [] (rx_hp L t hi hl v) Q
        exact k
    · have k := k.2 c2
      show rx_aw 233 57 [.ref 90, .int x1, .int x2, .int x3] [] (rx_hp L t hi hl v) Q
      refine rx_aw_s 1 (pc := 57) rfl ?_
      show rx_aw 233 58 [.ref 90, .int x1, .int x2, .int x3] [.int x2] (rx_hp L t hi hl v) Q
      exact rx_w_zret (pc := 58) rfl rfl k
/-- CartFloorModel.settle(I)Z -/
theorem w234_settle_r {L : Nat} {t : List (Nat × Nat)} {hi : Nat → Nat → Int32} {hl : Nat → Nat → Int64} {v : Nat → Nat → Option Nat} {Q : Option Value → rx_H → Prop} {a0 : Int32} (k : rx_aw 234 4 [.ref 90, .int a0, .int 1, .int 0, rx_no, rx_no, rx_no, rx_no] [] (rx_hp L t hi hl v) Q) : rx_me 234 [.ref 90, .int a0] (rx_hp L t hi hl v) Q := by
  show rx_aw 234 0 [.ref 90, .int a0, rx_no, rx_no, rx_no, rx_no, rx_no, rx_no] [] (rx_hp L t hi hl v) Q
  refine rx_aw_s 4 (pc := 0) rfl ?_
  show rx_aw 234 4 [.ref 90, .int a0, .int 1, .int 0, rx_no, rx_no, rx_no, rx_no] [] (rx_hp L t hi hl v) Q
  exact k
theorem w234_settle_r_4 {L : Nat} {t : List (Nat × Nat)} {hi : Nat → Nat → Int32} {hl : Nat → Nat → Int64} {v : Nat → Nat → Option Nat} {Q : Option Value → rx_H → Prop} {x1 : Int32} {x2 : Int32} {x3 : Int32} (k : ((x2 = 0 → ((x3 = 0 ∨ x3 = 1) ∧ Q (some (.int x3)) (rx_hp L t hi hl v))) ∧ (¬ (x2 = 0) → rx_aw 234 13 [.ref 90, .int x1, .int 0, .int x3, .int 0, rx_no, rx_no, rx_no] [] (rx_hp L t hi hl v) Q))) : rx_aw 234 4 [.ref 90, .int x1, .int x2, .int x3, rx_no, rx_no, rx_no, rx_no] [] (rx_hp L t hi hl v) Q := by
  refine rx_aw_s 2 (pc := 4) rfl ?_
  refine rx_w_if (c := x2 = 0) ⟨fun c1 => ?_, fun c1 => ?_⟩
  · have k := k.1 c1
    show rx_aw 234 171 [.ref 90, .int x1, .int x2, .int x3, rx_no, rx_no, rx_no, rx_no] [] (rx_hp L t hi hl v) Q
    refine rx_aw_s 1 (pc := 171) rfl ?_
    show rx_aw 234 172 [.ref 90, .int x1, .int x2, .int x3, rx_no, rx_no, rx_no, rx_no] [.int x3] (rx_hp L t hi hl v) Q
    exact rx_w_zret (pc := 172) rfl rfl k
  · have k := k.2 c1
    show rx_aw 234 8 [.ref 90, .int x1, .int x2, .int x3, rx_no, rx_no, rx_no, rx_no] [] (rx_hp L t hi hl v) Q
    refine rx_aw_s 4 (pc := 8) rfl ?_
    show rx_aw 234 13 [.ref 90, .int x1, .int 0, .int x3, .int 0, rx_no, rx_no, rx_no] [] (rx_hp L t hi hl v) Q
    exact k
theorem w234_settle_r_13 {L : Nat} {t : List (Nat × Nat)} {hi : Nat → Nat → Int32} {hl : Nat → Nat → Int64} {v : Nat → Nat → Option Nat} {Q : Option Value → rx_H → Prop} {x1 : Int32} {x2 : Int32} {x3 : Int32} {x4 : Int32} (k : ((64000 ≤ x4 → rx_aw 234 4 [.ref 90, .int x1, .int x2, .int x3, rx_no, rx_no, rx_no, rx_no] [] (rx_hp L t hi hl v) Q) ∧ (¬ (64000 ≤ x4) → (∃ j3 : Nat, x4 = nI j3 ∧ j3 < 64000 ∧ (((hi 129 j3) = x1 → (∃ j5 : Nat, x4 = nI j5 ∧ j5 < 64000 ∧ (((hi 130 j5) = 0 → (∃ j7 : Nat, x4 = nI j7 ∧ j7 < 64000 ∧ (((x4 - x4 / 8 * 8) = 0 → rx_me 235 [.ref 90, .int x4] (rx_hp L t (rx_u hi 130 j7 (vp_nar .boolean 1)) hl v) (fun r h2 => r = none ∧ rx_ok2 L t h2 (fun hi9 hl9 v9 => rx_aw 234 83 [.ref 90, .int x1, .int 1, .int (x3 ||| 1), .int x4, .int (x4 - x4 / 8 * 8), .int 0, rx_no] [] (rx_hp L t hi9 hl9 v9) Q))) ∧ (¬ ((x4 - x4 / 8 * 8) = 0) → rx_me 235 [.ref 90, .int x4] (rx_hp L t (rx_u hi 130 j7 (vp_nar .boolean 1)) hl v) (fun r h2 => r = none ∧ rx_ok2 L t h2 (fun hi10 hl10 v10 => rx_aw 234 83 [.ref 90, .int x1, .int 1, .int (x3 ||| 0), .int x4, .int (x4 - x4 / 8 * 8), .int 0, rx_no] [] (rx_hp L t hi10 hl10 v10) Q)))))) ∧ (¬ ((hi 130 j5) = 0) → rx_aw 234 13 [.ref 90, .int x1, .int x2, .int x3, .int (x4 + 1), rx_no, rx_no, rx_no] [] (rx_hp L t hi hl v) Q)))) ∧ (¬ ((hi 129 j3) = x1) → rx_aw 234 13 [.ref 90, .int x1, .int x2, .int x3, .int (x4 + 1), rx_no, rx_no, rx_no] [] (rx_hp L t hi hl v) Q)))))) : rx_aw 234 13 [.ref 90, .int x1, .int x2, .int x3, .int x4, rx_no, rx_no, rx_no] [] (rx_hp L t hi hl v) Q := by
  refine rx_aw_s 3 (pc := 13) rfl ?_
  refine rx_w_if (c := 64000 ≤ x4) ⟨fun c2 => ?_, fun c2 => ?_⟩
  · have k := k.1 c2
    show rx_aw 234 168 [.ref 90, .int x1, .int x2, .int x3, .int x4, rx_no, rx_no, rx_no] [] (rx_hp L t hi hl v) Q
    refine rx_aw_s 1 (pc := 168) rfl ?_
    show rx_aw 234 4 [.ref 90, .int x1, .int x2, .int x3, .int x4, rx_no, rx_no, rx_no] [] (rx_hp L t hi hl v) Q
    exact rx_aw_le (ls := [.ref 90, .int x1, .int x2, .int x3, rx_no, rx_no, rx_no, rx_no]) ⟨Or.inr rfl, ⟨Or.inr rfl, ⟨Or.inr rfl, ⟨Or.inr rfl, ⟨Or.inl rfl, ⟨Or.inl rfl, ⟨Or.inl rfl, ⟨Or.inl rfl, trivial⟩⟩⟩⟩⟩⟩⟩⟩ k
  · have k := k.2 c2
    show rx_aw 234 20 [.ref 90, .int x1, .int x2, .int x3, .int x4, rx_no, rx_no, rx_no] [] (rx_hp L t hi hl v) Q
    refine rx_aw_s 3 (pc := 20) rfl ?_
    show rx_aw 234 26 [.ref 90, .int x1, .int x2, .int x3, .int x4, rx_no, rx_no, rx_no] [.int x4, .ref 129] (rx_hp L t hi hl v) Q
    obtain ⟨j3, ej3, hj3, k⟩ := k
    refine rx_aw_iald (pc := 26) (n := 64000) j3 ej3 rfl rfl rfl hj3 (by decide) ?_
    show rx_aw 234 27 [.ref 90, .int x1, .int x2, .int x3, .int x4, rx_no, rx_no, rx_no] [.int (hi 129 j3)] (rx_hp L t hi hl v) Q
    refine rx_aw_s 2 (pc := 27) rfl ?_
    refine rx_w_ifn (c := (hi 129 j3) = x1) ⟨fun c4 => ?_, fun c4 => ?_⟩
    · have k := k.1 c4
      show rx_aw 234 31 [.ref 90, .int x1, .int x2, .int x3, .int x4, rx_no, rx_no, rx_no] [] (rx_hp L t hi hl v) Q
      refine rx_aw_s 3 (pc := 31) rfl ?_
      show rx_aw 234 37 [.ref 90, .int x1, .int x2, .int x3, .int x4, rx_no, rx_no, rx_no] [.int x4, .ref 130] (rx_hp L t hi hl v) Q
      obtain ⟨j5, ej5, hj5, k⟩ := k
      refine rx_aw_bald (pc := 37) (n := 64000) j5 ej5 rfl (Or.inr rfl) (by decide) rfl hj5 (by decide) ?_
      show rx_aw 234 38 [.ref 90, .int x1, .int x2, .int x3, .int x4, rx_no, rx_no, rx_no] [.int (hi 130 j5)] (rx_hp L t hi hl v) Q
      refine rx_aw_s 1 (pc := 38) rfl ?_
      refine rx_w_if (c := (hi 130 j5) = 0) ⟨fun c6 => ?_, fun c6 => ?_⟩
      · have k := k.1 c6
        show rx_aw 234 44 [.ref 90, .int x1, .int x2, .int x3, .int x4, rx_no, rx_no, rx_no] [] (rx_hp L t hi hl v) Q
        refine rx_aw_s 4 (pc := 44) rfl ?_
        show rx_aw 234 51 [.ref 90, .int x1, .int x2, .int x3, .int x4, rx_no, rx_no, rx_no] [.int 1, .int x4, .ref 130] (rx_hp L t hi hl v) Q
        obtain ⟨j7, ej7, hj7, k⟩ := k
        refine rx_aw_zast (pc := 51) (n := 64000) j7 ej7 rfl rfl (by decide) rfl hj7 (by decide) ?_
        show rx_aw 234 52 [.ref 90, .int x1, .int x2, .int x3, .int x4, rx_no, rx_no, rx_no] [] (rx_hp L t (rx_u hi 130 j7 (vp_nar .boolean 1)) hl v) Q
        refine rx_aw_s 4 (pc := 52) rfl ?_
        show rx_aw 234 58 [.ref 90, .int x1, .int 1, .int x3, .int x4, rx_no, rx_no, rx_no] [.int 8, .int x4] (rx_hp L t (rx_u hi 130 j7 (vp_nar .boolean 1)) hl v) Q
        refine rx_aw_rem (pc := 58) rfl (by decide) ?_
        show rx_aw 234 59 [.ref 90, .int x1, .int 1, .int x3, .int x4, rx_no, rx_no, rx_no] [.int (x4 - x4 / 8 * 8)] (rx_hp L t (rx_u hi 130 j7 (vp_nar .boolean 1)) hl v) Q
        refine rx_aw_s 4 (pc := 59) rfl ?_
        refine rx_w_ifn (c := (x4 - x4 / 8 * 8) = 0) ⟨fun c8 => ?_, fun c8 => ?_⟩
        · have k := k.1 c8
          show rx_aw 234 67 [.ref 90, .int x1, .int 1, .int x3, .int x4, .int (x4 - x4 / 8 * 8), rx_no, rx_no] [.int x3] (rx_hp L t (rx_u hi 130 j7 (vp_nar .boolean 1)) hl v) Q
          refine rx_aw_s 6 (pc := 67) rfl ?_
          show rx_aw 234 77 [.ref 90, .int x1, .int 1, .int (x3 ||| 1), .int x4, .int (x4 - x4 / 8 * 8), rx_no, rx_no] [.int x4, .ref 90] (rx_hp L t (rx_u hi 130 j7 (vp_nar .boolean 1)) hl v) Q
          refine rx_w_callV (j := 235) (pc := 77) rfl rfl rfl rfl rfl ?_
          refine rx_aw.mono k (fun r h2 k => ?_)
          obtain ⟨rfl, hi9, hl9, v9, rfl, k⟩ := k
          refine ⟨rfl, ?_⟩
          show rx_aw 234 80 [.ref 90, .int x1, .int 1, .int (x3 ||| 1), .int x4, .int (x4 - x4 / 8 * 8), rx_no, rx_no] [] (rx_hp L t hi9 hl9 v9) Q
          refine rx_aw_s 2 (pc := 80) rfl ?_
          show rx_aw 234 83 [.ref 90, .int x1, .int 1, .int (x3 ||| 1), .int x4, .int (x4 - x4 / 8 * 8), .int 0, rx_no] [] (rx_hp L t hi9 hl9 v9) Q
          exact k
        · have k := k.2 c8
          show rx_aw 234 71 [.ref 90, .int x1, .int 1, .int x3, .int x4, .int (x4 - x4 / 8 * 8), rx_no, rx_no] [.int x3] (rx_hp L t (rx_u hi 130 j7 (vp_nar .boolean 1)) hl v) Q
          refine rx_aw_s 5 (pc := 71) rfl ?_
          show rx_aw 234 77 [.ref 90, .int x1, .int 1, .int (x3 ||| 0), .int x4, .int (x4 - x4 / 8 * 8), rx_no, rx_no] [.int x4, .ref 90] (rx_hp L t (rx_u hi 130 j7 (vp_nar .boolean 1)) hl v) Q
          refine rx_w_callV (j := 235) (pc := 77) rfl rfl rfl rfl rfl ?_
          refine rx_aw.mono k (fun r h2 k => ?_)
          obtain ⟨rfl, hi10, hl10, v10, rfl, k⟩ := k
          refine ⟨rfl, ?_⟩
          show rx_aw 234 80 [.ref 90, .int x1, .int 1, .int (x3 ||| 0), .int x4, .int (x4 - x4 / 8 * 8), rx_no, rx_no] [] (rx_hp L t hi10 hl10 v10) Q
          refine rx_aw_s 2 (pc := 80) rfl ?_
          show rx_aw 234 83 [.ref 90, .int x1, .int 1, .int (x3 ||| 0), .int x4, .int (x4 - x4 / 8 * 8), .int 0, rx_no] [] (rx_hp L t hi10 hl10 v10) Q
          exact k
      · have k := k.2 c6
        show rx_aw 234 41 [.ref 90, .int x1, .int x2, .int x3, .int x4, rx_no, rx_no, rx_no] [] (rx_hp L t hi hl v) Q
        refine rx_aw_s 3 (pc := 41) rfl ?_
        show rx_aw 234 13 [.ref 90, .int x1, .int x2, .int x3, .int (x4 + 1), rx_no, rx_no, rx_no] [] (rx_hp L t hi hl v) Q
        exact k
    · have k := k.2 c4
      show rx_aw 234 162 [.ref 90, .int x1, .int x2, .int x3, .int x4, rx_no, rx_no, rx_no] [] (rx_hp L t hi hl v) Q
      refine rx_aw_s 2 (pc := 162) rfl ?_
      show rx_aw 234 13 [.ref 90, .int x1, .int x2, .int x3, .int (x4 + 1), rx_no, rx_no, rx_no] [] (rx_hp L t hi hl v) Q
      exact k
theorem w234_settle_r_83 {L : Nat} {t : List (Nat × Nat)} {hi : Nat → Nat → Int32} {hl : Nat → Nat → Int64} {v : Nat → Nat → Option Nat} {Q : Option Value → rx_H → Prop} {x1 : Int32} {x2 : Int32} {x3 : Int32} {x4 : Int32} {x5 : Int32} {x6 : Int32} (k : (((hi 90 53) ≤ x6 → ((x5 = 0 → rx_aw 234 13 [.ref 90, .int x1, .int x2, .int x3, .int (x4 + 1), rx_no, rx_no, rx_no] [] (rx_hp L t hi hl v) Q) ∧ (¬ (x5 = 0) → rx_me 236 [.ref 90, .int x5, .int x1] (rx_hp L t hi hl v) (fun r h2 => r = none ∧ rx_ok2 L t h2 (fun hi13 hl13 v13 => rx_aw 234 13 [.ref 90, .int x1, .int x2, .int x3, .int (x4 + 1), rx_no, rx_no, rx_no] [] (rx_hp L t hi13 hl13 v13) Q))))) ∧ (¬ ((hi 90 53) ≤ x6) → ((((x5 >>> (x6 &&& 31)) &&& 1) = 1 → (∃ j15 : Nat, x6 = nI j15 ∧ j15 < 3 ∧ (∃ j16 : Nat, (hi 132 j15) = nI j16 ∧ j16 < 20 ∧ (∃ j17 : Nat, x6 = nI j17 ∧ j17 < 3 ∧ (∃ j18 : Nat, (hi 128 j17) = nI j18 ∧ j18 < 6 ∧ (((hi 126 j16) = (hi 97 j18) → rx_me 232 [.ref 90, .int (x4 - (1 <<< (x6 &&& 31))), .int x1] (rx_hp L t hi hl v) (fun r h2 => ∃ z20 : Int32, r = some (.int z20) ∧ rx_ok2 L t h2 (fun hi20 hl20 v20 => rx_aw 234 83 [.ref 90, .int x1, .int x2, .int x3, .int x4, .int x5, .int (x6 + 1), rx_no] [] (rx_hp L t hi20 hl20 v20) Q))) ∧ (¬ ((hi 126 j16) = (hi 97 j18)) → rx_aw 234 83 [.ref 90, .int x1, .int x2, .int x3, .int x4, .int x5, .int (x6 + 1), rx_no] [] (rx_hp L t hi hl v) Q))))))) ∧ (¬ (((x5 >>> (x6 &&& 31)) &&& 1) = 1) → rx_aw 234 83 [.ref 90, .int x1, .int x2, .int x3, .int x4, .int x5, .int (x6 + 1), rx_no] [] (rx_hp L t hi hl v) Q))))) : rx_aw 234 83 [.ref 90, .int x1, .int x2, .int x3, .int x4, .int x5, .int x6, rx_no] [] (rx_hp L t hi hl v) Q := by
  refine rx_aw_s 4 (pc := 83) rfl ?_
  refine rx_w_if (c := (hi 90 53) ≤ x6) ⟨fun c11 => ?_, fun c11 => ?_⟩
  · have k := k.1 c11
    show rx_aw 234 150 [.ref 90, .int x1, .int x2, .int x3, .int x4, .int x5, .int x6, rx_no] [] (rx_hp L t hi hl v) Q
    refine rx_aw_s 2 (pc := 150) rfl ?_
    refine rx_w_if (c := x5 = 0) ⟨fun c12 => ?_, fun c12 => ?_⟩
    · have k := k.1 c12
      show rx_aw 234 162 [.ref 90, .int x1, .int x2, .int x3, .int x4, .int x5, .int x6, rx_no] [] (rx_hp L t hi hl v) Q
      refine rx_aw_s 2 (pc := 162) rfl ?_
      show rx_aw 234 13 [.ref 90, .int x1, .int x2, .int x3, .int (x4 + 1), .int x5, .int x6, rx_no] [] (rx_hp L t hi hl v) Q
      exact rx_aw_le (ls := [.ref 90, .int x1, .int x2, .int x3, .int (x4 + 1), rx_no, rx_no, rx_no]) ⟨Or.inr rfl, ⟨Or.inr rfl, ⟨Or.inr rfl, ⟨Or.inr rfl, ⟨Or.inr rfl, ⟨Or.inl rfl, ⟨Or.inl rfl, ⟨Or.inl rfl, trivial⟩⟩⟩⟩⟩⟩⟩⟩ k
    · have k := k.2 c12
      show rx_aw 234 155 [.ref 90, .int x1, .int x2, .int x3, .int x4, .int x5, .int x6, rx_no] [] (rx_hp L t hi hl v) Q
      refine rx_aw_s 3 (pc := 155) rfl ?_
      show rx_aw 234 159 [.ref 90, .int x1, .int x2, .int x3, .int x4, .int x5, .int x6, rx_no] [.int x1, .int x5, .ref 90] (rx_hp L t hi hl v) Q
      refine rx_w_callV (j := 236) (pc := 159) rfl rfl rfl rfl rfl ?_
      refine rx_aw.mono k (fun r h2 k => ?_)
      obtain ⟨rfl, hi13, hl13, v13, rfl, k⟩ := k
      refine ⟨rfl, ?_⟩
      show rx_aw 234 162 [.ref 90, .int x1, .int x2, .int x3, .int x4, .int x5, .int x6, rx_no] [] (rx_hp L t hi13 hl13 v13) Q
      refine rx_aw_s 2 (pc := 162) rfl ?_
      show rx_aw 234 13 [.ref 90, .int x1, .int x2, .int x3, .int (x4 + 1), .int x5, .int x6, rx_no] [] (rx_hp L t hi13 hl13 v13) Q
      exact rx_aw_le (ls := [.ref 90, .int x1, .int x2, .int x3, .int (x4 + 1), rx_no, rx_no, rx_no]) ⟨Or.inr rfl, ⟨Or.inr rfl, ⟨Or.inr rfl, ⟨Or.inr rfl, ⟨Or.inr rfl, ⟨Or.inl rfl, ⟨Or.inl rfl, ⟨Or.inl rfl, trivial⟩⟩⟩⟩⟩⟩⟩⟩ k
  · have k := k.2 c11
    show rx_aw 234 92 [.ref 90, .int x1, .int x2, .int x3, .int x4, .int x5, .int x6, rx_no] [] (rx_hp L t hi hl v) Q
    refine rx_aw_s 7 (pc := 92) rfl ?_
    refine rx_w_ifn (c := ((x5 >>> (x6 &&& 31)) &&& 1) = 1) ⟨fun c14 => ?_, fun c14 => ?_⟩
    · have k := k.1 c14
      show rx_aw 234 103 [.ref 90, .int x1, .int x2, .int x3, .int x4, .int x5, .int x6, rx_no] [] (rx_hp L t hi hl v) Q
      refine rx_aw_s 5 (pc := 103) rfl ?_
      show rx_aw 234 113 [.ref 90, .int x1, .int x2, .int x3, .int x4, .int x5, .int x6, rx_no] [.int x6, .ref 132, .ref 126] (rx_hp L t hi hl v) Q
      obtain ⟨j15, ej15, hj15, k⟩ := k
      refine rx_aw_iald (pc := 113) (n := 3) j15 ej15 rfl rfl rfl hj15 (by decide) ?_
      show rx_aw 234 114 [.ref 90, .int x1, .int x2, .int x3, .int x4, .int x5, .int x6, rx_no] [.int (hi 132 j15), .ref 126] (rx_hp L t hi hl v) Q
      obtain ⟨j16, ej16, hj16, k⟩ := k
      refine rx_aw_iald (pc := 114) (n := 20) j16 ej16 rfl rfl rfl hj16 (by decide) ?_
      show rx_aw 234 115 [.ref 90, .int x1, .int x2, .int x3, .int x4, .int x5, .int x6, rx_no] [.int (hi 126 j16)] (rx_hp L t hi hl v) Q
      refine rx_aw_s 5 (pc := 115) rfl ?_
      show rx_aw 234 125 [.ref 90, .int x1, .int x2, .int x3, .int x4, .int x5, .int x6, rx_no] [.int x6, .ref 128, .ref 97, .int (hi 126 j16)] (rx_hp L t hi hl v) Q
      obtain ⟨j17, ej17, hj17, k⟩ := k
      refine rx_aw_iald (pc := 125) (n := 3) j17 ej17 rfl rfl rfl hj17 (by decide) ?_
      show rx_aw 234 126 [.ref 90, .int x1, .int x2, .int x3, .int x4, .int x5, .int x6, rx_no] [.int (hi 128 j17), .ref 97, .int (hi 126 j16)] (rx_hp L t hi hl v) Q
      obtain ⟨j18, ej18, hj18, k⟩ := k
      refine rx_aw_iald (pc := 126) (n := 6) j18 ej18 rfl rfl rfl hj18 (by decide) ?_
      show rx_aw 234 127 [.ref 90, .int x1, .int x2, .int x3, .int x4, .int x5, .int x6, rx_no] [.int (hi 97 j18), .int (hi 126 j16)] (rx_hp L t hi hl v) Q
      refine rx_aw_s 1 (pc := 127) rfl ?_
      refine rx_w_ifn (c := (hi 126 j16) = (hi 97 j18)) ⟨fun c19 => ?_, fun c19 => ?_⟩
      · have k := k.1 c19
        show rx_aw 234 130 [.ref 90, .int x1, .int x2, .int x3, .int x4, .int x5, .int x6, rx_no] [] (rx_hp L t hi hl v) Q
        refine rx_aw_s 7 (pc := 130) rfl ?_
        show rx_aw 234 139 [.ref 90, .int x1, .int x2, .int x3, .int x4, .int x5, .int x6, rx_no] [.int x1, .int (x4 - (1 <<< (x6 &&& 31))), .ref 90] (rx_hp L t hi hl v) Q
        refine rx_w_callI (j := 232) (pc := 139) rfl rfl rfl rfl rfl ?_
        refine rx_aw.mono k (fun r h2 k => ?_)
        obtain ⟨z20, rfl, hi20, hl20, v20, rfl, k⟩ := k
        refine ⟨z20, rfl, ?_⟩
        show rx_aw 234 142 [.ref 90, .int x1, .int x2, .int x3, .int x4, .int x5, .int x6, rx_no] [.int z20] (rx_hp L t hi20 hl20 v20) Q
        refine rx_aw_s 3 (pc := 142) rfl ?_
        show rx_aw 234 83 [.ref 90, .int x1, .int x2, .int x3, .int x4, .int x5, .int (x6 + 1), .int z20] [] (rx_hp L t hi20 hl20 v20) Q
        exact rx_aw_le (ls := [.ref 90, .int x1, .int x2, .int x3, .int x4, .int x5, .int (x6 + 1), rx_no]) ⟨Or.inr rfl, ⟨Or.inr rfl, ⟨Or.inr rfl, ⟨Or.inr rfl, ⟨Or.inr rfl, ⟨Or.inr rfl, ⟨Or.inr rfl, ⟨Or.inl rfl, trivial⟩⟩⟩⟩⟩⟩⟩⟩ k
      · have k := k.2 c19
        show rx_aw 234 144 [.ref 90, .int x1, .int x2, .int x3, .int x4, .int x5, .int x6, rx_no] [] (rx_hp L t hi hl v) Q
        refine rx_aw_s 2 (pc := 144) rfl ?_
        show rx_aw 234 83 [.ref 90, .int x1, .int x2, .int x3, .int x4, .int x5, .int (x6 + 1), rx_no] [] (rx_hp L t hi hl v) Q
        exact k
    · have k := k.2 c14
      show rx_aw 234 144 [.ref 90, .int x1, .int x2, .int x3, .int x4, .int x5, .int x6, rx_no] [] (rx_hp L t hi hl v) Q
      refine rx_aw_s 2 (pc := 144) rfl ?_
      show rx_aw 234 83 [.ref 90, .int x1, .int x2, .int x3, .int x4, .int x5, .int (x6 + 1), rx_no] [] (rx_hp L t hi hl v) Q
      exact k
/-- CartFloorModel.openState(I)V -/
theorem w235_openState_r {L : Nat} {t : List (Nat × Nat)} {hi : Nat → Nat → Int32} {hl : Nat → Nat → Int64} {v : Nat → Nat → Option Nat} {Q : Option Value → rx_H → Prop} {a0 : Int32} (k : rx_aw 235 7 [.ref 90, .int a0, .int (a0 / 8), .int 2] [] (rx_hp L t hi hl v) Q) : rx_me 235 [.ref 90, .int a0] (rx_hp L t hi hl v) Q := by
  show rx_aw 235 0 [.ref 90, .int a0, rx_no, rx_no] [] (rx_hp L t hi hl v) Q
  refine rx_aw_s 2 (pc := 0) rfl ?_
  show rx_aw 235 3 [.ref 90, .int a0, rx_no, rx_no] [.int 8, .int a0] (rx_hp L t hi hl v) Q
  refine rx_aw_div (pc := 3) rfl (by decide) ?_
  show rx_aw 235 4 [.ref 90, .int a0, rx_no, rx_no] [.int (a0 / 8)] (rx_hp L t hi hl v) Q
  refine rx_aw_s 3 (pc := 4) rfl ?_
  show rx_aw 235 7 [.ref 90, .int a0, .int (a0 / 8), .int 2] [] (rx_hp L t hi hl v) Q
  exact k
theorem w235_openState_r_7 {L : Nat} {t : List (Nat × Nat)} {hi : Nat → Nat → Int32} {hl : Nat → Nat → Int64} {v : Nat → Nat → Option Nat} {Q : Option Value → rx_H → Prop} {x1 : Int32} {x2 : Int32} {x3 : Int32} (k : ((x3 < 0 → Q none (rx_hp L t hi hl v)) ∧ (¬ (x3 < 0) → (∃ j2 : Nat, x3 = nI j2 ∧ j2 < 3 ∧ rx_aw 235 7 [.ref 90, .int x1, .int (x2 / 20), .int (x3 + (-1))] [] (rx_hp L t (rx_u hi 132 j2 (x2 - x2 / 20 * 20)) hl v) Q)))) : rx_aw 235 7 [.ref 90, .int x1, .int x2, .int x3] [] (rx_hp L t hi hl v) Q := by
  refine rx_aw_s 2 (pc := 7) rfl ?_
  refine rx_w_if (c := x3 < 0) ⟨fun c1 => ?_, fun c1 => ?_⟩
  · have k := k.1 c1
    show rx_aw 235 32 [.ref 90, .int x1, .int x2, .int x3] [] (rx_hp L t hi hl v) Q
    exact rx_aw_ret (pc := 32) rfl k
  · have k := k.2 c1
    show rx_aw 235 11 [.ref 90, .int x1, .int x2, .int x3] [] (rx_hp L t hi hl v) Q
    refine rx_aw_s 5 (pc := 11) rfl ?_
    show rx_aw 235 19 [.ref 90, .int x1, .int x2, .int x3] [.int 20, .int x2, .int x3, .ref 132] (rx_hp L t hi hl v) Q
    refine rx_aw_rem (pc := 19) rfl (by decide) ?_
    show rx_aw 235 20 [.ref 90, .int x1, .int x2, .int x3] [.int (x2 - x2 / 20 * 20), .int x3, .ref 132] (rx_hp L t hi hl v) Q
    obtain ⟨j2, ej2, hj2, k⟩ := k
    refine rx_aw_iast (pc := 20) (n := 3) j2 ej2 rfl rfl (by decide) rfl hj2 (by decide) ?_
    show rx_aw 235 21 [.ref 90, .int x1, .int x2, .int x3] [] (rx_hp L t (rx_u hi 132 j2 (x2 - x2 / 20 * 20)) hl v) Q
    refine rx_aw_s 2 (pc := 21) rfl ?_
    show rx_aw 235 24 [.ref 90, .int x1, .int x2, .int x3] [.int 20, .int x2] (rx_hp L t (rx_u hi 132 j2 (x2 - x2 / 20 * 20)) hl v) Q
    refine rx_aw_div (pc := 24) rfl (by decide) ?_
    show rx_aw 235 25 [.ref 90, .int x1, .int x2, .int x3] [.int (x2 / 20)] (rx_hp L t (rx_u hi 132 j2 (x2 - x2 / 20 * 20)) hl v) Q
    refine rx_aw_s 3 (pc := 25) rfl ?_
    show rx_aw 235 7 [.ref 90, .int x1, .int (x2 / 20), .int (x3 + (-1))] [] (rx_hp L t (rx_u hi 132 j2 (x2 - x2 / 20 * 20)) hl v) Q
    exact k
/-- CartFloorModel.spread(II)V -/
theorem w236_spread_r {L : Nat} {t : List (Nat × Nat)} {hi : Nat → Nat → Int32} {hl : Nat → Nat → Int64} {v : Nat → Nat → Option Nat} {Q : Option Value → rx_H → Prop} {a0 : Int32} {a1 : Int32} (k : rx_aw 236 19 [.ref 90, .int a0, .int a1, .int (((a0 &&& 1) + ((a0 >>> (1 &&& 31)) &&& 1)) + ((a0 >>> (2 &&& 31)) &&& 1)), .int 0, rx_no, rx_no, rx_no, rx_no, rx_no, rx_no] [] (rx_hp L t hi hl v) Q) : rx_me 236 [.ref 90, .int a0, .int a1] (rx_hp L t hi hl v) Q := by
  show rx_aw 236 0 [.ref 90, .int a0, .int a1, rx_no, rx_no, rx_no, rx_no, rx_no, rx_no, rx_no, rx_no] [] (rx_hp L t hi hl v) Q
  refine rx_aw_s 18 (pc := 0) rfl ?_
  show rx_aw 236 19 [.ref 90, .int a0, .int a1, .int (((a0 &&& 1) + ((a0 >>> (1 &&& 31)) &&& 1)) + ((a0 >>> (2 &&& 31)) &&& 1)), .int 0, rx_no, rx_no, rx_no, rx_no, rx_no, rx_no] [] (rx_hp L t hi hl v) Q
  exact k
theorem w236_spread_r_19 {L : Nat} {t : List (Nat × Nat)} {hi : Nat → Nat → Int32} {hl : Nat → Nat → Int64} {v : Nat → Nat → Option Nat} {Q : Option Value → rx_H → Prop} {x1 : Int32} {x2 : Int32} {x3 : Int32} {x4 : Int32} (k : ((125 ≤ x4 → Q none (rx_hp L t hi hl v)) ∧ (¬ (125 ≤ x4) → rx_aw 236 36 [.ref 90, .int x1, .int x2, .int x3, .int x4, .int x4, .int 1, .int 0, rx_no, rx_no, rx_no] [] (rx_hp L t hi hl v) Q))) : rx_aw 236 19 [.ref 90, .int x1, .int x2, .int x3, .int x4, rx_no, rx_no, rx_no, rx_no, rx_no, rx_no] [] (rx_hp L t hi hl v) Q := by
  refine rx_aw_s 3 (pc := 19) rfl ?_
  refine rx_w_if (c := 125 ≤ x4) ⟨fun c1 => ?_, fun c1 => ?_⟩
  · have k := k.1 c1
    show rx_aw 236 252 [.ref 90, .int x1, .int x2, .int x3, .int x4, rx_no, rx_no, rx_no, rx_no, rx_no, rx_no] [] (rx_hp L t hi hl v) Q
    exact rx_aw_ret (pc := 252) rfl k
  · have k := k.2 c1
    show rx_aw 236 26 [.ref 90, .int x1, .int x2, .int x3, .int x4, rx_no, rx_no, rx_no, rx_no, rx_no, rx_no] [] (rx_hp L t hi hl v) Q
    refine rx_aw_s 6 (pc := 26) rfl ?_
    show rx_aw 236 36 [.ref 90, .int x1, .int x2, .int x3, .int x4, .int x4, .int 1, .int 0, rx_no, rx_no, rx_no] [] (rx_hp L t hi hl v) Q
    exact k
theorem w236_spread_r_36 {L : Nat} {t : List (Nat × Nat)} {hi : Nat → Nat → Int32} {hl : Nat → Nat → Int64} {v : Nat → Nat → Option Nat} {Q : Option Value → rx_H → Prop} {x1 : Int32} {x2 : Int32} {x3 : Int32} {x4 : Int32} {x5 : Int32} {x6 : Int32} {x7 : Int32} (k : ((3 ≤ x7 → ((x6 = 0 → rx_aw 236 19 [.ref 90, .int x1, .int x2, .int x3, .int (x4 + 1), rx_no, rx_no, rx_no, rx_no, rx_no, rx_no] [] (rx_hp L t hi hl v) Q) ∧ (¬ (x6 = 0) → rx_me 237 [.ref 90] (rx_hp L t hi hl v) (fun r h2 => ∃ z4 : Int32, r = some (.int z4) ∧ rx_ok2 L t h2 (fun hi4 hl4 v4 => ((z4 = 0 → rx_aw 236 19 [.ref 90, .int x1, .int x2, .int x3, .int (x4 + 1), rx_no, rx_no, rx_no, rx_no, rx_no, rx_no] [] (rx_hp L t hi4 hl4 v4) Q) ∧ (¬ (z4 = 0) → rx_me 231 [.ref 90, .ref 133, .int x1] (rx_hp L t hi4 hl4 v4) (fun r h2 => ∃ z6 : Int32, r = some (.int z6) ∧ rx_ok2 L t h2 (fun hi6 hl6 v6 => rx_me 232 [.ref 90, .int z6, .int (x2 + x3)] (rx_hp L t hi6 hl6 v6) (fun r h2 => ∃ z7 : Int32, r = some (.int z7) ∧ rx_ok2 L t h2 (fun hi7 hl7 v7 => rx_aw 236 19 [.ref 90, .int x1, .int x2, .int x3, .int (x4 + 1), rx_no, rx_no, rx_no, rx_no, rx_no, rx_no] [] (rx_hp L t hi7 hl7 v7) Q))))))))))) ∧ (¬ (3 ≤ x7) → (((hi 90 53) ≤ x7 → (∃ j9 : Nat, x7 = nI j9 ∧ j9 < 3 ∧ (∃ j10 : Nat, x7 = nI j10 ∧ j10 < 3 ∧ ((0 = 0 → (((x5 - x5 / 5 * 5) = 0 → ((0 = 0 → rx_aw 236 36 [.ref 90, .int x1, .int x2, .int x3, .int x4, .int (x5 / 5), .int (x6 &&& 1), .int (x7 + 1), rx_no, rx_no, rx_no] [] (rx_hp L t (rx_u hi 133 j10 (hi 132 j9)) hl v) Q) ∧ (¬ (0 = 0) → (((x5 - x5 / 5 * 5) ≤ 0 → rx_aw 236 36 [.ref 90, .int x1, .int x2, .int x3, .int x4, .int (x5 / 5), .int (x6 &&& 1), .int (x7 + 1), rx_no, rx_no, rx_no] [] (rx_hp L t (rx_u hi 133 j10 (hi 132 j9)) hl v) Q) ∧ (¬ ((x5 - x5 / 5 * 5) ≤ 0) → (∃ j15 : Nat, x7 = nI j15 ∧ j15 < 3 ∧ (∃ j16 : Nat, ((rx_u hi 133 j10 (hi 132 j9)) 132 j15) = nI j16 ∧ j16 < 20 ∧ rx_me 181 [.ref 90, .int ((rx_u hi 133 j10 (hi 132 j9)) 126 j16), .int ((x5 - x5 / 5 * 5) - 1)] (rx_hp L t (rx_u hi 133 j10 (hi 132 j9)) hl v) (fun r h2 => ∃ z17 : Int32, r = some (.int z17) ∧ rx_ok2 L t h2 (fun hi17 hl17 v17 => ((z17 < 0 → ((z17 < 0 → (∃ j20 : Nat, x7 = nI j20 ∧ j20 < 3 ∧ (∃ j21 : Nat, x7 = nI j21 ∧ j21 < 3 ∧ rx_aw 236 36 [.ref 90, .int x1, .int x2, .int x3, .int x4, .int (x5 / 5), .int ((x6 &&& 1) &&& 0), .int (x7 + 1), rx_no, rx_no, rx_no] [] (rx_hp L t (rx_u hi17 133 j21 (hi17 132 j20)) hl17 v17) Q))) ∧ (¬ (z17 < 0) → (∃ j22 : Nat, z17 = nI j22 ∧ j22 < 64 ∧ (((hi17 127 j22) < 0 → (∃ j24 : Nat, x7 = nI j24 ∧ j24 < 3 ∧ (∃ j25 : Nat, x7 = nI j25 ∧ j25 < 3 ∧ rx_aw 236 36 [.ref 90, .int x1, .int x2, .int x3, .int x4, .int (x5 / 5), .int ((x6 &&& 1) &&& 0), .int (x7 + 1), rx_no, rx_no, rx_no] [] (rx_hp L t (rx_u hi17 133 j25 (hi17 132 j24)) hl17 v17) Q))) ∧ (¬ ((hi17 127 j22) < 0) → (∃ j26 : Nat, z17 = nI j26 ∧ j26 < 64 ∧ (∃ j27 : Nat, x7 = nI j27 ∧ j27 < 3 ∧ rx_aw 236 36 [.ref 90, .int x1, .int x2, .int x3, .int x4, .int (x5 / 5), .int ((x6 &&& 1) &&& 0), .int (x7 + 1), rx_no, rx_no, rx_no] [] (rx_hp L t (rx_u hi17 133 j27 (hi17 127 j26)) hl17 v17) Q)))))))) ∧ (¬ (z17 < 0) → (∃ j28 : Nat, z17 = nI j28 ∧ j28 < 64 ∧ (((hi17 127 j28) < 0 → ((z17 < 0 → (∃ j31 : Nat, x7 = nI j31 ∧ j31 < 3 ∧ (∃ j32 : Nat, x7 = nI j32 ∧ j32 < 3 ∧ rx_aw 236 36 [.ref 90, .int x1, .int x2, .int x3, .int x4, .int (x5 / 5), .int ((x6 &&& 1) &&& 0), .int (x7 + 1), rx_no, rx_no, rx_no] [] (rx_hp L t (rx_u hi17 133 j32 (hi17 132 j31)) hl17 v17) Q))) ∧ (¬ (z17 < 0) → (∃ j33 : Nat, z17 = nI j33 ∧ j33 < 64 ∧ (((hi17 127 j33) < 0 → (∃ j35 : Nat, x7 = nI j35 ∧ j35 < 3 ∧ (∃ j36 : Nat, x7 = nI j36 ∧ j36 < 3 ∧ rx_aw 236 36 [.ref 90, .int x1, .int x2, .int x3, .int x4, .int (x5 / 5), .int ((x6 &&& 1) &&& 0), .int (x7 + 1), rx_no, rx_no, rx_no] [] (rx_hp L t (rx_u hi17 133 j36 (hi17 132 j35)) hl17 v17) Q))) ∧ (¬ ((hi17 127 j33) < 0) → (∃ j37 : Nat, z17 = nI j37 ∧ j37 < 64 ∧ (∃ j38 : Nat, x7 = nI j38 ∧ j38 < 3 ∧ rx_aw 236 36 [.ref 90, .int x1, .int x2, .int x3, .int x4, .int (x5 / 5), .int ((x6 &&& 1) &&& 0), .int (x7 + 1), rx_no, rx_no, rx_no] [] (rx_hp L t (rx_u hi17 133 j38 (hi17 127 j37)) hl17 v17) Q)))))))) ∧ (¬ ((hi17 127 j28) < 0) → ((z17 < 0 → (∃ j40 : Nat, x7 = nI j40 ∧ j40 < 3 ∧ (∃ j41 : Nat, x7 = nI j41 ∧ j41 < 3 ∧ rx_aw 236 36 [.ref 90, .int x1, .int x2, .int x3, .int x4, .int (x5 / 5), .int ((x6 &&& 1) &&& 1), .int (x7 + 1), rx_no, rx_no, rx_no] [] (rx_hp L t (rx_u hi17 133 j41 (hi17 132 j40)) hl17 v17) Q))) ∧ (¬ (z17 < 0) → (∃ j42 : Nat, z17 = nI j42 ∧ j42 < 64 ∧ (((hi17 127 j42) < 0 → (∃ j44 : Nat, x7 = nI j44 ∧ j44 < 3 ∧ (∃ j45 : Nat, x7 = nI j45 ∧ j45 < 3 ∧ rx_aw 236 36 [.ref 90, .int x1, .int x2, .int x3, .int x4, .int (x5 / 5), .int ((x6 &&& 1) &&& 1), .int (x7 + 1), rx_no, rx_no, rx_no] [] (rx_hp L t (rx_u hi17 133 j45 (hi17 132 j44)) hl17 v17) Q))) ∧ (¬ ((hi17 127 j42) < 0) → (∃ j46 : Nat, z17 = nI j46 ∧ j46 < 64 ∧ (∃ j47 : Nat, x7 = nI j47 ∧ j47 < 3 ∧ rx_aw 236 36 [.ref 90, .int x1, .int x2, .int x3, .int x4, .int (x5 / 5), .int ((x6 &&& 1) &&& 1), .int (x7 + 1), rx_no, rx_no, rx_no] [] (rx_hp L t (rx_u hi17 133 j47 (hi17 127 j46)) hl17 v17) Q))))))))))))))))))))) ∧ (¬ ((x5 - x5 / 5 * 5) = 0) → ((0 = 0 → rx_aw 236 36 [.ref 90, .int x1, .int x2, .int x3, .int x4, .int (x5 / 5), .int (x6 &&& 0), .int (x7 + 1), rx_no, rx_no, rx_no] [] (rx_hp L t (rx_u hi 133 j10 (hi 132 j9)) hl v) Q) ∧ (¬ (0 = 0) → (((x5 - x5 / 5 * 5) ≤ 0 → rx_aw 236 36 [.ref 90, .int x1, .int x2, .int x3, .int x4, .int (x5 / 5), .int (x6 &&& 0), .int (x7 + 1), rx_no, rx_no, rx_no] [] (rx_hp L t (rx_u hi 133 j10 (hi 132 j9)) hl v) Q) ∧ (¬ ((x5 - x5 / 5 * 5) ≤ 0) → (∃ j50 : Nat, x7 = nI j50 ∧ j50 < 3 ∧ (∃ j51 : Nat, ((rx_u hi 133 j10 (hi 132 j9)) 132 j50) = nI j51 ∧ j51 < 20 ∧ rx_me 181 [.ref 90, .int ((rx_u hi 133 j10 (hi 132 j9)) 126 j51), .int ((x5 - x5 / 5 * 5) - 1)] (rx_hp L t (rx_u hi 133 j10 (hi 132 j9)) hl v) (fun r h2 => ∃ z52 : Int32, r = some (.int z52) ∧ rx_ok2 L t h2 (fun hi52 hl52 v52 => ((z52 < 0 → ((z52 < 0 → (∃ j55 : Nat, x7 = nI j55 ∧ j55 < 3 ∧ (∃ j56 : Nat, x7 = nI j56 ∧ j56 < 3 ∧ rx_aw 236 36 [.ref 90, .int x1, .int x2, .int x3, .int x4, .int (x5 / 5), .int ((x6 &&& 0) &&& 0), .int (x7 + 1), rx_no, rx_no, rx_no] [] (rx_hp L t (rx_u hi52 133 j56 (hi52 132 j55)) hl52 v52) Q))) ∧ (¬ (z52 < 0) → (∃ j57 : Nat, z52 = nI j57 ∧ j57 < 64 ∧ (((hi52 127 j57) < 0 → (∃ j59 : Nat, x7 = nI j59 ∧ j59 < 3 ∧ (∃ j60 : Nat, x7 = nI j60 ∧ j60 < 3 ∧ rx_aw 236 36 [.ref 90, .int x1, .int x2, .int x3, .int x4, .int (x5 / 5), .int ((x6 &&& 0) &&& 0), .int (x7 + 1), rx_no, rx_no, rx_no] [] (rx_hp L t (rx_u hi52 133 j60 (hi52 132 j59)) hl52 v52) Q))) ∧ (¬ ((hi52 127 j57) < 0) → (∃ j61 : Nat, z52 = nI j61 ∧ j61 < 64 ∧ (∃ j62 : Nat, x7 = nI j62 ∧ j62 < 3 ∧ rx_aw 236 36 [.ref 90, .int x1, .int x2, .int x3, .int x4, .int (x5 / 5), .int ((x6 &&& 0) &&& 0), .int (x7 + 1), rx_no, rx_no, rx_no] [] (rx_hp L t (rx_u hi52 133 j62 (hi52 127 j61)) hl52 v52) Q)))))))) ∧ (¬ (z52 < 0) → (∃ j63 : Nat, z52 = nI j63 ∧ j63 < 64 ∧ (((hi52 127 j63) < 0 → ((z52 < 0 → (∃ j66 : Nat, x7 = nI j66 ∧ j66 < 3 ∧ (∃ j67 : Nat, x7 = nI j67 ∧ j67 < 3 ∧ rx_aw 236 36 [.ref 90, .int x1, .int x2, .int x3, .int x4, .int (x5 / 5), .int ((x6 &&& 0) &&& 0), .int (x7 + 1), rx_no, rx_no, rx_no] [] (rx_hp L t (rx_u hi52 133 j67 (hi52 132 j66)) hl52 v52) Q))) ∧ (¬ (z52 < 0) → (∃ j68 : Nat, z52 = nI j68 ∧ j68 < 64 ∧ (((hi52 127 j68) < 0 → (∃ j70 : Nat, x7 = nI j70 ∧ j70 < 3 ∧ (∃ j71 : Nat, x7 = nI j71 ∧ j71 < 3 ∧ rx_aw 236 36 [.ref 90, .int x1, .int x2, .int x3, .int x4, .int (x5 / 5), .int ((x6 &&& 0) &&& 0), .int (x7 + 1), rx_no, rx_no, rx_no] [] (rx_hp L t (rx_u hi52 133 j71 (hi52 132 j70)) hl52 v52) Q))) ∧ (¬ ((hi52 127 j68) < 0) → (∃ j72 : Nat, z52 = nI j72 ∧ j72 < 64 ∧ (∃ j73 : Nat, x7 = nI j73 ∧ j73 < 3 ∧ rx_aw 236 36 [.ref 90, .int x1, .int x2, .int x3, .int x4, .int (x5 / 5), .int ((x6 &&& 0) &&& 0), .int (x7 + 1), rx_no, rx_no, rx_no] [] (rx_hp L t (rx_u hi52 133 j73 (hi52 127 j72)) hl52 v52) Q)))))))) ∧ (¬ ((hi52 127 j63) < 0) → ((z52 < 0 → (∃ j75 : Nat, x7 = nI j75 ∧ j75 < 3 ∧ (∃ j76 : Nat, x7 = nI j76 ∧ j76 < 3 ∧ rx_aw 236 36 [.ref 90, .int x1, .int x2, .int x3, .int x4, .int (x5 / 5), .int ((x6 &&& 0) &&& 1), .int (x7 + 1), rx_no, rx_no, rx_no] [] (rx_hp L t (rx_u hi52 133 j76 (hi52 132 j75)) hl52 v52) Q))) ∧ (¬ (z52 < 0) → (∃ j77 : Nat, z52 = nI j77 ∧ j77 < 64 ∧ (((hi52 127 j77) < 0 → (∃ j79 : Nat, x7 = nI j79 ∧ j79 < 3 ∧ (∃ j80 : Nat, x7 = nI j80 ∧ j80 < 3 ∧ rx_aw 236 36 [.ref 90, .int x1, .int x2, .int x3, .int x4, .int (x5 / 5), .int ((x6 &&& 0) &&& 1), .int (x7 + 1), rx_no, rx_no, rx_no] [] (rx_hp L t (rx_u hi52 133 j80 (hi52 132 j79)) hl52 v52) Q))) ∧ (¬ ((hi52 127 j77) < 0) → (∃ j81 : Nat, z52 = nI j81 ∧ j81 < 64 ∧ (∃ j82 : Nat, x7 = nI j82 ∧ j82 < 3 ∧ rx_aw 236 36 [.ref 90, .int x1, .int x2, .int x3, .int x4, .int (x5 / 5), .int ((x6 &&& 0) &&& 1), .int (x7 + 1), rx_no, rx_no, rx_no] [] (rx_hp L t (rx_u hi52 133 j82 (hi52 127 j81)) hl52 v52) Q))))))))))))))))))))))) ∧ (¬ (0 = 0) → ((0 = 0 → rx_aw 236 36 [.ref 90, .int x1, .int x2, .int x3, .int x4, .int (x5 / 5), .int (x6 &&& 1), .int (x7 + 1), rx_no, rx_no, rx_no] [] (rx_hp L t (rx_u hi 133 j10 (hi 132 j9)) hl v) Q) ∧ (¬ (0 = 0) → (((x5 - x5 / 5 * 5) ≤ 0 → rx_aw 236 36 [.ref 90, .int x1, .int x2, .int x3, .int x4, .int (x5 / 5), .int (x6 &&& 1), .int (x7 + 1), rx_no, rx_no, rx_no] [] (rx_hp L t (rx_u hi 133 j10 (hi 132 j9)) hl v) Q) ∧ (¬ ((x5 - x5 / 5 * 5) ≤ 0) → (∃ j85 : Nat, x7 = nI j85 ∧ j85 < 3 ∧ (∃ j86 : Nat, ((rx_u hi 133 j10 (hi 132 j9)) 132 j85) = nI j86 ∧ j86 < 20 ∧ rx_me 181 [.ref 90, .int ((rx_u hi 133 j10 (hi 132 j9)) 126 j86), .int ((x5 - x5 / 5 * 5) - 1)] (rx_hp L t (rx_u hi 133 j10 (hi 132 j9)) hl v) (fun r h2 => ∃ z87 : Int32, r = some (.int z87) ∧ rx_ok2 L t h2 (fun hi87 hl87 v87 => ((z87 < 0 → ((z87 < 0 → (∃ j90 : Nat, x7 = nI j90 ∧ j90 < 3 ∧ (∃ j91 : Nat, x7 = nI j91 ∧ j91 < 3 ∧ rx_aw 236 36 [.ref 90, .int x1, .int x2, .int x3, .int x4, .int (x5 / 5), .int ((x6 &&& 1) &&& 0), .int (x7 + 1), rx_no, rx_no, rx_no] [] (rx_hp L t (rx_u hi87 133 j91 (hi87 132 j90)) hl87 v87) Q))) ∧ (¬ (z87 < 0) → (∃ j92 : Nat, z87 = nI j92 ∧ j92 < 64 ∧ (((hi87 127 j92) < 0 → (∃ j94 : Nat, x7 = nI j94 ∧ j94 < 3 ∧ (∃ j95 : Nat, x7 = nI j95 ∧ j95 < 3 ∧ rx_aw 236 36 [.ref 90, .int x1, .int x2, .int x3, .int x4, .int (x5 / 5), .int ((x6 &&& 1) &&& 0), .int (x7 + 1), rx_no, rx_no, rx_no] [] (rx_hp L t (rx_u hi87 133 j95 (hi87 132 j94)) hl87 v87) Q))) ∧ (¬ ((hi87 127 j92) < 0) → (∃ j96 : Nat, z87 = nI j96 ∧ j96 < 64 ∧ (∃ j97 : Nat, x7 = nI j97 ∧ j97 < 3 ∧ rx_aw 236 36 [.ref 90, .int x1, .int x2, .int x3, .int x4, .int (x5 / 5), .int ((x6 &&& 1) &&& 0), .int (x7 + 1), rx_no, rx_no, rx_no] [] (rx_hp L t (rx_u hi87 133 j97 (hi87 127 j96)) hl87 v87) Q)))))))) ∧ (¬ (z87 < 0) → (∃ j98 : Nat, z87 = nI j98 ∧ j98 < 64 ∧ (((hi87 127 j98) < 0 → ((z87 < 0 → (∃ j101 : Nat, x7 = nI j101 ∧ j101 < 3 ∧ (∃ j102 : Nat, x7 = nI j102 ∧ j102 < 3 ∧ rx_aw 236 36 [.ref 90, .int x1, .int x2, .int x3, .int x4, .int (x5 / 5), .int ((x6 &&& 1) &&& 0), .int (x7 + 1), rx_no, rx_no, rx_no] [] (rx_hp L t (rx_u hi87 133 j102 (hi87 132 j101)) hl87 v87) Q))) ∧ (¬ (z87 < 0) → (∃ j103 : Nat, z87 = nI j103 ∧ j103 < 64 ∧ (((hi87 127 j103) < 0 → (∃ j105 : Nat, x7 = nI j105 ∧ j105 < 3 ∧ (∃ j106 : Nat, x7 = nI j106 ∧ j106 < 3 ∧ rx_aw 236 36 [.ref 90, .int x1, .int x2, .int x3, .int x4, .int (x5 / 5), .int ((x6 &&& 1) &&& 0), .int (x7 + 1), rx_no, rx_no, rx_no] [] (rx_hp L t (rx_u hi87 133 j106 (hi87 132 j105)) hl87 v87) Q))) ∧ (¬ ((hi87 127 j103) < 0) → (∃ j107 : Nat, z87 = nI j107 ∧ j107 < 64 ∧ (∃ j108 : Nat, x7 = nI j108 ∧ j108 < 3 ∧ rx_aw 236 36 [.ref 90, .int x1, .int x2, .int x3, .int x4, .int (x5 / 5), .int ((x6 &&& 1) &&& 0), .int (x7 + 1), rx_no, rx_no, rx_no] [] (rx_hp L t (rx_u hi87 133 j108 (hi87 127 j107)) hl87 v87) Q)))))))) ∧ (¬ ((hi87 127 j98) < 0) → ((z87 < 0 → (∃ j110 : Nat, x7 = nI j110 ∧ j110 < 3 ∧ (∃ j111 : Nat, x7 = nI j111 ∧ j111 < 3 ∧ rx_aw 236 36 [.ref 90, .int x1, .int x2, .int x3, .int x4, .int (x5 / 5), .int ((x6 &&& 1) &&& 1), .int (x7 + 1), rx_no, rx_no, rx_no] [] (rx_hp L t (rx_u hi87 133 j111 (hi87 132 j110)) hl87 v87) Q))) ∧ (¬ (z87 < 0) → (∃ j112 : Nat, z87 = nI j112 ∧ j112 < 64 ∧ (((hi87 127 j112) < 0 → (∃ j114 : Nat, x7 = nI j114 ∧ j114 < 3 ∧ (∃ j115 : Nat, x7 = nI j115 ∧ j115 < 3 ∧ rx_aw 236 36 [.ref 90, .int x1, .int x2, .int x3, .int x4, .int (x5 / 5), .int ((x6 &&& 1) &&& 1), .int (x7 + 1), rx_no, rx_no, rx_no] [] (rx_hp L t (rx_u hi87 133 j115 (hi87 132 j114)) hl87 v87) Q))) ∧ (¬ ((hi87 127 j112) < 0) → (∃ j116 : Nat, z87 = nI j116 ∧ j116 < 64 ∧ (∃ j117 : Nat, x7 = nI j117 ∧ j117 < 3 ∧ rx_aw 236 36 [.ref 90, .int x1, .int x2, .int x3, .int x4, .int (x5 / 5), .int ((x6 &&& 1) &&& 1), .int (x7 + 1), rx_no, rx_no, rx_no] [] (rx_hp L t (rx_u hi87 133 j117 (hi87 127 j116)) hl87 v87) Q))))))))))))))))))))))))) ∧ (¬ ((hi 90 53) ≤ x7) → ((((x1 >>> (x7 &&& 31)) &&& 1) = 1 → (∃ j119 : Nat, x7 = nI j119 ∧ j119 < 3 ∧ (∃ j120 : Nat, x7 = nI j120 ∧ j120 < 3 ∧ ((1 = 0 → (((x5 - x5 / 5 * 5) = 0 → ((1 = 0 → rx_aw 236 36 [.ref 90, .int x1, .int x2, .int x3, .int x4, .int (x5 / 5), .int (x6 &&& 1), .int (x7 + 1), rx_no, rx_no, rx_no] [] (rx_hp L t (rx_u hi 133 j120 (hi 132 j119)) hl v) Q) ∧ (¬ (1 = 0) → (((x5 - x5 / 5 * 5) ≤ 0 → rx_aw 236 36 [.ref 90, .int x1, .int x2, .int x3, .int x4, .int (x5 / 5), .int (x6 &&& 1), .int (x7 + 1), rx_no, rx_no, rx_no] [] (rx_hp L t (rx_u hi 133 j120 (hi 132 j119)) hl v) Q) ∧ (¬ ((x5 - x5 / 5 * 5) ≤ 0) → (∃ j125 : Nat, x7 = nI j125 ∧ j125 < 3 ∧ (∃ j126 : Nat, ((rx_u hi 133 j120 (hi 132 j119)) 132 j125) = nI j126 ∧ j126 < 20 ∧ rx_me 181 [.ref 90, .int ((rx_u hi 133 j120 (hi 132 j119)) 126 j126), .int ((x5 - x5 / 5 * 5) - 1)] (rx_hp L t (rx_u hi 133 j120 (hi 132 j119)) hl v) (fun r h2 => ∃ z127 : Int32, r = some (.int z127) ∧ rx_ok2 L t h2 (fun hi127 hl127 v127 => ((z127 < 0 → ((z127 < 0 → (∃ j130 : Nat, x7 = nI j130 ∧ j130 < 3 ∧ (∃ j131 : Nat, x7 = nI j131 ∧ j131 < 3 ∧ rx_aw 236 36 [.ref 90, .int x1, .int x2, .int x3, .int x4, .int (x5 / 5), .int ((x6 &&& 1) &&& 0), .int (x7 + 1), rx_no, rx_no, rx_no] [] (rx_hp L t (rx_u hi127 133 j131 (hi127 132 j130)) hl127 v127) Q))) ∧ (¬ (z127 < 0) → (∃ j132 : Nat, z127 = nI j132 ∧ j132 < 64 ∧ (((hi127 127 j132) < 0 → (∃ j134 : Nat, x7 = nI j134 ∧ j134 < 3 ∧ (∃ j135 : Nat, x7 = nI j135 ∧ j135 < 3 ∧ rx_aw 236 36 [.ref 90, .int x1, .int x2, .int x3, .int x4, .int (x5 / 5), .int ((x6 &&& 1) &&& 0), .int (x7 + 1), rx_no, rx_no, rx_no] [] (rx_hp L t (rx_u hi127 133 j135 (hi127 132 j134)) hl127 v127) Q))) ∧ (¬ ((hi127 127 j132) < 0) → (∃ j136 : Nat, z127 = nI j136 ∧ j136 < 64 ∧ (∃ j137 : Nat, x7 = nI j137 ∧ j137 < 3 ∧ rx_aw 236 36 [.ref 90, .int x1, .int x2, .int x3, .int x4, .int (x5 / 5), .int ((x6 &&& 1) &&& 0), .int (x7 + 1), rx_no, rx_no, rx_no] [] (rx_hp L t (rx_u hi127 133 j137 (hi127 127 j136)) hl127 v127) Q)))))))) ∧ (¬ (z127 < 0) → (∃ j138 : Nat, z127 = nI j138 ∧ j138 < 64 ∧ (((hi127 127 j138) < 0 → ((z127 < 0 → (∃ j141 : Nat, x7 = nI j141 ∧ j141 < 3 ∧ (∃ j142 : Nat, x7 = nI j142 ∧ j142 < 3 ∧ rx_aw 236 36 [.ref 90, .int x1, .int x2, .int x3, .int x4, .int (x5 / 5), .int ((x6 &&& 1) &&& 0), .int (x7 + 1), rx_no, rx_no, rx_no] [] (rx_hp L t (rx_u hi127 133 j142 (hi127 132 j141)) hl127 v127) Q))) ∧ (¬ (z127 < 0) → (∃ j143 : Nat, z127 = nI j143 ∧ j143 < 64 ∧ (((hi127 127 j143) < 0 → (∃ j145 : Nat, x7 = nI j145 ∧ j145 < 3 ∧ (∃ j146 : Nat, x7 = nI j146 ∧ j146 < 3 ∧ rx_aw 236 36 [.ref 90, .int x1, .int x2, .int x3, .int x4, .int (x5 / 5), .int ((x6 &&& 1) &&& 0), .int (x7 + 1), rx_no, rx_no, rx_no] [] (rx_hp L t (rx_u hi127 133 j146 (hi127 132 j145)) hl127 v127) Q))) ∧ (¬ ((hi127 127 j143) < 0) → (∃ j147 : Nat, z127 = nI j147 ∧ j147 < 64 ∧ (∃ j148 : Nat, x7 = nI j148 ∧ j148 < 3 ∧ rx_aw 236 36 [.ref 90, .int x1, .int x2, .int x3, .int x4, .int (x5 / 5), .int ((x6 &&& 1) &&& 0), .int (x7 + 1), rx_no, rx_no, rx_no] [] (rx_hp L t (rx_u hi127 133 j148 (hi127 127 j147)) hl127 v127) Q)))))))) ∧ (¬ ((hi127 127 j138) < 0) → ((z127 < 0 → (∃ j150 : Nat, x7 = nI j150 ∧ j150 < 3 ∧ (∃ j151 : Nat, x7 = nI j151 ∧ j151 < 3 ∧ rx_aw 236 36 [.ref 90, .int x1, .int x2, .int x3, .int x4, .int (x5 / 5), .int ((x6 &&& 1) &&& 1), .int (x7 + 1), rx_no, rx_no, rx_no] [] (rx_hp L t (rx_u hi127 133 j151 (hi127 132 j150)) hl127 v127) Q))) ∧ (¬ (z127 < 0) → (∃ j152 : Nat, z127 = nI j152 ∧ j152 < 64 ∧ (((hi127 127 j152) < 0 → (∃ j154 : Nat, x7 = nI j154 ∧ j154 < 3 ∧ (∃ j155 : Nat, x7 = nI j155 ∧ j155 < 3 ∧ rx_aw 236 36 [.ref 90, .int x1, .int x2, .int x3, .int x4, .int (x5 / 5), .int ((x6 &&& 1) &&& 1), .int (x7 + 1), rx_no, rx_no, rx_no] [] (rx_hp L t (rx_u hi127 133 j155 (hi127 132 j154)) hl127 v127) Q))) ∧ (¬ ((hi127 127 j152) < 0) → (∃ j156 : Nat, z127 = nI j156 ∧ j156 < 64 ∧ (∃ j157 : Nat, x7 = nI j157 ∧ j157 < 3 ∧ rx_aw 236 36 [.ref 90, .int x1, .int x2, .int x3, .int x4, .int (x5 / 5), .int ((x6 &&& 1) &&& 1), .int (x7 + 1), rx_no, rx_no, rx_no] [] (rx_hp L t (rx_u hi127 133 j157 (hi127 127 j156)) hl127 v127) Q))))))))))))))))))))) ∧ (¬ ((x5 - x5 / 5 * 5) = 0) → ((1 = 0 → rx_aw 236 36 [.ref 90, .int x1, .int x2, .int x3, .int x4, .int (x5 / 5), .int (x6 &&& 0), .int (x7 + 1), rx_no, rx_no, rx_no] [] (rx_hp L t (rx_u hi 133 j120 (hi 132 j119)) hl v) Q) ∧ (¬ (1 = 0) → (((x5 - x5 / 5 * 5) ≤ 0 → rx_aw 236 36 [.ref 90, .int x1, .int x2, .int x3, .int x4, .int (x5 / 5), .int (x6 &&& 0), .int (x7 + 1), rx_no, rx_no, rx_no] [] (rx_hp L t (rx_u hi 133 j120 (hi 132 j119)) hl v) Q) ∧ (¬ ((x5 - x5 / 5 * 5) ≤ 0) → (∃ j160 : Nat, x7 = nI j160 ∧ j160 < 3 ∧ (∃ j161 : Nat, ((rx_u hi 133 j120 (hi 132 j119)) 132 j160) = nI j161 ∧ j161 < 20 ∧ rx_me 181 [.ref 90, .int ((rx_u hi 133 j120 (hi 132 j119)) 126 j161), .int ((x5 - x5 / 5 * 5) - 1)] (rx_hp L t (rx_u hi 133 j120 (hi 132 j119)) hl v) (fun r h2 => ∃ z162 : Int32, r = some (.int z162) ∧ rx_ok2 L t h2 (fun hi162 hl162 v162 => ((z162 < 0 → ((z162 < 0 → (∃ j165 : Nat, x7 = nI j165 ∧ j165 < 3 ∧ (∃ j166 : Nat, x7 = nI j166 ∧ j166 < 3 ∧ rx_aw 236 36 [.ref 90, .int x1, .int x2, .int x3, .int x4, .int (x5 / 5), .int ((x6 &&& 0) &&& 0), .int (x7 + 1), rx_no, rx_no, rx_no] [] (rx_hp L t (rx_u hi162 133 j166 (hi162 132 j165)) hl162 v162) Q))) ∧ (¬ (z162 < 0) → (∃ j167 : Nat, z162 = nI j167 ∧ j167 < 64 ∧ (((hi162 127 j167) < 0 → (∃ j169 : Nat, x7 = nI j169 ∧ j169 < 3 ∧ (∃ j170 : Nat, x7 = nI j170 ∧ j170 < 3 ∧ rx_aw 236 36 [.ref 90, .int x1, .int x2, .int x3, .int x4, .int (x5 / 5), .int ((x6 &&& 0) &&& 0), .int (x7 + 1), rx_no, rx_no, rx_no] [] (rx_hp L t (rx_u hi162 133 j170 (hi162 132 j169)) hl162 v162) Q))) ∧ (¬ ((hi162 127 j167) < 0) → (∃ j171 : Nat, z162 = nI j171 ∧ j171 < 64 ∧ (∃ j172 : Nat, x7 = nI j172 ∧ j172 < 3 ∧ rx_aw 236 36 [.ref 90, .int x1, .int x2, .int x3, .int x4, .int (x5 / 5), .int ((x6 &&& 0) &&& 0), .int (x7 + 1), rx_no, rx_no, rx_no] [] (rx_hp L t (rx_u hi162 133 j172 (hi162 127 j171)) hl162 v162) Q)))))))) ∧ (¬ (z162 < 0) → (∃ j173 : Nat, z162 = nI j173 ∧ j173 < 64 ∧ (((hi162 127 j173) < 0 → ((z162 < 0 → (∃ j176 : Nat, x7 = nI j176 ∧ j176 < 3 ∧ (∃ j177 : Nat, x7 = nI j177 ∧ j177 < 3 ∧ rx_aw 236 36 [.ref 90, .int x1, .int x2, .int x3, .int x4, .int (x5 / 5), .int ((x6 &&& 0) &&& 0), .int (x7 + 1), rx_no, rx_no, rx_no] [] (rx_hp L t (rx_u hi162 133 j177 (hi162 132 j176)) hl162 v162) Q))) ∧ (¬ (z162 < 0) → (∃ j178 : Nat, z162 = nI j178 ∧ j178 < 64 ∧ (((hi162 127 j178) < 0 → (∃ j180 : Nat, x7 = nI j180 ∧ j180 < 3 ∧ (∃ j181 : Nat, x7 = nI j181 ∧ j181 < 3 ∧ rx_aw 236 36 [.ref 90, .int x1, .int x2, .int x3, .int x4, .int (x5 / 5), .int ((x6 &&& 0) &&& 0), .int (x7 + 1), rx_no, rx_no, rx_no] [] (rx_hp L t (rx_u hi162 133 j181 (hi162 132 j180)) hl162 v162) Q))) ∧ (¬ ((hi162 127 j178) < 0) → (∃ j182 : Nat, z162 = nI j182 ∧ j182 < 64 ∧ (∃ j183 : Nat, x7 = nI j183 ∧ j183 < 3 ∧ rx_aw 236 36 [.ref 90, .int x1, .int x2, .int x3, .int x4, .int (x5 / 5), .int ((x6 &&& 0) &&& 0), .int (x7 + 1), rx_no, rx_no, rx_no] [] (rx_hp L t (rx_u hi162 133 j183 (hi162 127 j182)) hl162 v162) Q)))))))) ∧ (¬ ((hi162 127 j173) < 0) → ((z162 < 0 → (∃ j185 : Nat, x7 = nI j185 ∧ j185 < 3 ∧ (∃ j186 : Nat, x7 = nI j186 ∧ j186 < 3 ∧ rx_aw 236 36 [.ref 90, .int x1, .int x2, .int x3, .int x4, .int (x5 / 5), .int ((x6 &&& 0) &&& 1), .int (x7 + 1), rx_no, rx_no, rx_no] [] (rx_hp L t (rx_u hi162 133 j186 (hi162 132 j185)) hl162 v162) Q))) ∧ (¬ (z162 < 0) → (∃ j187 : Nat, z162 = nI j187 ∧ j187 < 64 ∧ (((hi162 127 j187) < 0 → (∃ j189 : Nat, x7 = nI j189 ∧ j189 < 3 ∧ (∃ j190 : Nat, x7 = nI j190 ∧ j190 < 3 ∧ rx_aw 236 36 [.ref 90, .int x1, .int x2, .int x3, .int x4, .int (x5 / 5), .int ((x6 &&& 0) &&& 1), .int (x7 + 1), rx_no, rx_no, rx_no] [] (rx_hp L t (rx_u hi162 133 j190 (hi162 132 j189)) hl162 v162) Q))) ∧ (¬ ((hi162 127 j187) < 0) → (∃ j191 : Nat, z162 = nI j191 ∧ j191 < 64 ∧ (∃ j192 : Nat, x7 = nI j192 ∧ j192 < 3 ∧ rx_aw 236 36 [.ref 90, .int x1, .int x2, .int x3, .int x4, .int (x5 / 5), .int ((x6 &&& 0) &&& 1), .int (x7 + 1), rx_no, rx_no, rx_no] [] (rx_hp L t (rx_u hi162 133 j192 (hi162 127 j191)) hl162 v162) Q))))))))))))))))))))))) ∧ (¬ (1 = 0) → ((1 = 0 → rx_aw 236 36 [.ref 90, .int x1, .int x2, .int x3, .int x4, .int (x5 / 5), .int (x6 &&& 1), .int (x7 + 1), rx_no, rx_no, rx_no] [] (rx_hp L t (rx_u hi 133 j120 (hi 132 j119)) hl v) Q) ∧ (¬ (1 = 0) → (((x5 - x5 / 5 * 5) ≤ 0 → rx_aw 236 36 [.ref 90, .int x1, .int x2, .int x3, .int x4, .int (x5 / 5), .int (x6 &&& 1), .int (x7 + 1), rx_no, rx_no, rx_no] [] (rx_hp L t (rx_u hi 133 j120 (hi 132 j119)) hl v) Q) ∧ (¬ ((x5 - x5 / 5 * 5) ≤ 0) → (∃ j195 : Nat, x7 = nI j195 ∧ j195 < 3 ∧ (∃ j196 : Nat, ((rx_u hi 133 j120 (hi 132 j119)) 132 j195) = nI j196 ∧ j196 < 20 ∧ rx_me 181 [.ref 90, .int ((rx_u hi 133 j120 (hi 132 j119)) 126 j196), .int ((x5 - x5 / 5 * 5) - 1)] (rx_hp L t (rx_u hi 133 j120 (hi 132 j119)) hl v) (fun r h2 => ∃ z197 : Int32, r = some (.int z197) ∧ rx_ok2 L t h2 (fun hi197 hl197 v197 => ((z197 < 0 → ((z197 < 0 → (∃ j200 : Nat, x7 = nI j200 ∧ j200 < 3 ∧ (∃ j201 : Nat, x7 = nI j201 ∧ j201 < 3 ∧ rx_aw 236 36 [.ref 90, .int x1, .int x2, .int x3, .int x4, .int (x5 / 5), .int ((x6 &&& 1) &&& 0), .int (x7 + 1), rx_no, rx_no, rx_no] [] (rx_hp L t (rx_u hi197 133 j201 (hi197 132 j200)) hl197 v197) Q))) ∧ (¬ (z197 < 0) → (∃ j202 : Nat, z197 = nI j202 ∧ j202 < 64 ∧ (((hi197 127 j202) < 0 → (∃ j204 : Nat, x7 = nI j204 ∧ j204 < 3 ∧ (∃ j205 : Nat, x7 = nI j205 ∧ j205 < 3 ∧ rx_aw 236 36 [.ref 90, .int x1, .int x2, .int x3, .int x4, .int (x5 / 5), .int ((x6 &&& 1) &&& 0), .int (x7 + 1), rx_no, rx_no, rx_no] [] (rx_hp L t (rx_u hi197 133 j205 (hi197 132 j204)) hl197 v197) Q))) ∧ (¬ ((hi197 127 j202) < 0) → (∃ j206 : Nat, z197 = nI j206 ∧ j206 < 64 ∧ (∃ j207 : Nat, x7 = nI j207 ∧ j207 < 3 ∧ rx_aw 236 36 [.ref 90, .int x1, .int x2, .int x3, .int x4, .int (x5 / 5), .int ((x6 &&& 1) &&& 0), .int (x7 + 1), rx_no, rx_no, rx_no] [] (rx_hp L t (rx_u hi197 133 j207 (hi197 127 j206)) hl197 v197) Q)))))))) ∧ (¬ (z197 < 0) → (∃ j208 : Nat, z197 = nI j208 ∧ j208 < 64 ∧ (((hi197 127 j208) < 0 → ((z197 < 0 → (∃ j211 : Nat, x7 = nI j211 ∧ j211 < 3 ∧ (∃ j212 : Nat, x7 = nI j212 ∧ j212 < 3 ∧ rx_aw 236 36 [.ref 90, .int x1, .int x2, .int x3, .int x4, .int (x5 / 5), .int ((x6 &&& 1) &&& 0), .int (x7 + 1), rx_no, rx_no, rx_no] [] (rx_hp L t (rx_u hi197 133 j212 (hi197 132 j211)) hl197 v197) Q))) ∧ (¬ (z197 < 0) → (∃ j213 : Nat, z197 = nI j213 ∧ j213 < 64 ∧ (((hi197 127 j213) < 0 → (∃ j215 : Nat, x7 = nI j215 ∧ j215 < 3 ∧ (∃ j216 : Nat, x7 = nI j216 ∧ j216 < 3 ∧ rx_aw 236 36 [.ref 90, .int x1, .int x2, .int x3, .int x4, .int (x5 / 5), .int ((x6 &&& 1) &&& 0), .int (x7 + 1), rx_no, rx_no, rx_no] [] (rx_hp L t (rx_u hi197 133 j216 (hi197 132 j215)) hl197 v197) Q))) ∧ (¬ ((hi197 127 j213) < 0) → (∃ j217 : Nat, z197 = nI j217 ∧ j217 < 64 ∧ (∃ j218 : Nat, x7 = nI j218 ∧ j218 < 3 ∧ rx_aw 236 36 [.ref 90, .int x1, .int x2, .int x3, .int x4, .int (x5 / 5), .int ((x6 &&& 1) &&& 0), .int (x7 + 1), rx_no, rx_no, rx_no] [] (rx_hp L t (rx_u hi197 133 j218 (hi197 127 j217)) hl197 v197) Q)))))))) ∧ (¬ ((hi197 127 j208) < 0) → ((z197 < 0 → (∃ j220 : Nat, x7 = nI j220 ∧ j220 < 3 ∧ (∃ j221 : Nat, x7 = nI j221 ∧ j221 < 3 ∧ rx_aw 236 36 [.ref 90, .int x1, .int x2, .int x3, .int x4, .int (x5 / 5), .int ((x6 &&& 1) &&& 1), .int (x7 + 1), rx_no, rx_no, rx_no] [] (rx_hp L t (rx_u hi197 133 j221 (hi197 132 j220)) hl197 v197) Q))) ∧ (¬ (z197 < 0) → (∃ j222 : Nat, z197 = nI j222 ∧ j222 < 64 ∧ (((hi197 127 j222) < 0 → (∃ j224 : Nat, x7 = nI j224 ∧ j224 < 3 ∧ (∃ j225 : Nat, x7 = nI j225 ∧ j225 < 3 ∧ rx_aw 236 36 [.ref 90, .int x1, .int x2, .int x3, .int x4, .int (x5 / 5), .int ((x6 &&& 1) &&& 1), .int (x7 + 1), rx_no, rx_no, rx_no] [] (rx_hp L t (rx_u hi197 133 j225 (hi197 132 j224)) hl197 v197) Q))) ∧ (¬ ((hi197 127 j222) < 0) → (∃ j226 : Nat, z197 = nI j226 ∧ j226 < 64 ∧ (∃ j227 : Nat, x7 = nI j227 ∧ j227 < 3 ∧ rx_aw 236 36 [.ref 90, .int x1, .int x2, .int x3, .int x4, .int (x5 / 5), .int ((x6 &&& 1) &&& 1), .int (x7 + 1), rx_no, rx_no, rx_no] [] (rx_hp L t (rx_u hi197 133 j227 (hi197 127 j226)) hl197 v197) Q))))))))))))))))))))))))) ∧ (¬ (((x1 >>> (x7 &&& 31)) &&& 1) = 1) → (∃ j228 : Nat, x7 = nI j228 ∧ j228 < 3 ∧ (∃ j229 : Nat, x7 = nI j229 ∧ j229 < 3 ∧ ((0 = 0 → (((x5 - x5 / 5 * 5) = 0 → ((0 = 0 → rx_aw 236 36 [.ref 90, .int x1, .int x2, .int x3, .int x4, .int (x5 / 5), .int (x6 &&& 1), .int (x7 + 1), rx_no, rx_no, rx_no] [] (rx_hp L t (rx_u hi 133 j229 (hi 132 j228)) hl v) Q) ∧ (¬ (0 = 0) → (((x5 - x5 / 5 * 5) ≤ 0 → rx_aw 236 36 [.ref 90, .int x1, .int x2, .int x3, .int x4, .int (x5 / 5), .int (x6 &&& 1), .int (x7 + 1), rx_no, rx_no, rx_no] [] (rx_hp L t (rx_u hi 133 j229 (hi 132 j228)) hl v) Q) ∧ (¬ ((x5 - x5 / 5 * 5) ≤ 0) → (∃ j234 : Nat, x7 = nI j234 ∧ j234 < 3 ∧ (∃ j235 : Nat, ((rx_u hi 133 j229 (hi 132 j228)) 132 j234) = nI j235 ∧ j235 < 20 ∧ rx_me 181 [.ref 90, .int ((rx_u hi 133 j229 (hi 132 j228)) 126 j235), .int ((x5 - x5 / 5 * 5) - 1)] (rx_hp L t (rx_u hi 133 j229 (hi 132 j228)) hl v) (fun r h2 => ∃ z236 : Int32, r = some (.int z236) ∧ rx_ok2 L t h2 (fun hi236 hl236 v236 => ((z236 < 0 → ((z236 < 0 → (∃ j239 : Nat, x7 = nI j239 ∧ j239 < 3 ∧ (∃ j240 : Nat, x7 = nI j240 ∧ j240 < 3 ∧ rx_aw 236 36 [.ref 90, .int x1, .int x2, .int x3, .int x4, .int (x5 / 5), .int ((x6 &&& 1) &&& 0), .int (x7 + 1), rx_no, rx_no, rx_no] [] (rx_hp L t (rx_u hi236 133 j240 (hi236 132 j239)) hl236 v236) Q))) ∧ (¬ (z236 < 0) → (∃ j241 : Nat, z236 = nI j241 ∧ j241 < 64 ∧ (((hi236 127 j241) < 0 → (∃ j243 : Nat, x7 = nI j243 ∧ j243 < 3 ∧ (∃ j244 : Nat, x7 = nI j244 ∧ j244 < 3 ∧ rx_aw 236 36 [.ref 90, .int x1, .int x2, .int x3, .int x4, .int (x5 / 5), .int ((x6 &&& 1) &&& 0), .int (x7 + 1), rx_no, rx_no, rx_no] [] (rx_hp L t (rx_u hi236 133 j244 (hi236 132 j243)) hl236 v236) Q))) ∧ (¬ ((hi236 127 j241) < 0) → (∃ j245 : Nat, z236 = nI j245 ∧ j245 < 64 ∧ (∃ j246 : Nat, x7 = nI j246 ∧ j246 < 3 ∧ rx_aw 236 36 [.ref 90, .int x1, .int x2, .int x3, .int x4, .int (x5 / 5), .int ((x6 &&& 1) &&& 0), .int (x7 + 1), rx_no, rx_no, rx_no] [] (rx_hp L t (rx_u hi236 133 j246 (hi236 127 j245)) hl236 v236) Q)))))))) ∧ (¬ (z236 < 0) → (∃ j247 : Nat, z236 = nI j247 ∧ j247 < 64 ∧ (((hi236 127 j247) < 0 → ((z236 < 0 → (∃ j250 : Nat, x7 = nI j250 ∧ j250 < 3 ∧ (∃ j251 : Nat, x7 = nI j251 ∧ j251 < 3 ∧ rx_aw 236 36 [.ref 90, .int x1, .int x2, .int x3, .int x4, .int (x5 / 5), .int ((x6 &&& 1) &&& 0), .int (x7 + 1), rx_no, rx_no, rx_no] [] (rx_hp L t (rx_u hi236 133 j251 (hi236 132 j250)) hl236 v236) Q))) ∧ (¬ (z236 < 0) → (∃ j252 : Nat, z236 = nI j252 ∧ j252 < 64 ∧ (((hi236 127 j252) < 0 → (∃ j254 : Nat, x7 = nI j254 ∧ j254 < 3 ∧ (∃ j255 : Nat, x7 = nI j255 ∧ j255 < 3 ∧ rx_aw 236 36 [.ref 90, .int x1, .int x2, .int x3, .int x4, .int (x5 / 5), .int ((x6 &&& 1) &&& 0), .int (x7 + 1), rx_no, rx_no, rx_no] [] (rx_hp L t (rx_u hi236 133 j255 (hi236 132 j254)) hl236 v236) Q))) ∧ (¬ ((hi236 127 j252) < 0) → (∃ j256 : Nat, z236 = nI j256 ∧ j256 < 64 ∧ (∃ j257 : Nat, x7 = nI j257 ∧ j257 < 3 ∧ rx_aw 236 36 [.ref 90, .int x1, .int x2, .int x3, .int x4, .int (x5 / 5), .int ((x6 &&& 1) &&& 0), .int (x7 + 1), rx_no, rx_no, rx_no] [] (rx_hp L t (rx_u hi236 133 j257 (hi236 127 j256)) hl236 v236) Q)))))))) ∧ (¬ ((hi236 127 j247) < 0) → ((z236 < 0 → (∃ j259 : Nat, x7 = nI j259 ∧ j259 < 3 ∧ (∃ j260 : Nat, x7 = nI j260 ∧ j260 < 3 ∧ rx_aw 236 36 [.ref 90, .int x1, .int x2, .int x3, .int x4, .int (x5 / 5), .int ((x6 &&& 1) &&& 1), .int (x7 + 1), rx_no, rx_no, rx_no] [] (rx_hp L t (rx_u hi236 133 j260 (hi236 132 j259)) hl236 v236) Q))) ∧ (¬ (z236 < 0) → (∃ j261 : Nat, z236 = nI j261 ∧ j261 < 64 ∧ (((hi236 127 j261) < 0 → (∃ j263 : Nat, x7 = nI j263 ∧ j263 < 3 ∧ (∃ j264 : Nat, x7 = nI j264 ∧ j264 < 3 ∧ rx_aw 236 36 [.ref 90, .int x1, .int x2, .int x3, .int x4, .int (x5 / 5), .int ((x6 &&& 1) &&& 1), .int (x7 + 1), rx_no, rx_no, rx_no] [] (rx_hp L t (rx_u hi236 133 j264 (hi236 132 j263)) hl236 v236) Q))) ∧ (¬ ((hi236 127 j261) < 0) → (∃ j265 : Nat, z236 = nI j265 ∧ j265 < 64 ∧ (∃ j266 : Nat, x7 = nI j266 ∧ j266 < 3 ∧ rx_aw 236 36 [.ref 90, .int x1, .int x2, .int x3, .int x4, .int (x5 / 5), .int ((x6 &&& 1) &&& 1), .int (x7 + 1), rx_no, rx_no, rx_no] [] (rx_hp L t (rx_u hi236 133 j266 (hi236 127 j265)) hl236 v236) Q))))))))))))))))))))) ∧ (¬ ((x5 - x5 / 5 * 5) = 0) → ((0 = 0 → rx_aw 236 36 [.ref 90, .int x1, .int x2, .int x3, .int x4, .int (x5 / 5), .int (x6 &&& 0), .int (x7 + 1), rx_no, rx_no, rx_no] [] (rx_hp L t (rx_u hi 133 j229 (hi 132 j228)) hl v) Q) ∧ (¬ (0 = 0) → (((x5 - x5 / 5 * 5) ≤ 0 → rx_aw 236 36 [.ref 90, .int x1, .int x2, .int x3, .int x4, .int (x5 / 5), .int (x6 &&& 0), .int (x7 + 1), rx_no, rx_no, rx_no] [] (rx_hp L t (rx_u hi 133 j229 (hi 132 j228)) hl v) Q) ∧ (¬ ((x5 - x5 / 5 * 5) ≤ 0) → (∃ j269 : Nat, x7 = nI j269 ∧ j269 < 3 ∧ (∃ j270 : Nat, ((rx_u hi 133 j229 (hi 132 j228)) 132 j269) = nI j270 ∧ j270 < 20 ∧ rx_me 181 [.ref 90, .int ((rx_u hi 133 j229 (hi 132 j228)) 126 j270), .int ((x5 - x5 / 5 * 5) - 1)] (rx_hp L t (rx_u hi 133 j229 (hi 132 j228)) hl v) (fun r h2 => ∃ z271 : Int32, r = some (.int z271) ∧ rx_ok2 L t h2 (fun hi271 hl271 v271 => ((z271 < 0 → ((z271 < 0 → (∃ j274 : Nat, x7 = nI j274 ∧ j274 < 3 ∧ (∃ j275 : Nat, x7 = nI j275 ∧ j275 < 3 ∧ rx_aw 236 36 [.ref 90, .int x1, .int x2, .int x3, .int x4, .int (x5 / 5), .int ((x6 &&& 0) &&& 0), .int (x7 + 1), rx_no, rx_no, rx_no] [] (rx_hp L t (rx_u hi271 133 j275 (hi271 132 j274)) hl271 v271) Q))) ∧ (¬ (z271 < 0) → (∃ j276 : Nat, z271 = nI j276 ∧ j276 < 64 ∧ (((hi271 127 j276) < 0 → (∃ j278 : Nat, x7 = nI j278 ∧ j278 < 3 ∧ (∃ j279 : Nat, x7 = nI j279 ∧ j279 < 3 ∧ rx_aw 236 36 [.ref 90, .int x1, .int x2, .int x3, .int x4, .int (x5 / 5), .int ((x6 &&& 0) &&& 0), .int (x7 + 1), rx_no, rx_no, rx_no] [] (rx_hp L t (rx_u hi271 133 j279 (hi271 132 j278)) hl271 v271) Q))) ∧ (¬ ((hi271 127 j276) < 0) → (∃ j280 : Nat, z271 = nI j280 ∧ j280 < 64 ∧ (∃ j281 : Nat, x7 = nI j281 ∧ j281 < 3 ∧ rx_aw 236 36 [.ref 90, .int x1, .int x2, .int x3, .int x4, .int (x5 / 5), .int ((x6 &&& 0) &&& 0), .int (x7 + 1), rx_no, rx_no, rx_no] [] (rx_hp L t (rx_u hi271 133 j281 (hi271 127 j280)) hl271 v271) Q)))))))) ∧ (¬ (z271 < 0) → (∃ j282 : Nat, z271 = nI j282 ∧ j282 < 64 ∧ (((hi271 127 j282) < 0 → ((z271 < 0 → (∃ j285 : Nat, x7 = nI j285 ∧ j285 < 3 ∧ (∃ j286 : Nat, x7 = nI j286 ∧ j286 < 3 ∧ rx_aw 236 36 [.ref 90, .int x1, .int x2, .int x3, .int x4, .int (x5 / 5), .int ((x6 &&& 0) &&& 0), .int (x7 + 1), rx_no, rx_no, rx_no] [] (rx_hp L t (rx_u hi271 133 j286 (hi271 132 j285)) hl271 v271) Q))) ∧ (¬ (z271 < 0) → (∃ j287 : Nat, z271 = nI j287 ∧ j287 < 64 ∧ (((hi271 127 j287) < 0 → (∃ j289 : Nat, x7 = nI j289 ∧ j289 < 3 ∧ (∃ j290 : Nat, x7 = nI j290 ∧ j290 < 3 ∧ rx_aw 236 36 [.ref 90, .int x1, .int x2, .int x3, .int x4, .int (x5 / 5), .int ((x6 &&& 0) &&& 0), .int (x7 + 1), rx_no, rx_no, rx_no] [] (rx_hp L t (rx_u hi271 133 j290 (hi271 132 j289)) hl271 v271) Q))) ∧ (¬ ((hi271 127 j287) < 0) → (∃ j291 : Nat, z271 = nI j291 ∧ j291 < 64 ∧ (∃ j292 : Nat, x7 = nI j292 ∧ j292 < 3 ∧ rx_aw 236 36 [.ref 90, .int x1, .int x2, .int x3, .int x4, .int (x5 / 5), .int ((x6 &&& 0) &&& 0), .int (x7 + 1), rx_no, rx_no, rx_no] [] (rx_hp L t (rx_u hi271 133 j292 (hi271 127 j291)) hl271 v271) Q)))))))) ∧ (¬ ((hi271 127 j282) < 0) → ((z271 < 0 → (∃ j294 : Nat, x7 = nI j294 ∧ j294 < 3 ∧ (∃ j295 : Nat, x7 = nI j295 ∧ j295 < 3 ∧ rx_aw 236 36 [.ref 90, .int x1, .int x2, .int x3, .int x4, .int (x5 / 5), .int ((x6 &&& 0) &&& 1), .int (x7 + 1), rx_no, rx_no, rx_no] [] (rx_hp L t (rx_u hi271 133 j295 (hi271 132 j294)) hl271 v271) Q))) ∧ (¬ (z271 < 0) → (∃ j296 : Nat, z271 = nI j296 ∧ j296 < 64 ∧ (((hi271 127 j296) < 0 → (∃ j298 : Nat, x7 = nI j298 ∧ j298 < 3 ∧ (∃ j299 : Nat, x7 = nI j299 ∧ j299 < 3 ∧ rx_aw 236 36 [.ref 90, .int x1, .int x2, .int x3, .int x4, .int (x5 / 5), .int ((x6 &&& 0) &&& 1), .int (x7 + 1), rx_no, rx_no, rx_no] [] (rx_hp L t (rx_u hi271 133 j299 (hi271 132 j298)) hl271 v271) Q))) ∧ (¬ ((hi271 127 j296) < 0) → (∃ j300 : Nat, z271 = nI j300 ∧ j300 < 64 ∧ (∃ j301 : Nat, x7 = nI j301 ∧ j301 < 3 ∧ rx_aw 236 36 [.ref 90, .int x1, .int x2, .int x3, .int x4, .int (x5 / 5), .int ((x6 &&& 0) &&& 1), .int (x7 + 1), rx_no, rx_no, rx_no] [] (rx_hp L t (rx_u hi271 133 j301 (hi271 127 j300)) hl271 v271) Q))))))))))))))))))))))) ∧ (¬ (0 = 0) → ((0 = 0 → rx_aw 236 36 [.ref 90, .int x1, .int x2, .int x3, .int x4, .int (x5 / 5), .int (x6 &&& 1), .int (x7 + 1), rx_no, rx_no, rx_no] [] (rx_hp L t (rx_u hi 133 j229 (hi 132 j228)) hl v) Q) ∧ (¬ (0 = 0) → (((x5 - x5 / 5 * 5) ≤ 0 → rx_aw 236 36 [.ref 90, .int x1, .int x2, .int x3, .int x4, .int (x5 / 5), .int (x6 &&& 1), .int (x7 + 1), rx_no, rx_no, rx_no] [] (rx_hp L t (rx_u hi 133 j229 (hi 132 j228)) hl v) Q) ∧ (¬ ((x5 - x5 / 5 * 5) ≤ 0) → (∃ j304 : Nat, x7 = nI j304 ∧ j304 < 3 ∧ (∃ j305 : Nat, ((rx_u hi 133 j229 (hi 132 j228)) 132 j304) = nI j305 ∧ j305 < 20 ∧ rx_me 181 [.ref 90, .int ((rx_u hi 133 j229 (hi 132 j228)) 126 j305), .int ((x5 - x5 / 5 * 5) - 1)] (rx_hp L t (rx_u hi 133 j229 (hi 132 j228)) hl v) (fun r h2 => ∃ z306 : Int32, r = some (.int z306) ∧ rx_ok2 L t h2 (fun hi306 hl306 v306 => ((z306 < 0 → ((z306 < 0 → (∃ j309 : Nat, x7 = nI j309 ∧ j309 < 3 ∧ (∃ j310 : Nat, x7 = nI j310 ∧ j310 < 3 ∧ rx_aw 236 36 [.ref 90, .int x1, .int x2, .int x3, .int x4, .int (x5 / 5), .int ((x6 &&& 1) &&& 0), .int (x7 + 1), rx_no, rx_no, rx_no] [] (rx_hp L t (rx_u hi306 133 j310 (hi306 132 j309)) hl306 v306) Q))) ∧ (¬ (z306 < 0) → (∃ j311 : Nat, z306 = nI j311 ∧ j311 < 64 ∧ (((hi306 127 j311) < 0 → (∃ j313 : Nat, x7 = nI j313 ∧ j313 < 3 ∧ (∃ j314 : Nat, x7 = nI j314 ∧ j314 < 3 ∧ rx_aw 236 36 [.ref 90, .int x1, .int x2, .int x3, .int x4, .int (x5 / 5), .int ((x6 &&& 1) &&& 0), .int (x7 + 1), rx_no, rx_no, rx_no] [] (rx_hp L t (rx_u hi306 133 j314 (hi306 132 j313)) hl306 v306) Q))) ∧ (¬ ((hi306 127 j311) < 0) → (∃ j315 : Nat, z306 = nI j315 ∧ j315 < 64 ∧ (∃ j316 : Nat, x7 = nI j316 ∧ j316 < 3 ∧ rx_aw 236 36 [.ref 90, .int x1, .int x2, .int x3, .int x4, .int (x5 / 5), .int ((x6 &&& 1) &&& 0), .int (x7 + 1), rx_no, rx_no, rx_no] [] (rx_hp L t (rx_u hi306 133 j316 (hi306 127 j315)) hl306 v306) Q)))))))) ∧ (¬ (z306 < 0) → (∃ j317 : Nat, z306 = nI j317 ∧ j317 < 64 ∧ (((hi306 127 j317) < 0 → ((z306 < 0 → (∃ j320 : Nat, x7 = nI j320 ∧ j320 < 3 ∧ (∃ j321 : Nat, x7 = nI j321 ∧ j321 < 3 ∧ rx_aw 236 36 [.ref 90, .int x1, .int x2, .int x3, .int x4, .int (x5 / 5), .int ((x6 &&& 1) &&& 0), .int (x7 + 1), rx_no, rx_no, rx_no] [] (rx_hp L t (rx_u hi306 133 j321 (hi306 132 j320)) hl306 v306) Q))) ∧ (¬ (z306 < 0) → (∃ j322 : Nat, z306 = nI j322 ∧ j322 < 64 ∧ (((hi306 127 j322) < 0 → (∃ j324 : Nat, x7 = nI j324 ∧ j324 < 3 ∧ (∃ j325 : Nat, x7 = nI j325 ∧ j325 < 3 ∧ rx_aw 236 36 [.ref 90, .int x1, .int x2, .int x3, .int x4, .int (x5 / 5), .int ((x6 &&& 1) &&& 0), .int (x7 + 1), rx_no, rx_no, rx_no] [] (rx_hp L t (rx_u hi306 133 j325 (hi306 132 j324)) hl306 v306) Q))) ∧ (¬ ((hi306 127 j322) < 0) → (∃ j326 : Nat, z306 = nI j326 ∧ j326 < 64 ∧ (∃ j327 : Nat, x7 = nI j327 ∧ j327 < 3 ∧ rx_aw 236 36 [.ref 90, .int x1, .int x2, .int x3, .int x4, .int (x5 / 5), .int ((x6 &&& 1) &&& 0), .int (x7 + 1), rx_no, rx_no, rx_no] [] (rx_hp L t (rx_u hi306 133 j327 (hi306 127 j326)) hl306 v306) Q)))))))) ∧ (¬ ((hi306 127 j317) < 0) → ((z306 < 0 → (∃ j329 : Nat, x7 = nI j329 ∧ j329 < 3 ∧ (∃ j330 : Nat, x7 = nI j330 ∧ j330 < 3 ∧ rx_aw 236 36 [.ref 90, .int x1, .int x2, .int x3, .int x4, .int (x5 / 5), .int ((x6 &&& 1) &&& 1), .int (x7 + 1), rx_no, rx_no, rx_no] [] (rx_hp L t (rx_u hi306 133 j330 (hi306 132 j329)) hl306 v306) Q))) ∧ (¬ (z306 < 0) → (∃ j331 : Nat, z306 = nI j331 ∧ j331 < 64 ∧ (((hi306 127 j331) < 0 → (∃ j333 : Nat, x7 = nI j333 ∧ j333 < 3 ∧ (∃ j334 : Nat, x7 = nI j334 ∧ j334 < 3 ∧ rx_aw 236 36 [.ref 90, .int x1, .int x2, .int x3, .int x4, .int (x5 / 5), .int ((x6 &&& 1) &&& 1), .int (x7 + 1), rx_no, rx_no, rx_no] [] (rx_hp L t (rx_u hi306 133 j334 (hi306 132 j333)) hl306 v306) Q))) ∧ (¬ ((hi306 127 j331) < 0) → (∃ j335 : Nat, z306 = nI j335 ∧ j335 < 64 ∧ (∃ j336 : Nat, x7 = nI j336 ∧ j336 < 3 ∧ rx_aw 236 36 [.ref 90, .int x1, .int x2, .int x3, .int x4, .int (x5 / 5), .int ((x6 &&& 1) &&& 1), .int (x7 + 1), rx_no, rx_no, rx_no] [] (rx_hp L t (rx_u hi306 133 j336 (hi306 127 j335)) hl306 v306) Q))))))))))))))))))))))))))))))) : rx_aw 236 36 [.ref 90, .int x1, .int x2, .int x3, .int x4, .int x5, .int x6, .int x7, rx_no, rx_no, rx_no] [] (rx_hp L t hi hl v) Q := by
  refine rx_aw_s 3 (pc := 36) rfl ?_
  refine rx_w_if (c := 3 ≤ x7) ⟨fun c2 => ?_, fun c2 => ?_⟩
  · have k := k.1 c2
    show rx_aw 236 216 [.ref 90, .int x1, .int x2, .int x3, .int x4, .int x5, .int x6, .int x7, rx_no, rx_no, rx_no] [] (rx_hp L t hi hl v) Q
    refine rx_aw_s 2 (pc := 216) rfl ?_
    refine rx_w_if (c := x6 = 0) ⟨fun c3 => ?_, fun c3 => ?_⟩
    · have k := k.1 c3
      show rx_aw 236 246 [.ref 90, .int x1, .int x2, .int x3, .int x4, .int x5, .int x6, .int x7, rx_no, rx_no, rx_no] [] (rx_hp L t hi hl v) Q
      refine rx_aw_s 2 (pc := 246) rfl ?_
      show rx_aw 236 19 [.ref 90, .int x1, .int x2, .int x3, .int (x4 + 1), .int x5, .int x6, .int x7, rx_no, rx_no, rx_no] [] (rx_hp L t hi hl v) Q
      exact rx_aw_le (ls := [.ref 90, .int x1, .int x2, .int x3, .int (x4 + 1), rx_no, rx_no, rx_no, rx_no, rx_no, rx_no]) ⟨Or.inr rfl, ⟨Or.inr rfl, ⟨Or.inr rfl, ⟨Or.inr rfl, ⟨Or.inr rfl, ⟨Or.inl rfl, ⟨Or.inl rfl, ⟨Or.inl rfl, ⟨Or.inl rfl, ⟨Or.inl rfl, ⟨Or.inl rfl, trivial⟩⟩⟩⟩⟩⟩⟩⟩⟩⟩⟩ k
    · have k := k.2 c3
      show rx_aw 236 221 [.ref 90, .int x1, .int x2, .int x3, .int x4, .int x5, .int x6, .int x7, rx_no, rx_no, rx_no] [] (rx_hp L t hi hl v) Q
      refine rx_aw_s 1 (pc := 221) rfl ?_
      show rx_aw 236 222 [.ref 90, .int x1, .int x2, .int x3, .int x4, .int x5, .int x6, .int x7, rx_no, rx_no, rx_no] [.ref 90] (rx_hp L t hi hl v) Q
      refine rx_w_callI (j := 237) (pc := 222) rfl rfl rfl rfl rfl ?_
      refine rx_aw.mono k (fun r h2 k => ?_)
      obtain ⟨z4, rfl, hi4, hl4, v4, rfl, k⟩ := k
      refine ⟨z4, rfl, ?_⟩
      show rx_aw 236 225 [.ref 90, .int x1, .int x2, .int x3, .int x4, .int x5, .int x6, .int x7, rx_no, rx_no, rx_no] [.int z4] (rx_hp L t hi4 hl4 v4) Q
      refine rx_aw_s 1 (pc := 225) rfl ?_
      refine rx_w_if (c := z4 = 0) ⟨fun c5 => ?_, fun c5 => ?_⟩
      · have k := k.1 c5
        show rx_aw 236 246 [.ref 90, .int x1, .int x2, .int x3, .int x4, .int x5, .int x6, .int x7, rx_no, rx_no, rx_no] [] (rx_hp L t hi4 hl4 v4) Q
        refine rx_aw_s 2 (pc := 246) rfl ?_
        show rx_aw 236 19 [.ref 90, .int x1, .int x2, .int x3, .int (x4 + 1), .int x5, .int x6, .int x7, rx_no, rx_no, rx_no] [] (rx_hp L t hi4 hl4 v4) Q
        exact rx_aw_le (ls := [.ref 90, .int x1, .int x2, .int x3, .int (x4 + 1), rx_no, rx_no, rx_no, rx_no, rx_no, rx_no]) ⟨Or.inr rfl, ⟨Or.inr rfl, ⟨Or.inr rfl, ⟨Or.inr rfl, ⟨Or.inr rfl, ⟨Or.inl rfl, ⟨Or.inl rfl, ⟨Or.inl rfl, ⟨Or.inl rfl, ⟨Or.inl rfl, ⟨Or.inl rfl, trivial⟩⟩⟩⟩⟩⟩⟩⟩⟩⟩⟩ k
      · have k := k.2 c5
        show rx_aw 236 228 [.ref 90, .int x1, .int x2, .int x3, .int x4, .int x5, .int x6, .int x7, rx_no, rx_no, rx_no] [] (rx_hp L t hi4 hl4 v4) Q
        refine rx_aw_s 5 (pc := 228) rfl ?_
        show rx_aw 236 235 [.ref 90, .int x1, .int x2, .int x3, .int x4, .int x5, .int x6, .int x7, rx_no, rx_no, rx_no] [.int x1, .ref 133, .ref 90, .ref 90] (rx_hp L t hi4 hl4 v4) Q
        refine rx_w_callI (j := 231) (pc := 235) rfl rfl rfl rfl rfl ?_
        refine rx_aw.mono k (fun r h2 k => ?_)
        obtain ⟨z6, rfl, hi6, hl6, v6, rfl, k⟩ := k
        refine ⟨z6, rfl, ?_⟩
        show rx_aw 236 238 [.ref 90, .int x1, .int x2, .int x3, .int x4, .int x5, .int x6, .int x7, rx_no, rx_no, rx_no] [.int z6, .ref 90] (rx_hp L t hi6 hl6 v6) Q
        refine rx_aw_s 3 (pc := 238) rfl ?_
        show rx_aw 236 241 [.ref 90, .int x1, .int x2, .int x3, .int x4, .int x5, .int x6, .int x7, rx_no, rx_no, rx_no] [.int (x2 + x3), .int z6, .ref 90] (rx_hp L t hi6 hl6 v6) Q
        refine rx_w_callI (j := 232) (pc := 241) rfl rfl rfl rfl rfl ?_
        refine rx_aw.mono k (fun r h2 k => ?_)
        obtain ⟨z7, rfl, hi7, hl7, v7, rfl, k⟩ := k
        refine ⟨z7, rfl, ?_⟩
        show rx_aw 236 244 [.ref 90, .int x1, .int x2, .int x3, .int x4, .int x5, .int x6, .int x7, rx_no, rx_no, rx_no] [.int z7] (rx_hp L t hi7 hl7 v7) Q
        refine rx_aw_s 3 (pc := 244) rfl ?_
        show rx_aw 236 19 [.ref 90, .int x1, .int x2, .int x3, .int (x4 + 1), .int x5, .int x6, .int z7, rx_no, rx_no, rx_no] [] (rx_hp L t hi7 hl7 v7) Q
        exact rx_aw_le (ls := [.ref 90, .int x1, .int x2, .int x3, .int (x4 + 1), rx_no, rx_no, rx_no, rx_no, rx_no, rx_no]) ⟨Or.inr rfl, ⟨Or.inr rfl, ⟨Or.inr rfl, ⟨Or.inr rfl, ⟨Or.inr rfl, ⟨Or.inl rfl, ⟨Or.inl rfl, ⟨Or.inl rfl, ⟨Or.inl rfl, ⟨Or.inl rfl, ⟨Or.inl rfl, trivial⟩⟩⟩⟩⟩⟩⟩⟩⟩⟩⟩ k
  · have k := k.2 c2
    show rx_aw 236 42 [.ref 90, .int x1, .int x2, .int x3, .int x4, .int x5, .int x6, .int x7, rx_no, rx_no, rx_no] [] (rx_hp L t hi hl v) Q
    refine rx_aw_s 2 (pc := 42) rfl ?_
    show rx_aw 236 45 [.ref 90, .int x1, .int x2, .int x3, .int x4, .int x5, .int x6, .int x7, rx_no, rx_no, rx_no] [.int 5, .int x5] (rx_hp L t hi hl v) Q
    refine rx_aw_rem (pc := 45) rfl (by decide) ?_
    show rx_aw 236 46 [.ref 90, .int x1, .int x2, .int x3, .int x4, .int x5, .int x6, .int x7, rx_no, rx_no, rx_no] [.int (x5 - x5 / 5 * 5)] (rx_hp L t hi hl v) Q
    refine rx_aw_s 3 (pc := 46) rfl ?_
    show rx_aw 236 51 [.ref 90, .int x1, .int x2, .int x3, .int x4, .int x5, .int x6, .int x7, .int (x5 - x5 / 5 * 5), rx_no, rx_no] [.int 5, .int x5] (rx_hp L t hi hl v) Q
    refine rx_aw_div (pc := 51) rfl (by decide) ?_
    show rx_aw 236 52 [.ref 90, .int x1, .int x2, .int x3, .int x4, .int x5, .int x6, .int x7, .int (x5 - x5 / 5 * 5), rx_no, rx_no] [.int (x5 / 5)] (rx_hp L t hi hl v) Q
    refine rx_aw_s 5 (pc := 52) rfl ?_
    refine rx_w_if (c := (hi 90 53) ≤ x7) ⟨fun c8 => ?_, fun c8 => ?_⟩
    · have k := k.1 c8
      show rx_aw 236 77 [.ref 90, .int x1, .int x2, .int x3, .int x4, .int (x5 / 5), .int x6, .int x7, .int (x5 - x5 / 5 * 5), rx_no, rx_no] [] (rx_hp L t hi hl v) Q
      refine rx_aw_s 8 (pc := 77) rfl ?_
      show rx_aw 236 92 [.ref 90, .int x1, .int x2, .int x3, .int x4, .int (x5 / 5), .int x6, .int x7, .int (x5 - x5 / 5 * 5), .int 0, rx_no] [.int x7, .ref 132, .int x7, .ref 133] (rx_hp L t hi hl v) Q
      obtain ⟨j9, ej9, hj9, k⟩ := k
      refine rx_aw_iald (pc := 92) (n := 3) j9 ej9 rfl rfl rfl hj9 (by decide) ?_
      show rx_aw 236 93 [.ref 90, .int x1, .int x2, .int x3, .int x4, .int (x5 / 5), .int x6, .int x7, .int (x5 - x5 / 5 * 5), .int 0, rx_no] [.int (hi 132 j9), .int x7, .ref 133] (rx_hp L t hi hl v) Q
      obtain ⟨j10, ej10, hj10, k⟩ := k
      refine rx_aw_iast (pc := 93) (n := 3) j10 ej10 rfl rfl (by decide) rfl hj10 (by decide) ?_
      show rx_aw 236 94 [.ref 90, .int x1, .int x2, .int x3, .int x4, .int (x5 / 5), .int x6, .int x7, .int (x5 - x5 / 5 * 5), .int 0, rx_no] [] (rx_hp L t (rx_u hi 133 j10 (hi 132 j9)) hl v) Q
      refine rx_aw_s 3 (pc := 94) rfl ?_
      refine rx_w_ifn (c := 0 = 0) ⟨fun c11 => ?_, fun c11 => ?_⟩
      · have k := k.1 c11
        show rx_aw 236 101 [.ref 90, .int x1, .int x2, .int x3, .int x4, .int (x5 / 5), .int x6, .int x7, .int (x5 - x5 / 5 * 5), .int 0, rx_no] [.int x6] (rx_hp L t (rx_u hi 133 j10 (hi 132 j9)) hl v) Q
        refine rx_aw_s 2 (pc := 101) rfl ?_
        refine rx_w_ifn (c := (x5 - x5 / 5 * 5) = 0) ⟨fun c12 => ?_, fun c12 => ?_⟩
        · have k := k.1 c12
          show rx_aw 236 106 [.ref 90, .int x1, .int x2, .int x3, .int x4, .int (x5 / 5), .int x6, .int x7, .int (x5 - x5 / 5 * 5), .int 0, rx_no] [.int x6] (rx_hp L t (rx_u hi 133 j10 (hi 132 j9)) hl v) Q
          refine rx_aw_s 6 (pc := 106) rfl ?_
          refine rx_w_if (c := 0 = 0) ⟨fun c13 => ?_, fun c13 => ?_⟩
          · have k := k.1 c13
            show rx_aw 236 210 [.ref 90, .int x1, .int x2, .int x3, .int x4, .int (x5 / 5), .int (x6 &&& 1), .int x7, .int (x5 - x5 / 5 * 5), .int 0, rx_no] [] (rx_hp L t (rx_u hi 133 j10 (hi 132 j9)) hl v) Q
            refine rx_aw_s 2 (pc := 210) rfl ?_
            show rx_aw 236 36 [.ref 90, .int x1, .int x2, .int x3, .int x4, .int (x5 / 5), .int (x6 &&& 1), .int (x7 + 1), .int (x5 - x5 / 5 * 5), .int 0, rx_no] [] (rx_hp L t (rx_u hi 133 j10 (hi 132 j9)) hl v) Q
            exact rx_aw_le (ls := [.ref 90, .int x1, .int x2, .int x3, .int x4, .int (x5 / 5), .int (x6 &&& 1), .int (x7 + 1), rx_no, rx_no, rx_no]) ⟨Or.inr rfl, ⟨Or.inr rfl, ⟨Or.inr rfl, ⟨Or.inr rfl, ⟨Or.inr rfl, ⟨Or.inr rfl, ⟨Or.inr rfl, ⟨Or.inr rfl, ⟨Or.inl rfl, ⟨Or.inl rfl, ⟨Or.inl rfl, trivial⟩⟩⟩⟩⟩⟩⟩⟩⟩⟩⟩ k
          · have k := k.2 c13
            show rx_aw 236 119 [.ref 90, .int x1, .int x2, .int x3, .int x4, .int (x5 / 5), .int (x6 &&& 1), .int x7, .int (x5 - x5 / 5 * 5), .int 0, rx_no] [] (rx_hp L t (rx_u hi 133 j10 (hi 132 j9)) hl v) Q
            refine rx_aw_s 2 (pc := 119) rfl ?_
            refine rx_w_if (c := (x5 - x5 / 5 * 5) ≤ 0) ⟨fun c14 => ?_, fun c14 => ?_⟩
            · have k := k.1 c14
              show rx_aw 236 210 [.ref 90, .int x1, .int x2, .int x3, .int x4, .int (x5 / 5), .int (x6 &&& 1), .int x7, .int (x5 - x5 / 5 * 5), .int 0, rx_no] [] (rx_hp L t (rx_u hi 133 j10 (hi 132 j9)) hl v) Q
              refine rx_aw_s 2 (pc := 210) rfl ?_
              show rx_aw 236 36 [.ref 90, .int x1, .int x2, .int x3, .int x4, .int (x5 / 5), .int (x6 &&& 1), .int (x7 + 1), .int (x5 - x5 / 5 * 5), .int 0, rx_no] [] (rx_hp L t (rx_u hi 133 j10 (hi 132 j9)) hl v) Q
              exact rx_aw_le (ls := [.ref 90, .int x1, .int x2, .int x3, .int x4, .int (x5 / 5), .int (x6 &&& 1), .int (x7 + 1), rx_no, rx_no, rx_no]) ⟨Or.inr rfl, ⟨Or.inr rfl, ⟨Or.inr rfl, ⟨Or.inr rfl, ⟨Or.inr rfl, ⟨Or.inr rfl, ⟨Or.inr rfl, ⟨Or.inr rfl, ⟨Or.inl rfl, ⟨Or.inl rfl, ⟨Or.inl rfl, trivial⟩⟩⟩⟩⟩⟩⟩⟩⟩⟩⟩ k
            · have k := k.2 c14
              show rx_aw 236 124 [.ref 90, .int x1, .int x2, .int x3, .int x4, .int (x5 / 5), .int (x6 &&& 1), .int x7, .int (x5 - x5 / 5 * 5), .int 0, rx_no] [] (rx_hp L t (rx_u hi 133 j10 (hi 132 j9)) hl v) Q
              refine rx_aw_s 6 (pc := 124) rfl ?_
              show rx_aw 236 135 [.ref 90, .int x1, .int x2, .int x3, .int x4, .int (x5 / 5), .int (x6 &&& 1), .int x7, .int (x5 - x5 / 5 * 5), .int 0, rx_no] [.int x7, .ref 132, .ref 126, .ref 90] (rx_hp L t (rx_u hi 133 j10 (hi 132 j9)) hl v) Q
              obtain ⟨j15, ej15, hj15, k⟩ := k
              refine rx_aw_iald (pc := 135) (n := 3) j15 ej15 rfl rfl rfl hj15 (by decide) ?_
              show rx_aw 236 136 [.ref 90, .int x1, .int x2, .int x3, .int x4, .int (x5 / 5), .int (x6 &&& 1), .int x7, .int (x5 - x5 / 5 * 5), .int 0, rx_no] [.int ((rx_u hi 133 j10 (hi 132 j9)) 132 j15), .ref 126, .ref 90] (rx_hp L t (rx_u hi 133 j10 (hi 132 j9)) hl v) Q
              obtain ⟨j16, ej16, hj16, k⟩ := k
              refine rx_aw_iald (pc := 136) (n := 20) j16 ej16 rfl rfl rfl hj16 (by decide) ?_
              show rx_aw 236 137 [.ref 90, .int x1, .int x2, .int x3, .int x4, .int (x5 / 5), .int (x6 &&& 1), .int x7, .int (x5 - x5 / 5 * 5), .int 0, rx_no] [.int ((rx_u hi 133 j10 (hi 132 j9)) 126 j16), .ref 90] (rx_hp L t (rx_u hi 133 j10 (hi 132 j9)) hl v) Q
              refine rx_aw_s 3 (pc := 137) rfl ?_
              show rx_aw 236 141 [.ref 90, .int x1, .int x2, .int x3, .int x4, .int (x5 / 5), .int (x6 &&& 1), .int x7, .int (x5 - x5 / 5 * 5), .int 0, rx_no] [.int ((x5 - x5 / 5 * 5) - 1), .int ((rx_u hi 133 j10 (hi 132 j9)) 126 j16), .ref 90] (rx_hp L t (rx_u hi 133 j10 (hi 132 j9)) hl v) Q
              refine rx_w_callI (j := 181) (pc := 141) rfl rfl rfl rfl rfl ?_
              refine rx_aw.mono k (fun r h2 k => ?_)
              obtain ⟨z17, rfl, hi17, hl17, v17, rfl, k⟩ := k
              refine ⟨z17, rfl, ?_⟩
              show rx_aw 236 144 [.ref 90, .int x1, .int x2, .int x3, .int x4, .int (x5 / 5), .int (x6 &&& 1), .int x7, .int (x5 - x5 / 5 * 5), .int 0, rx_no] [.int z17] (rx_hp L t hi17 hl17 v17) Q
              refine rx_aw_s 4 (pc := 144) rfl ?_
              refine rx_w_if (c := z17 < 0) ⟨fun c18 => ?_, fun c18 => ?_⟩
              · have k := k.1 c18
                show rx_aw 236 167 [.ref 90, .int x1, .int x2, .int x3, .int x4, .int (x5 / 5), .int (x6 &&& 1), .int x7, .int (x5 - x5 / 5 * 5), .int 0, .int z17] [.int (x6 &&& 1)] (rx_hp L t hi17 hl17 v17) Q
                refine rx_aw_s 8 (pc := 167) rfl ?_
                refine rx_w_if (c := z17 < 0) ⟨fun c19 => ?_, fun c19 => ?_⟩
                · have k := k.1 c19
                  show rx_aw 236 202 [.ref 90, .int x1, .int x2, .int x3, .int x4, .int (x5 / 5), .int ((x6 &&& 1) &&& 0), .int x7, .int (x5 - x5 / 5 * 5), .int 0, .int z17] [.int x7, .ref 133] (rx_hp L t hi17 hl17 v17) Q
                  refine rx_aw_s 3 (pc := 202) rfl ?_
                  show rx_aw 236 208 [.ref 90, .int x1, .int x2, .int x3, .int x4, .int (x5 / 5), .int ((x6 &&& 1) &&& 0), .int x7, .int (x5 - x5 / 5 * 5), .int 0, .int z17] [.int x7, .ref 132, .int x7, .ref 133] (rx_hp L t hi17 hl17 v17) Q
                  obtain ⟨j20, ej20, hj20, k⟩ := k
                  refine rx_aw_iald (pc := 208) (n := 3) j20 ej20 rfl rfl rfl hj20 (by decide) ?_
                  show rx_aw 236 209 [.ref 90, .int x1, .int x2, .int x3, .int x4, .int (x5 / 5), .int ((x6 &&& 1) &&& 0), .int x7, .int (x5 - x5 / 5 * 5), .int 0, .int z17] [.int (hi17 132 j20), .int x7, .ref 133] (rx_hp L t hi17 hl17 v17) Q
                  obtain ⟨j21, ej21, hj21, k⟩ := k
                  refine rx_aw_iast (pc := 209) (n := 3) j21 ej21 rfl rfl (by decide) rfl hj21 (by decide) ?_
                  show rx_aw 236 210 [.ref 90, .int x1, .int x2, .int x3, .int x4, .int (x5 / 5), .int ((x6 &&& 1) &&& 0), .int x7, .int (x5 - x5 / 5 * 5), .int 0, .int z17] [] (rx_hp L t (rx_u hi17 133 j21 (hi17 132 j20)) hl17 v17) Q
                  refine rx_aw_s 2 (pc := 210) rfl ?_
                  show rx_aw 236 36 [.ref 90, .int x1, .int x2, .int x3, .int x4, .int (x5 / 5), .int ((x6 &&& 1) &&& 0), .int (x7 + 1), .int (x5 - x5 / 5 * 5), .int 0, .int z17] [] (rx_hp L t (rx_u hi17 133 j21 (hi17 132 j20)) hl17 v17) Q
                  exact rx_aw_le (ls := [.ref 90, .int x1, .int x2, .int x3, .int x4, .int (x5 / 5), .int ((x6 &&& 1) &&& 0), .int (x7 + 1), rx_no, rx_no, rx_no]) ⟨Or.inr rfl, ⟨Or.inr rfl, ⟨Or.inr rfl, ⟨Or.inr rfl, ⟨Or.inr rfl, ⟨Or.inr rfl, ⟨Or.inr rfl, ⟨Or.inr rfl, ⟨Or.inl rfl, ⟨Or.inl rfl, ⟨Or.inl rfl, trivial⟩⟩⟩⟩⟩⟩⟩⟩⟩⟩⟩ k
                · have k := k.2 c19
                  show rx_aw 236 182 [.ref 90, .int x1, .int x2, .int x3, .int x4, .int (x5 / 5), .int ((x6 &&& 1) &&& 0), .int x7, .int (x5 - x5 / 5 * 5), .int 0, .int z17] [.int x7, .ref 133] (rx_hp L t hi17 hl17 v17) Q
                  refine rx_aw_s 3 (pc := 182) rfl ?_
                  show rx_aw 236 188 [.ref 90, .int x1, .int x2, .int x3, .int x4, .int (x5 / 5), .int ((x6 &&& 1) &&& 0), .int x7, .int (x5 - x5 / 5 * 5), .int 0, .int z17] [.int z17, .ref 127, .int x7, .ref 133] (rx_hp L t hi17 hl17 v17) Q
                  obtain ⟨j22, ej22, hj22, k⟩ := k
                  refine rx_aw_iald (pc := 188) (n := 64) j22 ej22 rfl rfl rfl hj22 (by decide) ?_
                  show rx_aw 236 189 [.ref 90, .int x1, .int x2, .int x3, .int x4, .int (x5 / 5), .int ((x6 &&& 1) &&& 0), .int x7, .int (x5 - x5 / 5 * 5), .int 0, .int z17] [.int (hi17 127 j22), .int x7, .ref 133] (rx_hp L t hi17 hl17 v17) Q
                  refine rx_aw_s 1 (pc := 189) rfl ?_
                  refine rx_w_if (c := (hi17 127 j22) < 0) ⟨fun c23 => ?_, fun c23 => ?_⟩
                  · have k := k.1 c23
                    show rx_aw 236 202 [.ref 90, .int x1, .int x2, .int x3, .int x4, .int (x5 / 5), .int ((x6 &&& 1) &&& 0), .int x7, .int (x5 - x5 / 5 * 5), .int 0, .int z17] [.int x7, .ref 133] (rx_hp L t hi17 hl17 v17) Q
                    refine rx_aw_s 3 (pc := 202) rfl ?_
                    show rx_aw 236 208 [.ref 90, .int x1, .int x2, .int x3, .int x4, .int (x5 / 5), .int ((x6 &&& 1) &&& 0), .int x7, .int (x5 - x5 / 5 * 5), .int 0, .int z17] [.int x7, .ref 132, .int x7, .ref 133] (rx_hp L t hi17 hl17 v17) Q
                    obtain ⟨j24, ej24, hj24, k⟩ := k
                    refine rx_aw_iald (pc := 208) (n := 3) j24 ej24 rfl rfl rfl hj24 (by decide) ?_
                    show rx_aw 236 209 [.ref 90, .int x1, .int x2, .int x3, .int x4, .int (x5 / 5), .int ((x6 &&& 1) &&& 0), .int x7, .int (x5 - x5 / 5 * 5), .int 0, .int z17] [.int (hi17 132 j24), .int x7, .ref 133] (rx_hp L t hi17 hl17 v17) Q
                    obtain ⟨j25, ej25, hj25, k⟩ := k
                    refine rx_aw_iast (pc := 209) (n := 3) j25 ej25 rfl rfl (by decide) rfl hj25 (by decide) ?_
                    show rx_aw 236 210 [.ref 90, .int x1, .int x2, .int x3, .int x4, .int (x5 / 5), .int ((x6 &&& 1) &&& 0), .int x7, .int (x5 - x5 / 5 * 5), .int 0, .int z17] [] (rx_hp L t (rx_u hi17 133 j25 (hi17 132 j24)) hl17 v17) Q
                    refine rx_aw_s 2 (pc := 210) rfl ?_
                    show rx_aw 236 36 [.ref 90, .int x1, .int x2, .int x3, .int x4, .int (x5 / 5), .int ((x6 &&& 1) &&& 0), .int (x7 + 1), .int (x5 - x5 / 5 * 5), .int 0, .int z17] [] (rx_hp L t (rx_u hi17 133 j25 (hi17 132 j24)) hl17 v17) Q
                    exact rx_aw_le (ls := [.ref 90, .int x1, .int x2, .int x3, .int x4, .int (x5 / 5), .int ((x6 &&& 1) &&& 0), .int (x7 + 1), rx_no, rx_no, rx_no]) ⟨Or.inr rfl, ⟨Or.inr rfl, ⟨Or.inr rfl, ⟨Or.inr rfl, ⟨Or.inr rfl, ⟨Or.inr rfl, ⟨Or.inr rfl, ⟨Or.inr rfl, ⟨Or.inl rfl, ⟨Or.inl rfl, ⟨Or.inl rfl, trivial⟩⟩⟩⟩⟩⟩⟩⟩⟩⟩⟩ k
                  · have k := k.2 c23
                    show rx_aw 236 192 [.ref 90, .int x1, .int x2, .int x3, .int x4, .int (x5 / 5), .int ((x6 &&& 1) &&& 0), .int x7, .int (x5 - x5 / 5 * 5), .int 0, .int z17] [.int x7, .ref 133] (rx_hp L t hi17 hl17 v17) Q
                    refine rx_aw_s 3 (pc := 192) rfl ?_
                    show rx_aw 236 198 [.ref 90, .int x1, .int x2, .int x3, .int x4, .int (x5 / 5), .int ((x6 &&& 1) &&& 0), .int x7, .int (x5 - x5 / 5 * 5), .int 0, .int z17] [.int z17, .ref 127, .int x7, .ref 133] (rx_hp L t hi17 hl17 v17) Q
                    obtain ⟨j26, ej26, hj26, k⟩ := k
                    refine rx_aw_iald (pc := 198) (n := 64) j26 ej26 rfl rfl rfl hj26 (by decide) ?_
                    show rx_aw 236 199 [.ref 90, .int x1, .int x2, .int x3, .int x4, .int (x5 / 5), .int ((x6 &&& 1) &&& 0), .int x7, .int (x5 - x5 / 5 * 5), .int 0, .int z17] [.int (hi17 127 j26), .int x7, .ref 133] (rx_hp L t hi17 hl17 v17) Q
                    refine rx_aw_s 1 (pc := 199) rfl ?_
                    show rx_aw 236 209 [.ref 90, .int x1, .int x2, .int x3, .int x4, .int (x5 / 5), .int ((x6 &&& 1) &&& 0), .int x7, .int (x5 - x5 / 5 * 5), .int 0, .int z17] [.int (hi17 127 j26), .int x7, .ref 133] (rx_hp L t hi17 hl17 v17) Q
                    obtain ⟨j27, ej27, hj27, k⟩ := k
                    refine rx_aw_iast (pc := 209) (n := 3) j27 ej27 rfl rfl (by decide) rfl hj27 (by decide) ?_
                    show rx_aw 236 210 [.ref 90, .int x1, .int x2, .int x3, .int x4, .int (x5 / 5), .int ((x6 &&& 1) &&& 0), .int x7, .int (x5 - x5 / 5 * 5), .int 0, .int z17] [] (rx_hp L t (rx_u hi17 133 j27 (hi17 127 j26)) hl17 v17) Q
                    refine rx_aw_s 2 (pc := 210) rfl ?_
                    show rx_aw 236 36 [.ref 90, .int x1, .int x2, .int x3, .int x4, .int (x5 / 5), .int ((x6 &&& 1) &&& 0), .int (x7 + 1), .int (x5 - x5 / 5 * 5), .int 0, .int z17] [] (rx_hp L t (rx_u hi17 133 j27 (hi17 127 j26)) hl17 v17) Q
                    exact rx_aw_le (ls := [.ref 90, .int x1, .int x2, .int x3, .int x4, .int (x5 / 5), .int ((x6 &&& 1) &&& 0), .int (x7 + 1), rx_no, rx_no, rx_no]) ⟨Or.inr rfl, ⟨Or.inr rfl, ⟨Or.inr rfl, ⟨Or.inr rfl, ⟨Or.inr rfl, ⟨Or.inr rfl, ⟨Or.inr rfl, ⟨Or.inr rfl, ⟨Or.inl rfl, ⟨Or.inl rfl, ⟨Or.inl rfl, trivial⟩⟩⟩⟩⟩⟩⟩⟩⟩⟩⟩ k
              · have k := k.2 c18
                show rx_aw 236 153 [.ref 90, .int x1, .int x2, .int x3, .int x4, .int (x5 / 5), .int (x6 &&& 1), .int x7, .int (x5 - x5 / 5 * 5), .int 0, .int z17] [.int (x6 &&& 1)] (rx_hp L t hi17 hl17 v17) Q
                refine rx_aw_s 3 (pc := 153) rfl ?_
                show rx_aw 236 159 [.ref 90, .int x1, .int x2, .int x3, .int x4, .int (x5 / 5), .int (x6 &&& 1), .int x7, .int (x5 - x5 / 5 * 5), .int 0, .int z17] [.int z17, .ref 127, .int (x6 &&& 1)] (rx_hp L t hi17 hl17 v17) Q
                obtain ⟨j28, ej28, hj28, k⟩ := k
                refine rx_aw_iald (pc := 159) (n := 64) j28 ej28 rfl rfl rfl hj28 (by decide) ?_
                show rx_aw 236 160 [.ref 90, .int x1, .int x2, .int x3, .int x4, .int (x5 / 5), .int (x6 &&& 1), .int x7, .int (x5 - x5 / 5 * 5), .int 0, .int z17] [.int (hi17 127 j28), .int (x6 &&& 1)] (rx_hp L t hi17 hl17 v17) Q
                refine rx_aw_s 1 (pc := 160) rfl ?_
                refine rx_w_if (c := (hi17 127 j28) < 0) ⟨fun c29 => ?_, fun c29 => ?_⟩
                · have k := k.1 c29
                  show rx_aw 236 167 [.ref 90, .int x1, .int x2, .int x3, .int x4, .int (x5 / 5), .int (x6 &&& 1), .int x7, .int (x5 - x5 / 5 * 5), .int 0, .int z17] [.int (x6 &&& 1)] (rx_hp L t hi17 hl17 v17) Q
                  refine rx_aw_s 8 (pc := 167) rfl ?_
                  refine rx_w_if (c := z17 < 0) ⟨fun c30 => ?_, fun c30 => ?_⟩
                  · have k := k.1 c30
                    show rx_aw 236 202 [.ref 90, .int x1, .int x2, .int x3, .int x4, .int (x5 / 5), .int ((x6 &&& 1) &&& 0), .int x7, .int (x5 - x5 / 5 * 5), .int 0, .int z17] [.int x7, .ref 133] (rx_hp L t hi17 hl17 v17) Q
                    refine rx_aw_s 3 (pc := 202) rfl ?_
                    show rx_aw 236 208 [.ref 90, .int x1, .int x2, .int x3, .int x4, .int (x5 / 5), .int ((x6 &&& 1) &&& 0), .int x7, .int (x5 - x5 / 5 * 5), .int 0, .int z17] [.int x7, .ref 132, .int x7, .ref 133] (rx_hp L t hi17 hl17 v17) Q
                    obtain ⟨j31, ej31, hj31, k⟩ := k
                    refine rx_aw_iald (pc := 208) (n := 3) j31 ej31 rfl rfl rfl hj31 (by decide) ?_
                    show rx_aw 236 209 [.ref 90, .int x1, .int x2, .int x3, .int x4, .int (x5 / 5), .int ((x6 &&& 1) &&& 0), .int x7, .int (x5 - x5 / 5 * 5), .int 0, .int z17] [.int (hi17 132 j31), .int x7, .ref 133] (rx_hp L t hi17 hl17 v17) Q
                    obtain ⟨j32, ej32, hj32, k⟩ := k
                    refine rx_aw_iast (pc := 209) (n := 3) j32 ej32 rfl rfl (by decide) rfl hj32 (by decide) ?_
                    show rx_aw 236 210 [.ref 90, .int x1, .int x2, .int x3, .int x4, .int (x5 / 5), .int ((x6 &&& 1) &&& 0), .int x7, .int (x5 - x5 / 5 * 5), .int 0, .int z17] [] (rx_hp L t (rx_u hi17 133 j32 (hi17 132 j31)) hl17 v17) Q
                    refine rx_aw_s 2 (pc := 210) rfl ?_
                    show rx_aw 236 36 [.ref 90, .int x1, .int x2, .int x3, .int x4, .int (x5 / 5), .int ((x6 &&& 1) &&& 0), .int (x7 + 1), .int (x5 - x5 / 5 * 5), .int 0, .int z17] [] (rx_hp L t (rx_u hi17 133 j32 (hi17 132 j31)) hl17 v17) Q
                    exact rx_aw_le (ls := [.ref 90, .int x1, .int x2, .int x3, .int x4, .int (x5 / 5), .int ((x6 &&& 1) &&& 0), .int (x7 + 1), rx_no, rx_no, rx_no]) ⟨Or.inr rfl, ⟨Or.inr rfl, ⟨Or.inr rfl, ⟨Or.inr rfl, ⟨Or.inr rfl, ⟨Or.inr rfl, ⟨Or.inr rfl, ⟨Or.inr rfl, ⟨Or.inl rfl, ⟨Or.inl rfl, ⟨Or.inl rfl, trivial⟩⟩⟩⟩⟩⟩⟩⟩⟩⟩⟩ k
                  · have k := k.2 c30
                    show rx_aw 236 182 [.ref 90, .int x1, .int x2, .int x3, .int x4, .int (x5 / 5), .int ((x6 &&& 1) &&& 0), .int x7, .int (x5 - x5 / 5 * 5), .int 0, .int z17] [.int x7, .ref 133] (rx_hp L t hi17 hl17 v17) Q
                    refine rx_aw_s 3 (pc := 182) rfl ?_
                    show rx_aw 236 188 [.ref 90, .int x1, .int x2, .int x3, .int x4, .int (x5 / 5), .int ((x6 &&& 1) &&& 0), .int x7, .int (x5 - x5 / 5 * 5), .int 0, .int z17] [.int z17, .ref 127, .int x7, .ref 133] (rx_hp L t hi17 hl17 v17) Q
                    obtain ⟨j33, ej33, hj33, k⟩ := k
                    refine rx_aw_iald (pc := 188) (n := 64) j33 ej33 rfl rfl rfl hj33 (by decide) ?_
                    show rx_aw 236 189 [.ref 90, .int x1, .int x2, .int x3, .int x4, .int (x5 / 5), .int ((x6 &&& 1) &&& 0), .int x7, .int (x5 - x5 / 5 * 5), .int 0, .int z17] [.int (hi17 127 j33), .int x7, .ref 133] (rx_hp L t hi17 hl17 v17) Q
                    refine rx_aw_s 1 (pc := 189) rfl ?_
                    refine rx_w_if (c := (hi17 127 j33) < 0) ⟨fun c34 => ?_, fun c34 => ?_⟩
                    · have k := k.1 c34
                      show rx_aw 236 202 [.ref 90, .int x1, .int x2, .int x3, .int x4, .int (x5 / 5), .int ((x6 &&& 1) &&& 0), .int x7, .int (x5 - x5 / 5 * 5), .int 0, .int z17] [.int x7, .ref 133] (rx_hp L t hi17 hl17 v17) Q
                      refine rx_aw_s 3 (pc := 202) rfl ?_
                      show rx_aw 236 208 [.ref 90, .int x1, .int x2, .int x3, .int x4, .int (x5 / 5), .int ((x6 &&& 1) &&& 0), .int x7, .int (x5 - x5 / 5 * 5), .int 0, .int z17] [.int x7, .ref 132, .int x7, .ref 133] (rx_hp L t hi17 hl17 v17) Q
                      obtain ⟨j35, ej35, hj35, k⟩ := k
                      refine rx_aw_iald (pc := 208) (n := 3) j35 ej35 rfl rfl rfl hj35 (by decide) ?_
                      show rx_aw 236 209 [.ref 90, .int x1, .int x2, .int x3, .int x4, .int (x5 / 5), .int ((x6 &&& 1) &&& 0), .int x7, .int (x5 - x5 / 5 * 5), .int 0, .int z17] [.int (hi17 132 j35), .int x7, .ref 133] (rx_hp L t hi17 hl17 v17) Q
                      obtain ⟨j36, ej36, hj36, k⟩ := k
                      refine rx_aw_iast (pc := 209) (n := 3) j36 ej36 rfl rfl (by decide) rfl hj36 (by decide) ?_
                      show rx_aw 236 210 [.ref 90, .int x1, .int x2, .int x3, .int x4, .int (x5 / 5), .int ((x6 &&& 1) &&& 0), .int x7, .int (x5 - x5 / 5 * 5), .int 0, .int z17] [] (rx_hp L t (rx_u hi17 133 j36 (hi17 132 j35)) hl17 v17) Q
                      refine rx_aw_s 2 (pc := 210) rfl ?_
                      show rx_aw 236 36 [.ref 90, .int x1, .int x2, .int x3, .int x4, .int (x5 / 5), .int ((x6 &&& 1) &&& 0), .int (x7 + 1), .int (x5 - x5 / 5 * 5), .int 0, .int z17] [] (rx_hp L t (rx_u hi17 133 j36 (hi17 132 j35)) hl17 v17) Q
                      exact rx_aw_le (ls := [.ref 90, .int x1, .int x2, .int x3, .int x4, .int (x5 / 5), .int ((x6 &&& 1) &&& 0), .int (x7 + 1), rx_no, rx_no, rx_no]) ⟨Or.inr rfl, ⟨Or.inr rfl, ⟨Or.inr rfl, ⟨Or.inr rfl, ⟨Or.inr rfl, ⟨Or.inr rfl, ⟨Or.inr rfl, ⟨Or.inr rfl, ⟨Or.inl rfl, ⟨Or.inl rfl, ⟨Or.inl rfl, trivial⟩⟩⟩⟩⟩⟩⟩⟩⟩⟩⟩ k
                    · have k := k.2 c34
                      show rx_aw 236 192 [.ref 90, .int x1, .int x2, .int x3, .int x4, .int (x5 / 5), .int ((x6 &&& 1) &&& 0), .int x7, .int (x5 - x5 / 5 * 5), .int 0, .int z17] [.int x7, .ref 133] (rx_hp L t hi17 hl17 v17) Q
                      refine rx_aw_s 3 (pc := 192) rfl ?_
                      show rx_aw 236 198 [.ref 90, .int x1, .int x2, .int x3, .int x4, .int (x5 / 5), .int ((x6 &&& 1) &&& 0), .int x7, .int (x5 - x5 / 5 * 5), .int 0, .int z17] [.int z17, .ref 127, .int x7, .ref 133] (rx_hp L t hi17 hl17 v17) Q
                      obtain ⟨j37, ej37, hj37, k⟩ := k
                      refine rx_aw_iald (pc := 198) (n := 64) j37 ej37 rfl rfl rfl hj37 (by decide) ?_
                      show rx_aw 236 199 [.ref 90, .int x1, .int x2, .int x3, .int x4, .int (x5 / 5), .int ((x6 &&& 1) &&& 0), .int x7, .int (x5 - x5 / 5 * 5), .int 0, .int z17] [.int (hi17 127 j37), .int x7, .ref 133] (rx_hp L t hi17 hl17 v17) Q
                      refine rx_aw_s 1 (pc := 199) rfl ?_
                      show rx_aw 236 209 [.ref 90, .int x1, .int x2, .int x3, .int x4, .int (x5 / 5), .int ((x6 &&& 1) &&& 0), .int x7, .int (x5 - x5 / 5 * 5), .int 0, .int z17] [.int (hi17 127 j37), .int x7, .ref 133] (rx_hp L t hi17 hl17 v17) Q
                      obtain ⟨j38, ej38, hj38, k⟩ := k
                      refine rx_aw_iast (pc := 209) (n := 3) j38 ej38 rfl rfl (by decide) rfl hj38 (by decide) ?_
                      show rx_aw 236 210 [.ref 90, .int x1, .int x2, .int x3, .int x4, .int (x5 / 5), .int ((x6 &&& 1) &&& 0), .int x7, .int (x5 - x5 / 5 * 5), .int 0, .int z17] [] (rx_hp L t (rx_u hi17 133 j38 (hi17 127 j37)) hl17 v17) Q
                      refine rx_aw_s 2 (pc := 210) rfl ?_
                      show rx_aw 236 36 [.ref 90, .int x1, .int x2, .int x3, .int x4, .int (x5 / 5), .int ((x6 &&& 1) &&& 0), .int (x7 + 1), .int (x5 - x5 / 5 * 5), .int 0, .int z17] [] (rx_hp L t (rx_u hi17 133 j38 (hi17 127 j37)) hl17 v17) Q
                      exact rx_aw_le (ls := [.ref 90, .int x1, .int x2, .int x3, .int x4, .int (x5 / 5), .int ((x6 &&& 1) &&& 0), .int (x7 + 1), rx_no, rx_no, rx_no]) ⟨Or.inr rfl, ⟨Or.inr rfl, ⟨Or.inr rfl, ⟨Or.inr rfl, ⟨Or.inr rfl, ⟨Or.inr rfl, ⟨Or.inr rfl, ⟨Or.inr rfl, ⟨Or.inl rfl, ⟨Or.inl rfl, ⟨Or.inl rfl, trivial⟩⟩⟩⟩⟩⟩⟩⟩⟩⟩⟩ k
                · have k := k.2 c29
                  show rx_aw 236 163 [.ref 90, .int x1, .int x2, .int x3, .int x4, .int (x5 / 5), .int (x6 &&& 1), .int x7, .int (x5 - x5 / 5 * 5), .int 0, .int z17] [.int (x6 &&& 1)] (rx_hp L t hi17 hl17 v17) Q
                  refine rx_aw_s 9 (pc := 163) rfl ?_
                  refine rx_w_if (c := z17 < 0) ⟨fun c39 => ?_, fun c39 => ?_⟩
                  · have k := k.1 c39
                    show rx_aw 236 202 [.ref 90, .int x1, .int x2, .int x3, .int x4, .int (x5 / 5), .int ((x6 &&& 1) &&& 1), .int x7, .int (x5 - x5 / 5 * 5), .int 0, .int z17] [.int x7, .ref 133] (rx_hp L t hi17 hl17 v17) Q
                    refine rx_aw_s 3 (pc := 202) rfl ?_
                    show rx_aw 236 208 [.ref 90, .int x1, .int x2, .int x3, .int x4, .int (x5 / 5), .int ((x6 &&& 1) &&& 1), .int x7, .int (x5 - x5 / 5 * 5), .int 0, .int z17] [.int x7, .ref 132, .int x7, .ref 133] (rx_hp L t hi17 hl17 v17) Q
                    obtain ⟨j40, ej40, hj40, k⟩ := k
                    refine rx_aw_iald (pc := 208) (n := 3) j40 ej40 rfl rfl rfl hj40 (by decide) ?_
                    show rx_aw 236 209 [.ref 90, .int x1, .int x2, .int x3, .int x4, .int (x5 / 5), .int ((x6 &&& 1) &&& 1), .int x7, .int (x5 - x5 / 5 * 5), .int 0, .int z17] [.int (hi17 132 j40), .int x7, .ref 133] (rx_hp L t hi17 hl17 v17) Q
                    obtain ⟨j41, ej41, hj41, k⟩ := k
                    refine rx_aw_iast (pc := 209) (n := 3) j41 ej41 rfl rfl (by decide) rfl hj41 (by decide) ?_
                    show rx_aw 236 210 [.ref 90, .int x1, .int x2, .int x3, .int x4, .int (x5 / 5), .int ((x6 &&& 1) &&& 1), .int x7, .int (x5 - x5 / 5 * 5), .int 0, .int z17] [] (rx_hp L t (rx_u hi17 133 j41 (hi17 132 j40)) hl17 v17) Q
                    refine rx_aw_s 2 (pc := 210) rfl ?_
                    show rx_aw 236 36 [.ref 90, .int x1, .int x2, .int x3, .int x4, .int (x5 / 5), .int ((x6 &&& 1) &&& 1), .int (x7 + 1), .int (x5 - x5 / 5 * 5), .int 0, .int z17] [] (rx_hp L t (rx_u hi17 133 j41 (hi17 132 j40)) hl17 v17) Q
                    exact rx_aw_le (ls := [.ref 90, .int x1, .int x2, .int x3, .int x4, .int (x5 / 5), .int ((x6 &&& 1) &&& 1), .int (x7 + 1), rx_no, rx_no, rx_no]) ⟨Or.inr rfl, ⟨Or.inr rfl, ⟨Or.inr rfl, ⟨Or.inr rfl, ⟨Or.inr rfl, ⟨Or.inr rfl, ⟨Or.inr rfl, ⟨Or.inr rfl, ⟨Or.inl rfl, ⟨Or.inl rfl, ⟨Or.inl rfl, trivial⟩⟩⟩⟩⟩⟩⟩⟩⟩⟩⟩ k
                  · have k := k.2 c39
                    show rx_aw 236 182 [.ref 90, .int x1, .int x2, .int x3, .int x4, .int (x5 / 5), .int ((x6 &&& 1) &&& 1), .int x7, .int (x5 - x5 / 5 * 5), .int 0, .int z17] [.int x7, .ref 133] (rx_hp L t hi17 hl17 v17) Q
                    refine rx_aw_s 3 (pc := 182) rfl ?_
                    show rx_aw 236 188 [.ref 90, .int x1, .int x2, .int x3, .int x4, .int (x5 / 5), .int ((x6 &&& 1) &&& 1), .int x7, .int (x5 - x5 / 5 * 5), .int 0, .int z17] [.int z17, .ref 127, .int x7, .ref 133] (rx_hp L t hi17 hl17 v17) Q
                    obtain ⟨j42, ej42, hj42, k⟩ := k
                    refine rx_aw_iald (pc := 188) (n := 64) j42 ej42 rfl rfl rfl hj42 (by decide) ?_
                    show rx_aw 236 189 [.ref 90, .int x1, .int x2, .int x3, .int x4, .int (x5 / 5), .int ((x6 &&& 1) &&& 1), .int x7, .int (x5 - x5 / 5 * 5), .int 0, .int z17] [.int (hi17 127 j42), .int x7, .ref 133] (rx_hp L t hi17 hl17 v17) Q
                    refine rx_aw_s 1 (pc := 189) rfl ?_
                    refine rx_w_if (c := (hi17 127 j42) < 0) ⟨fun c43 => ?_, fun c43 => ?_⟩
                    · have k := k.1 c43
                      show rx_aw 236 202 [.ref 90, .int x1, .int x2, .int x3, .int x4, .int (x5 / 5), .int ((x6 &&& 1) &&& 1), .int x7, .int (x5 - x5 / 5 * 5), .int 0, .int z17] [.int x7, .ref 133] (rx_hp L t hi17 hl17 v17) Q
                      refine rx_aw_s 3 (pc := 202) rfl ?_
                      show rx_aw 236 208 [.ref 90, .int x1, .int x2, .int x3, .int x4, .int (x5 / 5), .int ((x6 &&& 1) &&& 1), .int x7, .int (x5 - x5 / 5 * 5), .int 0, .int z17] [.int x7, .ref 132, .int x7, .ref 133] (rx_hp L t hi17 hl17 v17) Q
                      obtain ⟨j44, ej44, hj44, k⟩ := k
                      refine rx_aw_iald (pc := 208) (n := 3) j44 ej44 rfl rfl rfl hj44 (by decide) ?_
                      show rx_aw 236 209 [.ref 90, .int x1, .int x2, .int x3, .int x4, .int (x5 / 5), .int ((x6 &&& 1) &&& 1), .int x7, .int (x5 - x5 / 5 * 5), .int 0, .int z17] [.int (hi17 132 j44), .int x7, .ref 133] (rx_hp L t hi17 hl17 v17) Q
                      obtain ⟨j45, ej45, hj45, k⟩ := k
                      refine rx_aw_iast (pc := 209) (n := 3) j45 ej45 rfl rfl (by decide) rfl hj45 (by decide) ?_
                      show rx_aw 236 210 [.ref 90, .int x1, .int x2, .int x3, .int x4, .int (x5 / 5), .int ((x6 &&& 1) &&& 1), .int x7, .int (x5 - x5 / 5 * 5), .int 0, .int z17] [] (rx_hp L t (rx_u hi17 133 j45 (hi17 132 j44)) hl17 v17) Q
                      refine rx_aw_s 2 (pc := 210) rfl ?_
                      show rx_aw 236 36 [.ref 90, .int x1, .int x2, .int x3, .int x4, .int (x5 / 5), .int ((x6 &&& 1) &&& 1), .int (x7 + 1), .int (x5 - x5 / 5 * 5), .int 0, .int z17] [] (rx_hp L t (rx_u hi17 133 j45 (hi17 132 j44)) hl17 v17) Q
                      exact rx_aw_le (ls := [.ref 90, .int x1, .int x2, .int x3, .int x4, .int (x5 / 5), .int ((x6 &&& 1) &&& 1), .int (x7 + 1), rx_no, rx_no, rx_no]) ⟨Or.inr rfl, ⟨Or.inr rfl, ⟨Or.inr rfl, ⟨Or.inr rfl, ⟨Or.inr rfl, ⟨Or.inr rfl, ⟨Or.inr rfl, ⟨Or.inr rfl, ⟨Or.inl rfl, ⟨Or.inl rfl, ⟨Or.inl rfl, trivial⟩⟩⟩⟩⟩⟩⟩⟩⟩⟩⟩ k
                    · have k := k.2 c43
                      show rx_aw 236 192 [.ref 90, .int x1, .int x2, .int x3, .int x4, .int (x5 / 5), .int ((x6 &&& 1) &&& 1), .int x7, .int (x5 - x5 / 5 * 5), .int 0, .int z17] [.int x7, .ref 133] (rx_hp L t hi17 hl17 v17) Q
                      refine rx_aw_s 3 (pc := 192) rfl ?_
                      show rx_aw 236 198 [.ref 90, .int x1, .int x2, .int x3, .int x4, .int (x5 / 5), .int ((x6 &&& 1) &&& 1), .int x7, .int (x5 - x5 / 5 * 5), .int 0, .int z17] [.int z17, .ref 127, .int x7, .ref 133] (rx_hp L t hi17 hl17 v17) Q
                      obtain ⟨j46, ej46, hj46, k⟩ := k
                      refine rx_aw_iald (pc := 198) (n := 64) j46 ej46 rfl rfl rfl hj46 (by decide) ?_
                      show rx_aw 236 199 [.ref 90, .int x1, .int x2, .int x3, .int x4, .int (x5 / 5), .int ((x6 &&& 1) &&& 1), .int x7, .int (x5 - x5 / 5 * 5), .int 0, .int z17] [.int (hi17 127 j46), .int x7, .ref 133] (rx_hp L t hi17 hl17 v17) Q
                      refine rx_aw_s 1 (pc := 199) rfl ?_
                      show rx_aw 236 209 [.ref 90, .int x1, .int x2, .int x3, .int x4, .int (x5 / 5), .int ((x6 &&& 1) &&& 1), .int x7, .int (x5 - x5 / 5 * 5), .int 0, .int z17] [.int (hi17 127 j46), .int x7, .ref 133] (rx_hp L t hi17 hl17 v17) Q
                      obtain ⟨j47, ej47, hj47, k⟩ := k
                      refine rx_aw_iast (pc := 209) (n := 3) j47 ej47 rfl rfl (by decide) rfl hj47 (by decide) ?_
                      show rx_aw 236 210 [.ref 90, .int x1, .int x2, .int x3, .int x4, .int (x5 / 5), .int ((x6 &&& 1) &&& 1), .int x7, .int (x5 - x5 / 5 * 5), .int 0, .int z17] [] (rx_hp L t (rx_u hi17 133 j47 (hi17 127 j46)) hl17 v17) Q
                      refine rx_aw_s 2 (pc := 210) rfl ?_
                      show rx_aw 236 36 [.ref 90, .int x1, .int x2, .int x3, .int x4, .int (x5 / 5), .int ((x6 &&& 1) &&& 1), .int (x7 + 1), .int (x5 - x5 / 5 * 5), .int 0, .int z17] [] (rx_hp L t (rx_u hi17 133 j47 (hi17 127 j46)) hl17 v17) Q
                      exact rx_aw_le (ls := [.ref 90, .int x1, .int x2, .int x3, .int x4, .int (x5 / 5), .int ((x6 &&& 1) &&& 1), .int (x7 + 1), rx_no, rx_no, rx_no]) ⟨Or.inr rfl, ⟨Or.inr rfl, ⟨Or.inr rfl, ⟨Or.inr rfl, ⟨Or.inr rfl, ⟨Or.inr rfl, ⟨Or.inr rfl, ⟨Or.inr rfl, ⟨Or.inl rfl, ⟨Or.inl rfl, ⟨Or.inl rfl, trivial⟩⟩⟩⟩⟩⟩⟩⟩⟩⟩⟩ k
        · have k := k.2 c12
          show rx_aw 236 110 [.ref 90, .int x1, .int x2, .int x3, .int x4, .int (x5 / 5), .int x6, .int x7, .int (x5 - x5 / 5 * 5), .int 0, rx_no] [.int x6] (rx_hp L t (rx_u hi 133 j10 (hi 132 j9)) hl v) Q
          refine rx_aw_s 5 (pc := 110) rfl ?_
          refine rx_w_if (c := 0 = 0) ⟨fun c48 => ?_, fun c48 => ?_⟩
          · have k := k.1 c48
            show rx_aw 236 210 [.ref 90, .int x1, .int x2, .int x3, .int x4, .int (x5 / 5), .int (x6 &&& 0), .int x7, .int (x5 - x5 / 5 * 5), .int 0, rx_no] [] (rx_hp L t (rx_u hi 133 j10 (hi 132 j9)) hl v) Q
            refine rx_aw_s 2 (pc := 210) rfl ?_
            show rx_aw 236 36 [.ref 90, .int x1, .int x2, .int x3, .int x4, .int (x5 / 5), .int (x6 &&& 0), .int (x7 + 1), .int (x5 - x5 / 5 * 5), .int 0, rx_no] [] (rx_hp L t (rx_u hi 133 j10 (hi 132 j9)) hl v) Q
            exact rx_aw_le (ls := [.ref 90, .int x1, .int x2, .int x3, .int x4, .int (x5 / 5), .int (x6 &&& 0), .int (x7 + 1), rx_no, rx_no, rx_no]) ⟨Or.inr rfl, ⟨Or.inr rfl, ⟨Or.inr rfl, ⟨Or.inr rfl, ⟨Or.inr rfl, ⟨Or.inr rfl, ⟨Or.inr rfl, ⟨Or.inr rfl, ⟨Or.inl rfl, ⟨Or.inl rfl, ⟨Or.inl rfl, trivial⟩⟩⟩⟩⟩⟩⟩⟩⟩⟩⟩ k
          · have k := k.2 c48
            show rx_aw 236 119 [.ref 90, .int x1, .int x2, .int x3, .int x4, .int (x5 / 5), .int (x6 &&& 0), .int x7, .int (x5 - x5 / 5 * 5), .int 0, rx_no] [] (rx_hp L t (rx_u hi 133 j10 (hi 132 j9)) hl v) Q
            refine rx_aw_s 2 (pc := 119) rfl ?_
            refine rx_w_if (c := (x5 - x5 / 5 * 5) ≤ 0) ⟨fun c49 => ?_, fun c49 => ?_⟩
            · have k := k.1 c49
              show rx_aw 236 210 [.ref 90, .int x1, .int x2, .int x3, .int x4, .int (x5 / 5), .int (x6 &&& 0), .int x7, .int (x5 - x5 / 5 * 5), .int 0, rx_no] [] (rx_hp L t (rx_u hi 133 j10 (hi 132 j9)) hl v) Q
              refine rx_aw_s 2 (pc := 210) rfl ?_
              show rx_aw 236 36 [.ref 90, .int x1, .int x2, .int x3, .int x4, .int (x5 / 5), .int (x6 &&& 0), .int (x7 + 1), .int (x5 - x5 / 5 * 5), .int 0, rx_no] [] (rx_hp L t (rx_u hi 133 j10 (hi 132 j9)) hl v) Q
              exact rx_aw_le (ls := [.ref 90, .int x1, .int x2, .int x3, .int x4, .int (x5 / 5), .int (x6 &&& 0), .int (x7 + 1), rx_no, rx_no, rx_no]) ⟨Or.inr rfl, ⟨Or.inr rfl, ⟨Or.inr rfl, ⟨Or.inr rfl, ⟨Or.inr rfl, ⟨Or.inr rfl, ⟨Or.inr rfl, ⟨Or.inr rfl, ⟨Or.inl rfl, ⟨Or.inl rfl, ⟨Or.inl rfl, trivial⟩⟩⟩⟩⟩⟩⟩⟩⟩⟩⟩ k
            · have k := k.2 c49
              show rx_aw 236 124 [.ref 90, .int x1, .int x2, .int x3, .int x4, .int (x5 / 5), .int (x6 &&& 0), .int x7, .int (x5 - x5 / 5 * 5), .int 0, rx_no] [] (rx_hp L t (rx_u hi 133 j10 (hi 132 j9)) hl v) Q
              refine rx_aw_s 6 (pc := 124) rfl ?_
              show rx_aw 236 135 [.ref 90, .int x1, .int x2, .int x3, .int x4, .int (x5 / 5), .int (x6 &&& 0), .int x7, .int (x5 - x5 / 5 * 5), .int 0, rx_no] [.int x7, .ref 132, .ref 126, .ref 90] (rx_hp L t (rx_u hi 133 j10 (hi 132 j9)) hl v) Q
              obtain ⟨j50, ej50, hj50, k⟩ := k
              refine rx_aw_iald (pc := 135) (n := 3) j50 ej50 rfl rfl rfl hj50 (by decide) ?_
              show rx_aw 236 136 [.ref 90, .int x1, .int x2, .int x3, .int x4, .int (x5 / 5), .int (x6 &&& 0), .int x7, .int (x5 - x5 / 5 * 5), .int 0, rx_no] [.int ((rx_u hi 133 j10 (hi 132 j9)) 132 j50), .ref 126, .ref 90] (rx_hp L t (rx_u hi 133 j10 (hi 132 j9)) hl v) Q
              obtain ⟨j51, ej51, hj51, k⟩ := k
              refine rx_aw_iald (pc := 136) (n := 20) j51 ej51 rfl rfl rfl hj51 (by decide) ?_
              show rx_aw 236 137 [.ref 90, .int x1, .int x2, .int x3, .int x4, .int (x5 / 5), .int (x6 &&& 0), .int x7, .int (x5 - x5 / 5 * 5), .int 0, rx_no] [.int ((rx_u hi 133 j10 (hi 132 j9)) 126 j51), .ref 90] (rx_hp L t (rx_u hi 133 j10 (hi 132 j9)) hl v) Q
              refine rx_aw_s 3 (pc := 137) rfl ?_
              show rx_aw 236 141 [.ref 90, .int x1, .int x2, .int x3, .int x4, .int (x5 / 5), .int (x6 &&& 0), .int x7, .int (x5 - x5 / 5 * 5), .int 0, rx_no] [.int ((x5 - x5 / 5 * 5) - 1), .int ((rx_u hi 133 j10 (hi 132 j9)) 126 j51), .ref 90] (rx_hp L t (rx_u hi 133 j10 (hi 132 j9)) hl v) Q
              refine rx_w_callI (j := 181) (pc := 141) rfl rfl rfl rfl rfl ?_
              refine rx_aw.mono k (fun r h2 k => ?_)
              obtain ⟨z52, rfl, hi52, hl52, v52, rfl, k⟩ := k
              refine ⟨z52, rfl, ?_⟩
              show rx_aw 236 144 [.ref 90, .int x1, .int x2, .int x3, .int x4, .int (x5 / 5), .int (x6 &&& 0), .int x7, .int (x5 - x5 / 5 * 5), .int 0, rx_no] [.int z52] (rx_hp L t hi52 hl52 v52) Q
              refine rx_aw_s 4 (pc := 144) rfl ?_
              refine rx_w_if (c := z52 < 0) ⟨fun c53 => ?_, fun c53 => ?_⟩
              · have k := k.1 c53
                show rx_aw 236 167 [.ref 90, .int x1, .int x2, .int x3, .int x4, .int (x5 / 5), .int (x6 &&& 0), .int x7, .int (x5 - x5 / 5 * 5), .int 0, .int z52] [.int (x6 &&& 0)] (rx_hp L t hi52 hl52 v52) Q
                refine rx_aw_s 8 (pc := 167) rfl ?_
                refine rx_w_if (c := z52 < 0) ⟨fun c54 => ?_, fun c54 => ?_⟩
                · have k := k.1 c54
                  show rx_aw 236 202 [.ref 90, .int x1, .int x2, .int x3, .int x4, .int (x5 / 5), .int ((x6 &&& 0) &&& 0), .int x7, .int (x5 - x5 / 5 * 5), .int 0, .int z52] [.int x7, .ref 133] (rx_hp L t hi52 hl52 v52) Q
                  refine rx_aw_s 3 (pc := 202) rfl ?_
                  show rx_aw 236 208 [.ref 90, .int x1, .int x2, .int x3, .int x4, .int (x5 / 5), .int ((x6 &&& 0) &&& 0), .int x7, .int (x5 - x5 / 5 * 5), .int 0, .int z52] [.int x7, .ref 132, .int x7, .ref 133] (rx_hp L t hi52 hl52 v52) Q
                  obtain ⟨j55, ej55, hj55, k⟩ := k
                  refine rx_aw_iald (pc := 208) (n := 3) j55 ej55 rfl rfl rfl hj55 (by decide) ?_
                  show rx_aw 236 209 [.ref 90, .int x1, .int x2, .int x3, .int x4, .int (x5 / 5), .int ((x6 &&& 0) &&& 0), .int x7, .int (x5 - x5 / 5 * 5), .int 0, .int z52] [.int (hi52 132 j55), .int x7, .ref 133] (rx_hp L t hi52 hl52 v52) Q
                  obtain ⟨j56, ej56, hj56, k⟩ := k
                  refine rx_aw_iast (pc := 209) (n := 3) j56 ej56 rfl rfl (by decide) rfl hj56 (by decide) ?_
                  show rx_aw 236 210 [.ref 90, .int x1, .int x2, .int x3, .int x4, .int (x5 / 5), .int ((x6 &&& 0) &&& 0), .int x7, .int (x5 - x5 / 5 * 5), .int 0, .int z52] [] (rx_hp L t (rx_u hi52 133 j56 (hi52 132 j55)) hl52 v52) Q
                  refine rx_aw_s 2 (pc := 210) rfl ?_
                  show rx_aw 236 36 [.ref 90, .int x1, .int x2, .int x3, .int x4, .int (x5 / 5), .int ((x6 &&& 0) &&& 0), .int (x7 + 1), .int (x5 - x5 / 5 * 5), .int 0, .int z52] [] (rx_hp L t (rx_u hi52 133 j56 (hi52 132 j55)) hl52 v52) Q
                  exact rx_aw_le (ls := [.ref 90, .int x1, .int x2, .int x3, .int x4, .int (x5 / 5), .int ((x6 &&& 0) &&& 0), .int (x7 + 1), rx_no, rx_no, rx_no]) ⟨Or.inr rfl, ⟨Or.inr rfl, ⟨Or.inr rfl, ⟨Or.inr rfl, ⟨Or.inr rfl, ⟨Or.inr rfl, ⟨Or.inr rfl, ⟨Or.inr rfl, ⟨Or.inl rfl, ⟨Or.inl rfl, ⟨Or.inl rfl, trivial⟩⟩⟩⟩⟩⟩⟩⟩⟩⟩⟩ k
                · have k := k.2 c54
                  show rx_aw 236 182 [.ref 90, .int x1, .int x2, .int x3, .int x4, .int (x5 / 5), .int ((x6 &&& 0) &&& 0), .int x7, .int (x5 - x5 / 5 * 5), .int 0, .int z52] [.int x7, .ref 133] (rx_hp L t hi52 hl52 v52) Q
                  refine rx_aw_s 3 (pc := 182) rfl ?_
                  show rx_aw 236 188 [.ref 90, .int x1, .int x2, .int x3, .int x4, .int (x5 / 5), .int ((x6 &&& 0) &&& 0), .int x7, .int (x5 - x5 / 5 * 5), .int 0, .int z52] [.int z52, .ref 127, .int x7, .ref 133] (rx_hp L t hi52 hl52 v52) Q
                  obtain ⟨j57, ej57, hj57, k⟩ := k
                  refine rx_aw_iald (pc := 188) (n := 64) j57 ej57 rfl rfl rfl hj57 (by decide) ?_
                  show rx_aw 236 189 [.ref 90, .int x1, .int x2, .int x3, .int x4, .int (x5 / 5), .int ((x6 &&& 0) &&& 0), .int x7, .int (x5 - x5 / 5 * 5), .int 0, .int z52] [.int (hi52 127 j57), .int x7, .ref 133] (rx_hp L t hi52 hl52 v52) Q
                  refine rx_aw_s 1 (pc := 189) rfl ?_
                  refine rx_w_if (c := (hi52 127 j57) < 0) ⟨fun c58 => ?_, fun c58 => ?_⟩
                  · have k := k.1 c58
                    show rx_aw 236 202 [.ref 90, .int x1, .int x2, .int x3, .int x4, .int (x5 / 5), .int ((x6 &&& 0) &&& 0), .int x7, .int (x5 - x5 / 5 * 5), .int 0, .int z52] [.int x7, .ref 133] (rx_hp L t hi52 hl52 v52) Q
                    refine rx_aw_s 3 (pc := 202) rfl ?_
                    show rx_aw 236 208 [.ref 90, .int x1, .int x2, .int x3, .int x4, .int (x5 / 5), .int ((x6 &&& 0) &&& 0), .int x7, .int (x5 - x5 / 5 * 5), .int 0, .int z52] [.int x7, .ref 132, .int x7, .ref 133] (rx_hp L t hi52 hl52 v52) Q
                    obtain ⟨j59, ej59, hj59, k⟩ := k
                    refine rx_aw_iald (pc := 208) (n := 3) j59 ej59 rfl rfl rfl hj59 (by decide) ?_
                    show rx_aw 236 209 [.ref 90, .int x1, .int x2, .int x3, .int x4, .int (x5 / 5), .int ((x6 &&& 0) &&& 0), .int x7, .int (x5 - x5 / 5 * 5), .int 0, .int z52] [.int (hi52 132 j59), .int x7, .ref 133] (rx_hp L t hi52 hl52 v52) Q
                    obtain ⟨j60, ej60, hj60, k⟩ := k
                    refine rx_aw_iast (pc := 209) (n := 3) j60 ej60 rfl rfl (by decide) rfl hj60 (by decide) ?_
                    show rx_aw 236 210 [.ref 90, .int x1, .int x2, .int x3, .int x4, .int (x5 / 5), .int ((x6 &&& 0) &&& 0), .int x7, .int (x5 - x5 / 5 * 5), .int 0, .int z52] [] (rx_hp L t (rx_u hi52 133 j60 (hi52 132 j59)) hl52 v52) Q
                    refine rx_aw_s 2 (pc := 210) rfl ?_
                    show rx_aw 236 36 [.ref 90, .int x1, .int x2, .int x3, .int x4, .int (x5 / 5), .int ((x6 &&& 0) &&& 0), .int (x7 + 1), .int (x5 - x5 / 5 * 5), .int 0, .int z52] [] (rx_hp L t (rx_u hi52 133 j60 (hi52 132 j59)) hl52 v52) Q
                    exact rx_aw_le (ls := [.ref 90, .int x1, .int x2, .int x3, .int x4, .int (x5 / 5), .int ((x6 &&& 0) &&& 0), .int (x7 + 1), rx_no, rx_no, rx_no]) ⟨Or.inr rfl, ⟨Or.inr rfl, ⟨Or.inr rfl, ⟨Or.inr rfl, ⟨Or.inr rfl, ⟨Or.inr rfl, ⟨Or.inr rfl, ⟨Or.inr rfl, ⟨Or.inl rfl, ⟨Or.inl rfl, ⟨Or.inl rfl, trivial⟩⟩⟩⟩⟩⟩⟩⟩⟩⟩⟩ k
                  · have k := k.2 c58
                    show rx_aw 236 192 [.ref 90, .int x1, .int x2, .int x3, .int x4, .int (x5 / 5), .int ((x6 &&& 0) &&& 0), .int x7, .int (x5 - x5 / 5 * 5), .int 0, .int z52] [.int x7, .ref 133] (rx_hp L t hi52 hl52 v52) Q
                    refine rx_aw_s 3 (pc := 192) rfl ?_
                    show rx_aw 236 198 [.ref 90, .int x1, .int x2, .int x3, .int x4, .int (x5 / 5), .int ((x6 &&& 0) &&& 0), .int x7, .int (x5 - x5 / 5 * 5), .int 0, .int z52] [.int z52, .ref 127, .int x7, .ref 133] (rx_hp L t hi52 hl52 v52) Q
                    obtain ⟨j61, ej61, hj61, k⟩ := k
                    refine rx_aw_iald (pc := 198) (n := 64) j61 ej61 rfl rfl rfl hj61 (by decide) ?_
                    show rx_aw 236 199 [.ref 90, .int x1, .int x2, .int x3, .int x4, .int (x5 / 5), .int ((x6 &&& 0) &&& 0), .int x7, .int (x5 - x5 / 5 * 5), .int 0, .int z52] [.int (hi52 127 j61), .int x7, .ref 133] (rx_hp L t hi52 hl52 v52) Q
                    refine rx_aw_s 1 (pc := 199) rfl ?_
                    show rx_aw 236 209 [.ref 90, .int x1, .int x2, .int x3, .int x4, .int (x5 / 5), .int ((x6 &&& 0) &&& 0), .int x7, .int (x5 - x5 / 5 * 5), .int 0, .int z52] [.int (hi52 127 j61), .int x7, .ref 133] (rx_hp L t hi52 hl52 v52) Q
                    obtain ⟨j62, ej62, hj62, k⟩ := k
                    refine rx_aw_iast (pc := 209) (n := 3) j62 ej62 rfl rfl (by decide) rfl hj62 (by decide) ?_
                    show rx_aw 236 210 [.ref 90, .int x1, .int x2, .int x3, .int x4, .int (x5 / 5), .int ((x6 &&& 0) &&& 0), .int x7, .int (x5 - x5 / 5 * 5), .int 0, .int z52] [] (rx_hp L t (rx_u hi52 133 j62 (hi52 127 j61)) hl52 v52) Q
                    refine rx_aw_s 2 (pc := 210) rfl ?_
                    show rx_aw 236 36 [.ref 90, .int x1, .int x2, .int x3, .int x4, .int (x5 / 5), .int ((x6 &&& 0) &&& 0), .int (x7 + 1), .int (x5 - x5 / 5 * 5), .int 0, .int z52] [] (rx_hp L t (rx_u hi52 133 j62 (hi52 127 j61)) hl52 v52) Q
                    exact rx_aw_le (ls := [.ref 90, .int x1, .int x2, .int x3, .int x4, .int (x5 / 5), .int ((x6 &&& 0) &&& 0), .int (x7 + 1), rx_no, rx_no, rx_no]) ⟨Or.inr rfl, ⟨Or.inr rfl, ⟨Or.inr rfl, ⟨Or.inr rfl, ⟨Or.inr rfl, ⟨Or.inr rfl, ⟨Or.inr rfl, ⟨Or.inr rfl, ⟨Or.inl rfl, ⟨Or.inl rfl, ⟨Or.inl rfl, trivial⟩⟩⟩⟩⟩⟩⟩⟩⟩⟩⟩ k
              · have k := k.2 c53
                show rx_aw 236 153 [.ref 90, .int x1, .int x2, .int x3, .int x4, .int (x5 / 5), .int (x6 &&& 0), .int x7, .int (x5 - x5 / 5 * 5), .int 0, .int z52] [.int (x6 &&& 0)] (rx_hp L t hi52 hl52 v52) Q
                refine rx_aw_s 3 (pc := 153) rfl ?_
                show rx_aw 236 159 [.ref 90, .int x1, .int x2, .int x3, .int x4, .int (x5 / 5), .int (x6 &&& 0), .int x7, .int (x5 - x5 / 5 * 5), .int 0, .int z52] [.int z52, .ref 127, .int (x6 &&& 0)] (rx_hp L t hi52 hl52 v52) Q
                obtain ⟨j63, ej63, hj63, k⟩ := k
                refine rx_aw_iald (pc := 159) (n := 64) j63 ej63 rfl rfl rfl hj63 (by decide) ?_
                show rx_aw 236 160 [.ref 90, .int x1, .int x2, .int x3, .int x4, .int (x5 / 5), .int (x6 &&& 0), .int x7, .int (x5 - x5 / 5 * 5), .int 0, .int z52] [.int (hi52 127 j63), .int (x6 &&& 0)] (rx_hp L t hi52 hl52 v52) Q
                refine rx_aw_s 1 (pc := 160) rfl ?_
                refine rx_w_if (c := (hi52 127 j63) < 0) ⟨fun c64 => ?_, fun c64 => ?_⟩
                · have k := k.1 c64
                  show rx_aw 236 167 [.ref 90, .int x1, .int x2, .int x3, .int x4, .int (x5 / 5), .int (x6 &&& 0), .int x7, .int (x5 - x5 / 5 * 5), .int 0, .int z52] [.int (x6 &&& 0)] (rx_hp L t hi52 hl52 v52) Q
                  refine rx_aw_s 8 (pc := 167) rfl ?_
                  refine rx_w_if (c := z52 < 0) ⟨fun c65 => ?_, fun c65 => ?_⟩
                  · have k := k.1 c65
                    show rx_aw 236 202 [.ref 90, .int x1, .int x2, .int x3, .int x4, .int (x5 / 5), .int ((x6 &&& 0) &&& 0), .int x7, .int (x5 - x5 / 5 * 5), .int 0, .int z52] [.int x7, .ref 133] (rx_hp L t hi52 hl52 v52) Q
                    refine rx_aw_s 3 (pc := 202) rfl ?_
                    show rx_aw 236 208 [.ref 90, .int x1, .int x2, .int x3, .int x4, .int (x5 / 5), .int ((x6 &&& 0) &&& 0), .int x7, .int (x5 - x5 / 5 * 5), .int 0, .int z52] [.int x7, .ref 132, .int x7, .ref 133] (rx_hp L t hi52 hl52 v52) Q
                    obtain ⟨j66, ej66, hj66, k⟩ := k
                    refine rx_aw_iald (pc := 208) (n := 3) j66 ej66 rfl rfl rfl hj66 (by decide) ?_
                    show rx_aw 236 209 [.ref 90, .int x1, .int x2, .int x3, .int x4, .int (x5 / 5), .int ((x6 &&& 0) &&& 0), .int x7, .int (x5 - x5 / 5 * 5), .int 0, .int z52] [.int (hi52 132 j66), .int x7, .ref 133] (rx_hp L t hi52 hl52 v52) Q
                    obtain ⟨j67, ej67, hj67, k⟩ := k
                    refine rx_aw_iast (pc := 209) (n := 3) j67 ej67 rfl rfl (by decide) rfl hj67 (by decide) ?_
                    show rx_aw 236 210 [.ref 90, .int x1, .int x2, .int x3, .int x4, .int (x5 / 5), .int ((x6 &&& 0) &&& 0), .int x7, .int (x5 - x5 / 5 * 5), .int 0, .int z52] [] (rx_hp L t (rx_u hi52 133 j67 (hi52 132 j66)) hl52 v52) Q
                    refine rx_aw_s 2 (pc := 210) rfl ?_
                    show rx_aw 236 36 [.ref 90, .int x1, .int x2, .int x3, .int x4, .int (x5 / 5), .int ((x6 &&& 0) &&& 0), .int (x7 + 1), .int (x5 - x5 / 5 * 5), .int 0, .int z52] [] (rx_hp L t (rx_u hi52 133 j67 (hi52 132 j66)) hl52 v52) Q
                    exact rx_aw_le (ls := [.ref 90, .int x1, .int x2, .int x3, .int x4, .int (x5 / 5), .int ((x6 &&& 0) &&& 0), .int (x7 + 1), rx_no, rx_no, rx_no]) ⟨Or.inr rfl, ⟨Or.inr rfl, ⟨Or.inr rfl, ⟨Or.inr rfl, ⟨Or.inr rfl, ⟨Or.inr rfl, ⟨Or.inr rfl, ⟨Or.inr rfl, ⟨Or.inl rfl, ⟨Or.inl rfl, ⟨Or.inl rfl, trivial⟩⟩⟩⟩⟩⟩⟩⟩⟩⟩⟩ k
                  · have k := k.2 c65
                    show rx_aw 236 182 [.ref 90, .int x1, .int x2, .int x3, .int x4, .int (x5 / 5), .int ((x6 &&& 0) &&& 0), .int x7, .int (x5 - x5 / 5 * 5), .int 0, .int z52] [.int x7, .ref 133] (rx_hp L t hi52 hl52 v52) Q
                    refine rx_aw_s 3 (pc := 182) rfl ?_
                    show rx_aw 236 188 [.ref 90, .int x1, .int x2, .int x3, .int x4, .int (x5 / 5), .int ((x6 &&& 0) &&& 0), .int x7, .int (x5 - x5 / 5 * 5), .int 0, .int z52] [.int z52, .ref 127, .int x7, .ref 133] (rx_hp L t hi52 hl52 v52) Q
                    obtain ⟨j68, ej68, hj68, k⟩ := k
                    refine rx_aw_iald (pc := 188) (n := 64) j68 ej68 rfl rfl rfl hj68 (by decide) ?_
                    show rx_aw 236 189 [.ref 90, .int x1, .int x2, .int x3, .int x4, .int (x5 / 5), .int ((x6 &&& 0) &&& 0), .int x7, .int (x5 - x5 / 5 * 5), .int 0, .int z52] [.int (hi52 127 j68), .int x7, .ref 133] (rx_hp L t hi52 hl52 v52) Q
                    refine rx_aw_s 1 (pc := 189) rfl ?_
                    refine rx_w_if (c := (hi52 127 j68) < 0) ⟨fun c69 => ?_, fun c69 => ?_⟩
                    · have k := k.1 c69
                      show rx_aw 236 202 [.ref 90, .int x1, .int x2, .int x3, .int x4, .int (x5 / 5), .int ((x6 &&& 0) &&& 0), .int x7, .int (x5 - x5 / 5 * 5), .int 0, .int z52] [.int x7, .ref 133] (rx_hp L t hi52 hl52 v52) Q
                      refine rx_aw_s 3 (pc := 202) rfl ?_
                      show rx_aw 236 208 [.ref 90, .int x1, .int x2, .int x3, .int x4, .int (x5 / 5), .int ((x6 &&& 0) &&& 0), .int x7, .int (x5 - x5 / 5 * 5), .int 0, .int z52] [.int x7, .ref 132, .int x7, .ref 133] (rx_hp L t hi52 hl52 v52) Q
                      obtain ⟨j70, ej70, hj70, k⟩ := k
                      refine rx_aw_iald (pc := 208) (n := 3) j70 ej70 rfl rfl rfl hj70 (by decide) ?_
                      show rx_aw 236 209 [.ref 90, .int x1, .int x2, .int x3, .int x4, .int (x5 / 5), .int ((x6 &&& 0) &&& 0), .int x7, .int (x5 - x5 / 5 * 5), .int 0, .int z52] [.int (hi52 132 j70), .int x7, .ref 133] (rx_hp L t hi52 hl52 v52) Q
                      obtain ⟨j71, ej71, hj71, k⟩ := k
                      refine rx_aw_iast (pc := 209) (n := 3) j71 ej71 rfl rfl (by decide) rfl hj71 (by decide) ?_
                      show rx_aw 236 210 [.ref 90, .int x1, .int x2, .int x3, .int x4, .int (x5 / 5), .int ((x6 &&& 0) &&& 0), .int x7, .int (x5 - x5 / 5 * 5), .int 0, .int z52] [] (rx_hp L t (rx_u hi52 133 j71 (hi52 132 j70)) hl52 v52) Q
                      refine rx_aw_s 2 (pc := 210) rfl ?_
                      show rx_aw 236 36 [.ref 90, .int x1, .int x2, .int x3, .int x4, .int (x5 / 5), .int ((x6 &&& 0) &&& 0), .int (x7 + 1), .int (x5 - x5 / 5 * 5), .int 0, .int z52] [] (rx_hp L t (rx_u hi52 133 j71 (hi52 132 j70)) hl52 v52) Q
                      exact rx_aw_le (ls := [.ref 90, .int x1, .int x2, .int x3, .int x4, .int (x5 / 5), .int ((x6 &&& 0) &&& 0), .int (x7 + 1), rx_no, rx_no, rx_no]) ⟨Or.inr rfl, ⟨Or.inr rfl, ⟨Or.inr rfl, ⟨Or.inr rfl, ⟨Or.inr rfl, ⟨Or.inr rfl, ⟨Or.inr rfl, ⟨Or.inr rfl, ⟨Or.inl rfl, ⟨Or.inl rfl, ⟨Or.inl rfl, trivial⟩⟩⟩⟩⟩⟩⟩⟩⟩⟩⟩ k
                    · have k := k.2 c69
                      show rx_aw 236 192 [.ref 90, .int x1, .int x2, .int x3, .int x4, .int (x5 / 5), .int ((x6 &&& 0) &&& 0), .int x7, .int (x5 - x5 / 5 * 5), .int 0, .int z52] [.int x7, .ref 133] (rx_hp L t hi52 hl52 v52) Q
                      refine rx_aw_s 3 (pc := 192) rfl ?_
                      show rx_aw 236 198 [.ref 90, .int x1, .int x2, .int x3, .int x4, .int (x5 / 5), .int ((x6 &&& 0) &&& 0), .int x7, .int (x5 - x5 / 5 * 5), .int 0, .int z52] [.int z52, .ref 127, .int x7, .ref 133] (rx_hp L t hi52 hl52 v52) Q
                      obtain ⟨j72, ej72, hj72, k⟩ := k
                      refine rx_aw_iald (pc := 198) (n := 64) j72 ej72 rfl rfl rfl hj72 (by decide) ?_
                      show rx_aw 236 199 [.ref 90, .int x1, .int x2, .int x3, .int x4, .int (x5 / 5), .int ((x6 &&& 0) &&& 0), .int x7, .int (x5 - x5 / 5 * 5), .int 0, .int z52] [.int (hi52 127 j72), .int x7, .ref 133] (rx_hp L t hi52 hl52 v52) Q
                      refine rx_aw_s 1 (pc := 199) rfl ?_
                      show rx_aw 236 209 [.ref 90, .int x1, .int x2, .int x3, .int x4, .int (x5 / 5), .int ((x6 &&& 0) &&& 0), .int x7, .int (x5 - x5 / 5 * 5), .int 0, .int z52] [.int (hi52 127 j72), .int x7, .ref 133] (rx_hp L t hi52 hl52 v52) Q
                      obtain ⟨j73, ej73, hj73, k⟩ := k
                      refine rx_aw_iast (pc := 209) (n := 3) j73 ej73 rfl rfl (by decide) rfl hj73 (by decide) ?_
                      show rx_aw 236 210 [.ref 90, .int x1, .int x2, .int x3, .int x4, .int (x5 / 5), .int ((x6 &&& 0) &&& 0), .int x7, .int (x5 - x5 / 5 * 5), .int 0, .int z52] [] (rx_hp L t (rx_u hi52 133 j73 (hi52 127 j72)) hl52 v52) Q
                      refine rx_aw_s 2 (pc := 210) rfl ?_
                      show rx_aw 236 36 [.ref 90, .int x1, .int x2, .int x3, .int x4, .int (x5 / 5), .int ((x6 &&& 0) &&& 0), .int (x7 + 1), .int (x5 - x5 / 5 * 5), .int 0, .int z52] [] (rx_hp L t (rx_u hi52 133 j73 (hi52 127 j72)) hl52 v52) Q
                      exact rx_aw_le (ls := [.ref 90, .int x1, .int x2, .int x3, .int x4, .int (x5 / 5), .int ((x6 &&& 0) &&& 0), .int (x7 + 1), rx_no, rx_no, rx_no]) ⟨Or.inr rfl, ⟨Or.inr rfl, ⟨Or.inr rfl, ⟨Or.inr rfl, ⟨Or.inr rfl, ⟨Or.inr rfl, ⟨Or.inr rfl, ⟨Or.inr rfl, ⟨Or.inl rfl, ⟨Or.inl rfl, ⟨Or.inl rfl, trivial⟩⟩⟩⟩⟩⟩⟩⟩⟩⟩⟩ k
                · have k := k.2 c64
                  show rx_aw 236 163 [.ref 90, .int x1, .int x2, .int x3, .int x4, .int (x5 / 5), .int (x6 &&& 0), .int x7, .int (x5 - x5 / 5 * 5), .int 0, .int z52] [.int (x6 &&& 0)] (rx_hp L t hi52 hl52 v52) Q
                  refine rx_aw_s 9 (pc := 163) rfl ?_
                  refine rx_w_if (c := z52 < 0) ⟨fun c74 => ?_, fun c74 => ?_⟩
                  · have k := k.1 c74
                    show rx_aw 236 202 [.ref 90, .int x1, .int x2, .int x3, .int x4, .int (x5 / 5), .int ((x6 &&& 0) &&& 1), .int x7, .int (x5 - x5 / 5 * 5), .int 0, .int z52] [.int x7, .ref 133] (rx_hp L t hi52 hl52 v52) Q
                    refine rx_aw_s 3 (pc := 202) rfl ?_
                    show rx_aw 236 208 [.ref 90, .int x1, .int x2, .int x3, .int x4, .int (x5 / 5), .int ((x6 &&& 0) &&& 1), .int x7, .int (x5 - x5 / 5 * 5), .int 0, .int z52] [.int x7, .ref 132, .int x7, .ref 133] (rx_hp L t hi52 hl52 v52) Q
                    obtain ⟨j75, ej75, hj75, k⟩ := k
                    refine rx_aw_iald (pc := 208) (n := 3) j75 ej75 rfl rfl rfl hj75 (by decide) ?_
                    show rx_aw 236 209 [.ref 90, .int x1, .int x2, .int x3, .int x4, .int (x5 / 5), .int ((x6 &&& 0) &&& 1), .int x7, .int (x5 - x5 / 5 * 5), .int 0, .int z52] [.int (hi52 132 j75), .int x7, .ref 133] (rx_hp L t hi52 hl52 v52) Q
                    obtain ⟨j76, ej76, hj76, k⟩ := k
                    refine rx_aw_iast (pc := 209) (n := 3) j76 ej76 rfl rfl (by decide) rfl hj76 (by decide) ?_
                    show rx_aw 236 210 [.ref 90, .int x1, .int x2, .int x3, .int x4, .int (x5 / 5), .int ((x6 &&& 0) &&& 1), .int x7, .int (x5 - x5 / 5 * 5), .int 0, .int z52] [] (rx_hp L t (rx_u hi52 133 j76 (hi52 132 j75)) hl52 v52) Q
                    refine rx_aw_s 2 (pc := 210) rfl ?_
                    show rx_aw 236 36 [.ref 90, .int x1, .int x2, .int x3, .int x4, .int (x5 / 5), .int ((x6 &&& 0) &&& 1), .int (x7 + 1), .int (x5 - x5 / 5 * 5), .int 0, .int z52] [] (rx_hp L t (rx_u hi52 133 j76 (hi52 132 j75)) hl52 v52) Q
                    exact rx_aw_le (ls := [.ref 90, .int x1, .int x2, .int x3, .int x4, .int (x5 / 5), .int ((x6 &&& 0) &&& 1), .int (x7 + 1), rx_no, rx_no, rx_no]) ⟨Or.inr rfl, ⟨Or.inr rfl, ⟨Or.inr rfl, ⟨Or.inr rfl, ⟨Or.inr rfl, ⟨Or.inr rfl, ⟨Or.inr rfl, ⟨Or.inr rfl, ⟨Or.inl rfl, ⟨Or.inl rfl, ⟨Or.inl rfl, trivial⟩⟩⟩⟩⟩⟩⟩⟩⟩⟩⟩ k
                  · have k := k.2 c74
                    show rx_aw 236 182 [.ref 90, .int x1, .int x2, .int x3, .int x4, .int (x5 / 5), .int ((x6 &&& 0) &&& 1), .int x7, .int (x5 - x5 / 5 * 5), .int 0, .int z52] [.int x7, .ref 133] (rx_hp L t hi52 hl52 v52) Q
                    refine rx_aw_s 3 (pc := 182) rfl ?_
                    show rx_aw 236 188 [.ref 90, .int x1, .int x2, .int x3, .int x4, .int (x5 / 5), .int ((x6 &&& 0) &&& 1), .int x7, .int (x5 - x5 / 5 * 5), .int 0, .int z52] [.int z52, .ref 127, .int x7, .ref 133] (rx_hp L t hi52 hl52 v52) Q
                    obtain ⟨j77, ej77, hj77, k⟩ := k
                    refine rx_aw_iald (pc := 188) (n := 64) j77 ej77 rfl rfl rfl hj77 (by decide) ?_
                    show rx_aw 236 189 [.ref 90, .int x1, .int x2, .int x3, .int x4, .int (x5 / 5), .int ((x6 &&& 0) &&& 1), .int x7, .int (x5 - x5 / 5 * 5), .int 0, .int z52] [.int (hi52 127 j77), .int x7, .ref 133] (rx_hp L t hi52 hl52 v52) Q
                    refine rx_aw_s 1 (pc := 189) rfl ?_
                    refine rx_w_if (c := (hi52 127 j77) < 0) ⟨fun c78 => ?_, fun c78 => ?_⟩
                    · have k := k.1 c78
                      show rx_aw 236 202 [.ref 90, .int x1, .int x2, .int x3, .int x4, .int (x5 / 5), .int ((x6 &&& 0) &&& 1), .int x7, .int (x5 - x5 / 5 * 5), .int 0, .int z52] [.int x7, .ref 133] (rx_hp L t hi52 hl52 v52) Q
                      refine rx_aw_s 3 (pc := 202) rfl ?_
                      show rx_aw 236 208 [.ref 90, .int x1, .int x2, .int x3, .int x4, .int (x5 / 5), .int ((x6 &&& 0) &&& 1), .int x7, .int (x5 - x5 / 5 * 5), .int 0, .int z52] [.int x7, .ref 132, .int x7, .ref 133] (rx_hp L t hi52 hl52 v52) Q
                      obtain ⟨j79, ej79, hj79, k⟩ := k
                      refine rx_aw_iald (pc := 208) (n := 3) j79 ej79 rfl rfl rfl hj79 (by decide) ?_
                      show rx_aw 236 209 [.ref 90, .int x1, .int x2, .int x3, .int x4, .int (x5 / 5), .int ((x6 &&& 0) &&& 1), .int x7, .int (x5 - x5 / 5 * 5), .int 0, .int z52] [.int (hi52 132 j79), .int x7, .ref 133] (rx_hp L t hi52 hl52 v52) Q
                      obtain ⟨j80, ej80, hj80, k⟩ := k
                      refine rx_aw_iast (pc := 209) (n := 3) j80 ej80 rfl rfl (by decide) rfl hj80 (by decide) ?_
                      show rx_aw 236 210 [.ref 90, .int x1, .int x2, .int x3, .int x4, .int (x5 / 5), .int ((x6 &&& 0) &&& 1), .int x7, .int (x5 - x5 / 5 * 5), .int 0, .int z52] [] (rx_hp L t (rx_u hi52 133 j80 (hi52 132 j79)) hl52 v52) Q
                      refine rx_aw_s 2 (pc := 210) rfl ?_
                      show rx_aw 236 36 [.ref 90, .int x1, .int x2, .int x3, .int x4, .int (x5 / 5), .int ((x6 &&& 0) &&& 1), .int (x7 + 1), .int (x5 - x5 / 5 * 5), .int 0, .int z52] [] (rx_hp L t (rx_u hi52 133 j80 (hi52 132 j79)) hl52 v52) Q
                      exact rx_aw_le (ls := [.ref 90, .int x1, .int x2, .int x3, .int x4, .int (x5 / 5), .int ((x6 &&& 0) &&& 1), .int (x7 + 1), rx_no, rx_no, rx_no]) ⟨Or.inr rfl, ⟨Or.inr rfl, ⟨Or.inr rfl, ⟨Or.inr rfl, ⟨Or.inr rfl, ⟨Or.inr rfl, ⟨Or.inr rfl, ⟨Or.inr rfl, ⟨Or.inl rfl, ⟨Or.inl rfl, ⟨Or.inl rfl, trivial⟩⟩⟩⟩⟩⟩⟩⟩⟩⟩⟩ k
                    · have k := k.2 c78
                      show rx_aw 236 192 [.ref 90, .int x1, .int x2, .int x3, .int x4, .int (x5 / 5), .int ((x6 &&& 0) &&& 1), .int x7, .int (x5 - x5 / 5 * 5), .int 0, .int z52] [.int x7, .ref 133] (rx_hp L t hi52 hl52 v52) Q
                      refine rx_aw_s 3 (pc := 192) rfl ?_
                      show rx_aw 236 198 [.ref 90, .int x1, .int x2, .int x3, .int x4, .int (x5 / 5), .int ((x6 &&& 0) &&& 1), .int x7, .int (x5 - x5 / 5 * 5), .int 0, .int z52] [.int z52, .ref 127, .int x7, .ref 133] (rx_hp L t hi52 hl52 v52) Q
                      obtain ⟨j81, ej81, hj81, k⟩ := k
                      refine rx_aw_iald (pc := 198) (n := 64) j81 ej81 rfl rfl rfl hj81 (by decide) ?_
                      show rx_aw 236 199 [.ref 90, .int x1, .int x2, .int x3, .int x4, .int (x5 / 5), .int ((x6 &&& 0) &&& 1), .int x7, .int (x5 - x5 / 5 * 5), .int 0, .int z52] [.int (hi52 127 j81), .int x7, .ref 133] (rx_hp L t hi52 hl52 v52) Q
                      refine rx_aw_s 1 (pc := 199) rfl ?_
                      show rx_aw 236 209 [.ref 90, .int x1, .int x2, .int x3, .int x4, .int (x5 / 5), .int ((x6 &&& 0) &&& 1), .int x7, .int (x5 - x5 / 5 * 5), .int 0, .int z52] [.int (hi52 127 j81), .int x7, .ref 133] (rx_hp L t hi52 hl52 v52) Q
                      obtain ⟨j82, ej82, hj82, k⟩ := k
                      refine rx_aw_iast (pc := 209) (n := 3) j82 ej82 rfl rfl (by decide) rfl hj82 (by decide) ?_
                      show rx_aw 236 210 [.ref 90, .int x1, .int x2, .int x3, .int x4, .int (x5 / 5), .int ((x6 &&& 0) &&& 1), .int x7, .int (x5 - x5 / 5 * 5), .int 0, .int z52] [] (rx_hp L t (rx_u hi52 133 j82 (hi52 127 j81)) hl52 v52) Q
                      refine rx_aw_s 2 (pc := 210) rfl ?_
                      show rx_aw 236 36 [.ref 90, .int x1, .int x2, .int x3, .int x4, .int (x5 / 5), .int ((x6 &&& 0) &&& 1), .int (x7 + 1), .int (x5 - x5 / 5 * 5), .int 0, .int z52] [] (rx_hp L t (rx_u hi52 133 j82 (hi52 127 j81)) hl52 v52) Q
                      exact rx_aw_le (ls := [.ref 90, .int x1, .int x2, .int x3, .int x4, .int (x5 / 5), .int ((x6 &&& 0) &&& 1), .int (x7 + 1), rx_no, rx_no, rx_no]) ⟨Or.inr rfl, ⟨Or.inr rfl, ⟨Or.inr rfl, ⟨Or.inr rfl, ⟨Or.inr rfl, ⟨Or.inr rfl, ⟨Or.inr rfl, ⟨Or.inr rfl, ⟨Or.inl rfl, ⟨Or.inl rfl, ⟨Or.inl rfl, trivial⟩⟩⟩⟩⟩⟩⟩⟩⟩⟩⟩ k
      · have k := k.2 c11
        show rx_aw 236 106 [.ref 90, .int x1, .int x2, .int x3, .int x4, .int (x5 / 5), .int x6, .int x7, .int (x5 - x5 / 5 * 5), .int 0, rx_no] [.int x6] (rx_hp L t (rx_u hi 133 j10 (hi 132 j9)) hl v) Q
        refine rx_aw_s 6 (pc := 106) rfl ?_
        refine rx_w_if (c := 0 = 0) ⟨fun c83 => ?_, fun c83 => ?_⟩
        · have k := k.1 c83
          show rx_aw 236 210 [.ref 90, .int x1, .int x2, .int x3, .int x4, .int (x5 / 5), .int (x6 &&& 1), .int x7, .int (x5 - x5 / 5 * 5), .int 0, rx_no] [] (rx_hp L t (rx_u hi 133 j10 (hi 132 j9)) hl v) Q
          refine rx_aw_s 2 (pc := 210) rfl ?_
          show rx_aw 236 36 [.ref 90, .int x1, .int x2, .int x3, .int x4, .int (x5 / 5), .int (x6 &&& 1), .int (x7 + 1), .int (x5 - x5 / 5 * 5), .int 0, rx_no] [] (rx_hp L t (rx_u hi 133 j10 (hi 132 j9)) hl v) Q
          exact rx_aw_le (ls := [.ref 90, .int x1, .int x2, .int x3, .int x4, .int (x5 / 5), .int (x6 &&& 1), .int (x7 + 1), rx_no, rx_no, rx_no]) ⟨Or.inr rfl, ⟨Or.inr rfl, ⟨Or.inr rfl, ⟨Or.inr rfl, ⟨Or.inr rfl, ⟨Or.inr rfl, ⟨Or.inr rfl, ⟨Or.inr rfl, ⟨Or.inl rfl, ⟨Or.inl rfl, ⟨Or.inl rfl, trivial⟩⟩⟩⟩⟩⟩⟩⟩⟩⟩⟩ k
        · have k := k.2 c83
          show rx_aw 236 119 [.ref 90, .int x1, .int x2, .int x3, .int x4, .int (x5 / 5), .int (x6 &&& 1), .int x7, .int (x5 - x5 / 5 * 5), .int 0, rx_no] [] (rx_hp L t (rx_u hi 133 j10 (hi 132 j9)) hl v) Q
          refine rx_aw_s 2 (pc := 119) rfl ?_
          refine rx_w_if (c := (x5 - x5 / 5 * 5) ≤ 0) ⟨fun c84 => ?_, fun c84 => ?_⟩
          · have k := k.1 c84
            show rx_aw 236 210 [.ref 90, .int x1, .int x2, .int x3, .int x4, .int (x5 / 5), .int (x6 &&& 1), .int x7, .int (x5 - x5 / 5 * 5), .int 0, rx_no] [] (rx_hp L t (rx_u hi 133 j10 (hi 132 j9)) hl v) Q
            refine rx_aw_s 2 (pc := 210) rfl ?_
            show rx_aw 236 36 [.ref 90, .int x1, .int x2, .int x3, .int x4, .int (x5 / 5), .int (x6 &&& 1), .int (x7 + 1), .int (x5 - x5 / 5 * 5), .int 0, rx_no] [] (rx_hp L t (rx_u hi 133 j10 (hi 132 j9)) hl v) Q
            exact rx_aw_le (ls := [.ref 90, .int x1, .int x2, .int x3, .int x4, .int (x5 / 5), .int (x6 &&& 1), .int (x7 + 1), rx_no, rx_no, rx_no]) ⟨Or.inr rfl, ⟨Or.inr rfl, ⟨Or.inr rfl, ⟨Or.inr rfl, ⟨Or.inr rfl, ⟨Or.inr rfl, ⟨Or.inr rfl, ⟨Or.inr rfl, ⟨Or.inl rfl, ⟨Or.inl rfl, ⟨Or.inl rfl, trivial⟩⟩⟩⟩⟩⟩⟩⟩⟩⟩⟩ k
          · have k := k.2 c84
            show rx_aw 236 124 [.ref 90, .int x1, .int x2, .int x3, .int x4, .int (x5 / 5), .int (x6 &&& 1), .int x7, .int (x5 - x5 / 5 * 5), .int 0, rx_no] [] (rx_hp L t (rx_u hi 133 j10 (hi 132 j9)) hl v) Q
            refine rx_aw_s 6 (pc := 124) rfl ?_
            show rx_aw 236 135 [.ref 90, .int x1, .int x2, .int x3, .int x4, .int (x5 / 5), .int (x6 &&& 1), .int x7, .int (x5 - x5 / 5 * 5), .int 0, rx_no] [.int x7, .ref 132, .ref 126, .ref 90] (rx_hp L t (rx_u hi 133 j10 (hi 132 j9)) hl v) Q
            obtain ⟨j85, ej85, hj85, k⟩ := k
            refine rx_aw_iald (pc := 135) (n := 3) j85 ej85 rfl rfl rfl hj85 (by decide) ?_
            show rx_aw 236 136 [.ref 90, .int x1, .int x2, .int x3, .int x4, .int (x5 / 5), .int (x6 &&& 1), .int x7, .int (x5 - x5 / 5 * 5), .int 0, rx_no] [.int ((rx_u hi 133 j10 (hi 132 j9)) 132 j85), .ref 126, .ref 90] (rx_hp L t (rx_u hi 133 j10 (hi 132 j9)) hl v) Q
            obtain ⟨j86, ej86, hj86, k⟩ := k
            refine rx_aw_iald (pc := 136) (n := 20) j86 ej86 rfl rfl rfl hj86 (by decide) ?_
            show rx_aw 236 137 [.ref 90, .int x1, .int x2, .int x3, .int x4, .int (x5 / 5), .int (x6 &&& 1), .int x7, .int (x5 - x5 / 5 * 5), .int 0, rx_no] [.int ((rx_u hi 133 j10 (hi 132 j9)) 126 j86), .ref 90] (rx_hp L t (rx_u hi 133 j10 (hi 132 j9)) hl v) Q
            refine rx_aw_s 3 (pc := 137) rfl ?_
            show rx_aw 236 141 [.ref 90, .int x1, .int x2, .int x3, .int x4, .int (x5 / 5), .int (x6 &&& 1), .int x7, .int (x5 - x5 / 5 * 5), .int 0, rx_no] [.int ((x5 - x5 / 5 * 5) - 1), .int ((rx_u hi 133 j10 (hi 132 j9)) 126 j86), .ref 90] (rx_hp L t (rx_u hi 133 j10 (hi 132 j9)) hl v) Q
            refine rx_w_callI (j := 181) (pc := 141) rfl rfl rfl rfl rfl ?_
            refine rx_aw.mono k (fun r h2 k => ?_)
            obtain ⟨z87, rfl, hi87, hl87, v87, rfl, k⟩ := k
            refine ⟨z87, rfl, ?_⟩
            show rx_aw 236 144 [.ref 90, .int x1, .int x2, .int x3, .int x4, .int (x5 / 5), .int (x6 &&& 1), .int x7, .int (x5 - x5 / 5 * 5), .int 0, rx_no] [.int z87] (rx_hp L t hi87 hl87 v87) Q
            refine rx_aw_s 4 (pc := 144) rfl ?_
            refine rx_w_if (c := z87 < 0) ⟨fun c88 => ?_, fun c88 => ?_⟩
            · have k := k.1 c88
              show rx_aw 236 167 [.ref 90, .int x1, .int x2, .int x3, .int x4, .int (x5 / 5), .int (x6 &&& 1), .int x7, .int (x5 - x5 / 5 * 5), .int 0, .int z87] [.int (x6 &&& 1)] (rx_hp L t hi87 hl87 v87) Q
              refine rx_aw_s 8 (pc := 167) rfl ?_
              refine rx_w_if (c := z87 < 0) ⟨fun c89 => ?_, fun c89 => ?_⟩
              · have k := k.1 c89
                show rx_aw 236 202 [.ref 90, .int x1, .int x2, .int x3, .int x4, .int (x5 / 5), .int ((x6 &&& 1) &&& 0), .int x7, .int (x5 - x5 / 5 * 5), .int 0, .int z87] [.int x7, .ref 133] (rx_hp L t hi87 hl87 v87) Q
                refine rx_aw_s 3 (pc := 202) rfl ?_
                show rx_aw 236 208 [.ref 90, .int x1, .int x2, .int x3, .int x4, .int (x5 / 5), .int ((x6 &&& 1) &&& 0), .int x7, .int (x5 - x5 / 5 * 5), .int 0, .int z87] [.int x7, .ref 132, .int x7, .ref 133] (rx_hp L t hi87 hl87 v87) Q
                obtain ⟨j90, ej90, hj90, k⟩ := k
                refine rx_aw_iald (pc := 208) (n := 3) j90 ej90 rfl rfl rfl hj90 (by decide) ?_
                show rx_aw 236 209 [.ref 90, .int x1, .int x2, .int x3, .int x4, .int (x5 / 5), .int ((x6 &&& 1) &&& 0), .int x7, .int (x5 - x5 / 5 * 5), .int 0, .int z87] [.int (hi87 132 j90), .int x7, .ref 133] (rx_hp L t hi87 hl87 v87) Q
                obtain ⟨j91, ej91, hj91, k⟩ := k
                refine rx_aw_iast (pc := 209) (n := 3) j91 ej91 rfl rfl (by decide) rfl hj91 (by decide) ?_
                show rx_aw 236 210 [.ref 90, .int x1, .int x2, .int x3, .int x4, .int (x5 / 5), .int ((x6 &&& 1) &&& 0), .int x7, .int (x5 - x5 / 5 * 5), .int 0, .int z87] [] (rx_hp L t (rx_u hi87 133 j91 (hi87 132 j90)) hl87 v87) Q
                refine rx_aw_s 2 (pc := 210) rfl ?_
                show rx_aw 236 36 [.ref 90, .int x1, .int x2, .int x3, .int x4, .int (x5 / 5), .int ((x6 &&& 1) &&& 0), .int (x7 + 1), .int (x5 - x5 / 5 * 5), .int 0, .int z87] [] (rx_hp L t (rx_u hi87 133 j91 (hi87 132 j90)) hl87 v87) Q
                exact rx_aw_le (ls := [.ref 90, .int x1, .int x2, .int x3, .int x4, .int (x5 / 5), .int ((x6 &&& 1) &&& 0), .int (x7 + 1), rx_no, rx_no, rx_no]) ⟨Or.inr rfl, ⟨Or.inr rfl, ⟨Or.inr rfl, ⟨Or.inr rfl, ⟨Or.inr rfl, ⟨Or.inr rfl, ⟨Or.inr rfl, ⟨Or.inr rfl, ⟨Or.inl rfl, ⟨Or.inl rfl, ⟨Or.inl rfl, trivial⟩⟩⟩⟩⟩⟩⟩⟩⟩⟩⟩ k
              · have k := k.2 c89
                show rx_aw 236 182 [.ref 90, .int x1, .int x2, .int x3, .int x4, .int (x5 / 5), .int ((x6 &&& 1) &&& 0), .int x7, .int (x5 - x5 / 5 * 5), .int 0, .int z87] [.int x7, .ref 133] (rx_hp L t hi87 hl87 v87) Q
                refine rx_aw_s 3 (pc := 182) rfl ?_
                show rx_aw 236 188 [.ref 90, .int x1, .int x2, .int x3, .int x4, .int (x5 / 5), .int ((x6 &&& 1) &&& 0), .int x7, .int (x5 - x5 / 5 * 5), .int 0, .int z87] [.int z87, .ref 127, .int x7, .ref 133] (rx_hp L t hi87 hl87 v87) Q
                obtain ⟨j92, ej92, hj92, k⟩ := k
                refine rx_aw_iald (pc := 188) (n := 64) j92 ej92 rfl rfl rfl hj92 (by decide) ?_
                show rx_aw 236 189 [.ref 90, .int x1, .int x2, .int x3, .int x4, .int (x5 / 5), .int ((x6 &&& 1) &&& 0), .int x7, .int (x5 - x5 / 5 * 5), .int 0, .int z87] [.int (hi87 127 j92), .int x7, .ref 133] (rx_hp L t hi87 hl87 v87) Q
                refine rx_aw_s 1 (pc := 189) rfl ?_
                refine rx_w_if (c := (hi87 127 j92) < 0) ⟨fun c93 => ?_, fun c93 => ?_⟩
                · have k := k.1 c93
                  show rx_aw 236 202 [.ref 90, .int x1, .int x2, .int x3, .int x4, .int (x5 / 5), .int ((x6 &&& 1) &&& 0), .int x7, .int (x5 - x5 / 5 * 5), .int 0, .int z87] [.int x7, .ref 133] (rx_hp L t hi87 hl87 v87) Q
                  refine rx_aw_s 3 (pc := 202) rfl ?_
                  show rx_aw 236 208 [.ref 90, .int x1, .int x2, .int x3, .int x4, .int (x5 / 5), .int ((x6 &&& 1) &&& 0), .int x7, .int (x5 - x5 / 5 * 5), .int 0, .int z87] [.int x7, .ref 132, .int x7, .ref 133] (rx_hp L t hi87 hl87 v87) Q
                  obtain ⟨j94, ej94, hj94, k⟩ := k
                  refine rx_aw_iald (pc := 208) (n := 3) j94 ej94 rfl rfl rfl hj94 (by decide) ?_
                  show rx_aw 236 209 [.ref 90, .int x1, .int x2, .int x3, .int x4, .int (x5 / 5), .int ((x6 &&& 1) &&& 0), .int x7, .int (x5 - x5 / 5 * 5), .int 0, .int z87] [.int (hi87 132 j94), .int x7, .ref 133] (rx_hp L t hi87 hl87 v87) Q
                  obtain ⟨j95, ej95, hj95, k⟩ := k
                  refine rx_aw_iast (pc := 209) (n := 3) j95 ej95 rfl rfl (by decide) rfl hj95 (by decide) ?_
                  show rx_aw 236 210 [.ref 90, .int x1, .int x2, .int x3, .int x4, .int (x5 / 5), .int ((x6 &&& 1) &&& 0), .int x7, .int (x5 - x5 / 5 * 5), .int 0, .int z87] [] (rx_hp L t (rx_u hi87 133 j95 (hi87 132 j94)) hl87 v87) Q
                  refine rx_aw_s 2 (pc := 210) rfl ?_
                  show rx_aw 236 36 [.ref 90, .int x1, .int x2, .int x3, .int x4, .int (x5 / 5), .int ((x6 &&& 1) &&& 0), .int (x7 + 1), .int (x5 - x5 / 5 * 5), .int 0, .int z87] [] (rx_hp L t (rx_u hi87 133 j95 (hi87 132 j94)) hl87 v87) Q
                  exact rx_aw_le (ls := [.ref 90, .int x1, .int x2, .int x3, .int x4, .int (x5 / 5), .int ((x6 &&& 1) &&& 0), .int (x7 + 1), rx_no, rx_no, rx_no]) ⟨Or.inr rfl, ⟨Or.inr rfl, ⟨Or.inr rfl, ⟨Or.inr rfl, ⟨Or.inr rfl, ⟨Or.inr rfl, ⟨Or.inr rfl, ⟨Or.inr rfl, ⟨Or.inl rfl, ⟨Or.inl rfl, ⟨Or.inl rfl, trivial⟩⟩⟩⟩⟩⟩⟩⟩⟩⟩⟩ k
                · have k := k.2 c93
                  show rx_aw 236 192 [.ref 90, .int x1, .int x2, .int x3, .int x4, .int (x5 / 5), .int ((x6 &&& 1) &&& 0), .int x7, .int (x5 - x5 / 5 * 5), .int 0, .int z87] [.int x7, .ref 133] (rx_hp L t hi87 hl87 v87) Q
                  refine rx_aw_s 3 (pc := 192) rfl ?_
                  show rx_aw 236 198 [.ref 90, .int x1, .int x2, .int x3, .int x4, .int (x5 / 5), .int ((x6 &&& 1) &&& 0), .int x7, .int (x5 - x5 / 5 * 5), .int 0, .int z87] [.int z87, .ref 127, .int x7, .ref 133] (rx_hp L t hi87 hl87 v87) Q
                  obtain ⟨j96, ej96, hj96, k⟩ := k
                  refine rx_aw_iald (pc := 198) (n := 64) j96 ej96 rfl rfl rfl hj96 (by decide) ?_
                  show rx_aw 236 199 [.ref 90, .int x1, .int x2, .int x3, .int x4, .int (x5 / 5), .int ((x6 &&& 1) &&& 0), .int x7, .int (x5 - x5 / 5 * 5), .int 0, .int z87] [.int (hi87 127 j96), .int x7, .ref 133] (rx_hp L t hi87 hl87 v87) Q
                  refine rx_aw_s 1 (pc := 199) rfl ?_
                  show rx_aw 236 209 [.ref 90, .int x1, .int x2, .int x3, .int x4, .int (x5 / 5), .int ((x6 &&& 1) &&& 0), .int x7, .int (x5 - x5 / 5 * 5), .int 0, .int z87] [.int (hi87 127 j96), .int x7, .ref 133] (rx_hp L t hi87 hl87 v87) Q
                  obtain ⟨j97, ej97, hj97, k⟩ := k
                  refine rx_aw_iast (pc := 209) (n := 3) j97 ej97 rfl rfl (by decide) rfl hj97 (by decide) ?_
                  show rx_aw 236 210 [.ref 90, .int x1, .int x2, .int x3, .int x4, .int (x5 / 5), .int ((x6 &&& 1) &&& 0), .int x7, .int (x5 - x5 / 5 * 5), .int 0, .int z87] [] (rx_hp L t (rx_u hi87 133 j97 (hi87 127 j96)) hl87 v87) Q
                  refine rx_aw_s 2 (pc := 210) rfl ?_
                  show rx_aw 236 36 [.ref 90, .int x1, .int x2, .int x3, .int x4, .int (x5 / 5), .int ((x6 &&& 1) &&& 0), .int (x7 + 1), .int (x5 - x5 / 5 * 5), .int 0, .int z87] [] (rx_hp L t (rx_u hi87 133 j97 (hi87 127 j96)) hl87 v87) Q
                  exact rx_aw_le (ls := [.ref 90, .int x1, .int x2, .int x3, .int x4, .int (x5 / 5), .int ((x6 &&& 1) &&& 0), .int (x7 + 1), rx_no, rx_no, rx_no]) ⟨Or.inr rfl, ⟨Or.inr rfl, ⟨Or.inr rfl, ⟨Or.inr rfl, ⟨Or.inr rfl, ⟨Or.inr rfl, ⟨Or.inr rfl, ⟨Or.inr rfl, ⟨Or.inl rfl, ⟨Or.inl rfl, ⟨Or.inl rfl, trivial⟩⟩⟩⟩⟩⟩⟩⟩⟩⟩⟩ k
            · have k := k.2 c88
              show rx_aw 236 153 [.ref 90, .int x1, .int x2, .int x3, .int x4, .int (x5 / 5), .int (x6 &&& 1), .int x7, .int (x5 - x5 / 5 * 5), .int 0, .int z87] [.int (x6 &&& 1)] (rx_hp L t hi87 hl87 v87) Q
              refine rx_aw_s 3 (pc := 153) rfl ?_
              show rx_aw 236 159 [.ref 90, .int x1, .int x2, .int x3, .int x4, .int (x5 / 5), .int (x6 &&& 1), .int x7, .int (x5 - x5 / 5 * 5), .int 0, .int z87] [.int z87, .ref 127, .int (x6 &&& 1)] (rx_hp L t hi87 hl87 v87) Q
              obtain ⟨j98, ej98, hj98, k⟩ := k
              refine rx_aw_iald (pc := 159) (n := 64) j98 ej98 rfl rfl rfl hj98 (by decide) ?_
              show rx_aw 236 160 [.ref 90, .int x1, .int x2, .int x3, .int x4, .int (x5 / 5), .int (x6 &&& 1), .int x7, .int (x5 - x5 / 5 * 5), .int 0, .int z87] [.int (hi87 127 j98), .int (x6 &&& 1)] (rx_hp L t hi87 hl87 v87) Q
              refine rx_aw_s 1 (pc := 160) rfl ?_
              refine rx_w_if (c := (hi87 127 j98) < 0) ⟨fun c99 => ?_, fun c99 => ?_⟩
              · have k := k.1 c99
                show rx_aw 236 167 [.ref 90, .int x1, .int x2, .int x3, .int x4, .int (x5 / 5), .int (x6 &&& 1), .int x7, .int (x5 - x5 / 5 * 5), .int 0, .int z87] [.int (x6 &&& 1)] (rx_hp L t hi87 hl87 v87) Q
                refine rx_aw_s 8 (pc := 167) rfl ?_
                refine rx_w_if (c := z87 < 0) ⟨fun c100 => ?_, fun c100 => ?_⟩
                · have k := k.1 c100
                  show rx_aw 236 202 [.ref 90, .int x1, .int x2, .int x3, .int x4, .int (x5 / 5), .int ((x6 &&& 1) &&& 0), .int x7, .int (x5 - x5 / 5 * 5), .int 0, .int z87] [.int x7, .ref 133] (rx_hp L t hi87 hl87 v87) Q
                  refine rx_aw_s 3 (pc := 202) rfl ?_
                  show rx_aw 236 208 [.ref 90, .int x1, .int x2, .int x3, .int x4, .int (x5 / 5), .int ((x6 &&& 1) &&& 0), .int x7, .int (x5 - x5 / 5 * 5), .int 0, .int z87] [.int x7, .ref 132, .int x7, .ref 133] (rx_hp L t hi87 hl87 v87) Q
                  obtain ⟨j101, ej101, hj101, k⟩ := k
                  refine rx_aw_iald (pc := 208) (n := 3) j101 ej101 rfl rfl rfl hj101 (by decide) ?_
                  show rx_aw 236 209 [.ref 90, .int x1, .int x2, .int x3, .int x4, .int (x5 / 5), .int ((x6 &&& 1) &&& 0), .int x7, .int (x5 - x5 / 5 * 5), .int 0, .int z87] [.int (hi87 132 j101), .int x7, .ref 133] (rx_hp L t hi87 hl87 v87) Q
                  obtain ⟨j102, ej102, hj102, k⟩ := k
                  refine rx_aw_iast (pc := 209) (n := 3) j102 ej102 rfl rfl (by decide) rfl hj102 (by decide) ?_
                  show rx_aw 236 210 [.ref 90, .int x1, .int x2, .int x3, .int x4, .int (x5 / 5), .int ((x6 &&& 1) &&& 0), .int x7, .int (x5 - x5 / 5 * 5), .int 0, .int z87] [] (rx_hp L t (rx_u hi87 133 j102 (hi87 132 j101)) hl87 v87) Q
                  refine rx_aw_s 2 (pc := 210) rfl ?_
                  show rx_aw 236 36 [.ref 90, .int x1, .int x2, .int x3, .int x4, .int (x5 / 5), .int ((x6 &&& 1) &&& 0), .int (x7 + 1), .int (x5 - x5 / 5 * 5), .int 0, .int z87] [] (rx_hp L t (rx_u hi87 133 j102 (hi87 132 j101)) hl87 v87) Q
                  exact rx_aw_le (ls := [.ref 90, .int x1, .int x2, .int x3, .int x4, .int (x5 / 5), .int ((x6 &&& 1) &&& 0), .int (x7 + 1), rx_no, rx_no, rx_no]) ⟨Or.inr rfl, ⟨Or.inr rfl, ⟨Or.inr rfl, ⟨Or.inr rfl, ⟨Or.inr rfl, ⟨Or.inr rfl, ⟨Or.inr rfl, ⟨Or.inr rfl, ⟨Or.inl rfl, ⟨Or.inl rfl, ⟨Or.inl rfl, trivial⟩⟩⟩⟩⟩⟩⟩⟩⟩⟩⟩ k
                · have k := k.2 c100
                  show rx_aw 236 182 [.ref 90, .int x1, .int x2, .int x3, .int x4, .int (x5 / 5), .int ((x6 &&& 1) &&& 0), .int x7, .int (x5 - x5 / 5 * 5), .int 0, .int z87] [.int x7, .ref 133] (rx_hp L t hi87 hl87 v87) Q
                  refine rx_aw_s 3 (pc := 182) rfl ?_
                  show rx_aw 236 188 [.ref 90, .int x1, .int x2, .int x3, .int x4, .int (x5 / 5), .int ((x6 &&& 1) &&& 0), .int x7, .int (x5 - x5 / 5 * 5), .int 0, .int z87] [.int z87, .ref 127, .int x7, .ref 133] (rx_hp L t hi87 hl87 v87) Q
                  obtain ⟨j103, ej103, hj103, k⟩ := k
                  refine rx_aw_iald (pc := 188) (n := 64) j103 ej103 rfl rfl rfl hj103 (by decide) ?_
                  show rx_aw 236 189 [.ref 90, .int x1, .int x2, .int x3, .int x4, .int (x5 / 5), .int ((x6 &&& 1) &&& 0), .int x7, .int (x5 - x5 / 5 * 5), .int 0, .int z87] [.int (hi87 127 j103), .int x7, .ref 133] (rx_hp L t hi87 hl87 v87) Q
                  refine rx_aw_s 1 (pc := 189) rfl ?_
                  refine rx_w_if (c := (hi87 127 j103) < 0) ⟨fun c104 => ?_, fun c104 => ?_⟩
                  · have k := k.1 c104
                    show rx_aw 236 202 [.ref 90, .int x1, .int x2, .int x3, .int x4, .int (x5 / 5), .int ((x6 &&& 1) &&& 0), .int x7, .int (x5 - x5 / 5 * 5), .int 0, .int z87] [.int x7, .ref 133] (rx_hp L t hi87 hl87 v87) Q
                    refine rx_aw_s 3 (pc := 202) rfl ?_
                    show rx_aw 236 208 [.ref 90, .int x1, .int x2, .int x3, .int x4, .int (x5 / 5), .int ((x6 &&& 1) &&& 0), .int x7, .int (x5 - x5 / 5 * 5), .int 0, .int z87] [.int x7, .ref 132, .int x7, .ref 133] (rx_hp L t hi87 hl87 v87) Q
                    obtain ⟨j105, ej105, hj105, k⟩ := k
                    refine rx_aw_iald (pc := 208) (n := 3) j105 ej105 rfl rfl rfl hj105 (by decide) ?_
                    show rx_aw 236 209 [.ref 90, .int x1, .int x2, .int x3, .int x4, .int (x5 / 5), .int ((x6 &&& 1) &&& 0), .int x7, .int (x5 - x5 / 5 * 5), .int 0, .int z87] [.int (hi87 132 j105), .int x7, .ref 133] (rx_hp L t hi87 hl87 v87) Q
                    obtain ⟨j106, ej106, hj106, k⟩ := k
                    refine rx_aw_iast (pc := 209) (n := 3) j106 ej106 rfl rfl (by decide) rfl hj106 (by decide) ?_
                    show rx_aw 236 210 [.ref 90, .int x1, .int x2, .int x3, .int x4, .int (x5 / 5), .int ((x6 &&& 1) &&& 0), .int x7, .int (x5 - x5 / 5 * 5), .int 0, .int z87] [] (rx_hp L t (rx_u hi87 133 j106 (hi87 132 j105)) hl87 v87) Q
                    refine rx_aw_s 2 (pc := 210) rfl ?_
                    show rx_aw 236 36 [.ref 90, .int x1, .int x2, .int x3, .int x4, .int (x5 / 5), .int ((x6 &&& 1) &&& 0), .int (x7 + 1), .int (x5 - x5 / 5 * 5), .int 0, .int z87] [] (rx_hp L t (rx_u hi87 133 j106 (hi87 132 j105)) hl87 v87) Q
                    exact rx_aw_le (ls := [.ref 90, .int x1, .int x2, .int x3, .int x4, .int (x5 / 5), .int ((x6 &&& 1) &&& 0), .int (x7 + 1), rx_no, rx_no, rx_no]) ⟨Or.inr rfl, ⟨Or.inr rfl, ⟨Or.inr rfl, ⟨Or.inr rfl, ⟨Or.inr rfl, ⟨Or.inr rfl, ⟨Or.inr rfl, ⟨Or.inr rfl, ⟨Or.inl rfl, ⟨Or.inl rfl, ⟨Or.inl rfl, trivial⟩⟩⟩⟩⟩⟩⟩⟩⟩⟩⟩ k
                  · have k := k.2 c104
                    show rx_aw 236 192 [.ref 90, .int x1, .int x2, .int x3, .int x4, .int (x5 / 5), .int ((x6 &&& 1) &&& 0), .int x7, .int (x5 - x5 / 5 * 5), .int 0, .int z87] [.int x7, .ref 133] (rx_hp L t hi87 hl87 v87) Q
                    refine rx_aw_s 3 (pc := 192) rfl ?_
                    show rx_aw 236 198 [.ref 90, .int x1, .int x2, .int x3, .int x4, .int (x5 / 5), .int ((x6 &&& 1) &&& 0), .int x7, .int (x5 - x5 / 5 * 5), .int 0, .int z87] [.int z87, .ref 127, .int x7, .ref 133] (rx_hp L t hi87 hl87 v87) Q
                    obtain ⟨j107, ej107, hj107, k⟩ := k
                    refine rx_aw_iald (pc := 198) (n := 64) j107 ej107 rfl rfl rfl hj107 (by decide) ?_
                    show rx_aw 236 199 [.ref 90, .int x1, .int x2, .int x3, .int x4, .int (x5 / 5), .int ((x6 &&& 1) &&& 0), .int x7, .int (x5 - x5 / 5 * 5), .int 0, .int z87] [.int (hi87 127 j107), .int x7, .ref 133] (rx_hp L t hi87 hl87 v87) Q
                    refine rx_aw_s 1 (pc := 199) rfl ?_
                    show rx_aw 236 209 [.ref 90, .int x1, .int x2, .int x3, .int x4, .int (x5 / 5), .int ((x6 &&& 1) &&& 0), .int x7, .int (x5 - x5 / 5 * 5), .int 0, .int z87] [.int (hi87 127 j107), .int x7, .ref 133] (rx_hp L t hi87 hl87 v87) Q
                    obtain ⟨j108, ej108, hj108, k⟩ := k
                    refine rx_aw_iast (pc := 209) (n := 3) j108 ej108 rfl rfl (by decide) rfl hj108 (by decide) ?_
                    show rx_aw 236 210 [.ref 90, .int x1, .int x2, .int x3, .int x4, .int (x5 / 5), .int ((x6 &&& 1) &&& 0), .int x7, .int (x5 - x5 / 5 * 5), .int 0, .int z87] [] (rx_hp L t (rx_u hi87 133 j108 (hi87 127 j107)) hl87 v87) Q
                    refine rx_aw_s 2 (pc := 210) rfl ?_
                    show rx_aw 236 36 [.ref 90, .int x1, .int x2, .int x3, .int x4, .int (x5 / 5), .int ((x6 &&& 1) &&& 0), .int (x7 + 1), .int (x5 - x5 / 5 * 5), .int 0, .int z87] [] (rx_hp L t (rx_u hi87 133 j108 (hi87 127 j107)) hl87 v87) Q
                    exact rx_aw_le (ls := [.ref 90, .int x1, .int x2, .int x3, .int x4, .int (x5 / 5), .int ((x6 &&& 1) &&& 0), .int (x7 + 1), rx_no, rx_no, rx_no]) ⟨Or.inr rfl, ⟨Or.inr rfl, ⟨Or.inr rfl, ⟨Or.inr rfl, ⟨Or.inr rfl, ⟨Or.inr rfl, ⟨Or.inr rfl, ⟨Or.inr rfl, ⟨Or.inl rfl, ⟨Or.inl rfl, ⟨Or.inl rfl, trivial⟩⟩⟩⟩⟩⟩⟩⟩⟩⟩⟩ k
              · have k := k.2 c99
                show rx_aw 236 163 [.ref 90, .int x1, .int x2, .int x3, .int x4, .int (x5 / 5), .int (x6 &&& 1), .int x7, .int (x5 - x5 / 5 * 5), .int 0, .int z87] [.int (x6 &&& 1)] (rx_hp L t hi87 hl87 v87) Q
                refine rx_aw_s 9 (pc := 163) rfl ?_
                refine rx_w_if (c := z87 < 0) ⟨fun c109 => ?_, fun c109 => ?_⟩
                · have k := k.1 c109
                  show rx_aw 236 202 [.ref 90, .int x1, .int x2, .int x3, .int x4, .int (x5 / 5), .int ((x6 &&& 1) &&& 1), .int x7, .int (x5 - x5 / 5 * 5), .int 0, .int z87] [.int x7, .ref 133] (rx_hp L t hi87 hl87 v87) Q
                  refine rx_aw_s 3 (pc := 202) rfl ?_
                  show rx_aw 236 208 [.ref 90, .int x1, .int x2, .int x3, .int x4, .int (x5 / 5), .int ((x6 &&& 1) &&& 1), .int x7, .int (x5 - x5 / 5 * 5), .int 0, .int z87] [.int x7, .ref 132, .int x7, .ref 133] (rx_hp L t hi87 hl87 v87) Q
                  obtain ⟨j110, ej110, hj110, k⟩ := k
                  refine rx_aw_iald (pc := 208) (n := 3) j110 ej110 rfl rfl rfl hj110 (by decide) ?_
                  show rx_aw 236 209 [.ref 90, .int x1, .int x2, .int x3, .int x4, .int (x5 / 5), .int ((x6 &&& 1) &&& 1), .int x7, .int (x5 - x5 / 5 * 5), .int 0, .int z87] [.int (hi87 132 j110), .int x7, .ref 133] (rx_hp L t hi87 hl87 v87) Q
                  obtain ⟨j111, ej111, hj111, k⟩ := k
                  refine rx_aw_iast (pc := 209) (n := 3) j111 ej111 rfl rfl (by decide) rfl hj111 (by decide) ?_
                  show rx_aw 236 210 [.ref 90, .int x1, .int x2, .int x3, .int x4, .int (x5 / 5), .int ((x6 &&& 1) &&& 1), .int x7, .int (x5 - x5 / 5 * 5), .int 0, .int z87] [] (rx_hp L t (rx_u hi87 133 j111 (hi87 132 j110)) hl87 v87) Q
                  refine rx_aw_s 2 (pc := 210) rfl ?_
                  show rx_aw 236 36 [.ref 90, .int x1, .int x2, .int x3, .int x4, .int (x5 / 5), .int ((x6 &&& 1) &&& 1), .int (x7 + 1), .int (x5 - x5 / 5 * 5), .int 0, .int z87] [] (rx_hp L t (rx_u hi87 133 j111 (hi87 132 j110)) hl87 v87) Q
                  exact rx_aw_le (ls := [.ref 90, .int x1, .int x2, .int x3, .int x4, .int (x5 / 5), .int ((x6 &&& 1) &&& 1), .int (x7 + 1), rx_no, rx_no, rx_no]) ⟨Or.inr rfl, ⟨Or.inr rfl, ⟨Or.inr rfl, ⟨Or.inr rfl, ⟨Or.inr rfl, ⟨Or.inr rfl, ⟨Or.inr rfl, ⟨Or.inr rfl, ⟨Or.inl rfl, ⟨Or.inl rfl, ⟨Or.inl rfl, trivial⟩⟩⟩⟩⟩⟩⟩⟩⟩⟩⟩ k
                · have k := k.2 c109
                  show rx_aw 236 182 [.ref 90, .int x1, .int x2, .int x3, .int x4, .int (x5 / 5), .int ((x6 &&& 1) &&& 1), .int x7, .int (x5 - x5 / 5 * 5), .int 0, .int z87] [.int x7, .ref 133] (rx_hp L t hi87 hl87 v87) Q
                  refine rx_aw_s 3 (pc := 182) rfl ?_
                  show rx_aw 236 188 [.ref 90, .int x1, .int x2, .int x3, .int x4, .int (x5 / 5), .int ((x6 &&& 1) &&& 1), .int x7, .int (x5 - x5 / 5 * 5), .int 0, .int z87] [.int z87, .ref 127, .int x7, .ref 133] (rx_hp L t hi87 hl87 v87) Q
                  obtain ⟨j112, ej112, hj112, k⟩ := k
                  refine rx_aw_iald (pc := 188) (n := 64) j112 ej112 rfl rfl rfl hj112 (by decide) ?_
                  show rx_aw 236 189 [.ref 90, .int x1, .int x2, .int x3, .int x4, .int (x5 / 5), .int ((x6 &&& 1) &&& 1), .int x7, .int (x5 - x5 / 5 * 5), .int 0, .int z87] [.int (hi87 127 j112), .int x7, .ref 133] (rx_hp L t hi87 hl87 v87) Q
                  refine rx_aw_s 1 (pc := 189) rfl ?_
                  refine rx_w_if (c := (hi87 127 j112) < 0) ⟨fun c113 => ?_, fun c113 => ?_⟩
                  · have k := k.1 c113
                    show rx_aw 236 202 [.ref 90, .int x1, .int x2, .int x3, .int x4, .int (x5 / 5), .int ((x6 &&& 1) &&& 1), .int x7, .int (x5 - x5 / 5 * 5), .int 0, .int z87] [.int x7, .ref 133] (rx_hp L t hi87 hl87 v87) Q
                    refine rx_aw_s 3 (pc := 202) rfl ?_
                    show rx_aw 236 208 [.ref 90, .int x1, .int x2, .int x3, .int x4, .int (x5 / 5), .int ((x6 &&& 1) &&& 1), .int x7, .int (x5 - x5 / 5 * 5), .int 0, .int z87] [.int x7, .ref 132, .int x7, .ref 133] (rx_hp L t hi87 hl87 v87) Q
                    obtain ⟨j114, ej114, hj114, k⟩ := k
                    refine rx_aw_iald (pc := 208) (n := 3) j114 ej114 rfl rfl rfl hj114 (by decide) ?_
                    show rx_aw 236 209 [.ref 90, .int x1, .int x2, .int x3, .int x4, .int (x5 / 5), .int ((x6 &&& 1) &&& 1), .int x7, .int (x5 - x5 / 5 * 5), .int 0, .int z87] [.int (hi87 132 j114), .int x7, .ref 133] (rx_hp L t hi87 hl87 v87) Q
                    obtain ⟨j115, ej115, hj115, k⟩ := k
                    refine rx_aw_iast (pc := 209) (n := 3) j115 ej115 rfl rfl (by decide) rfl hj115 (by decide) ?_
                    show rx_aw 236 210 [.ref 90, .int x1, .int x2, .int x3, .int x4, .int (x5 / 5), .int ((x6 &&& 1) &&& 1), .int x7, .int (x5 - x5 / 5 * 5), .int 0, .int z87] [] (rx_hp L t (rx_u hi87 133 j115 (hi87 132 j114)) hl87 v87) Q
                    refine rx_aw_s 2 (pc := 210) rfl ?_
                    show rx_aw 236 36 [.ref 90, .int x1, .int x2, .int x3, .int x4, .int (x5 / 5), .int ((x6 &&& 1) &&& 1), .int (x7 + 1), .int (x5 - x5 / 5 * 5), .int 0, .int z87] [] (rx_hp L t (rx_u hi87 133 j115 (hi87 132 j114)) hl87 v87) Q
                    exact rx_aw_le (ls := [.ref 90, .int x1, .int x2, .int x3, .int x4, .int (x5 / 5), .int ((x6 &&& 1) &&& 1), .int (x7 + 1), rx_no, rx_no, rx_no]) ⟨Or.inr rfl, ⟨Or.inr rfl, ⟨Or.inr rfl, ⟨Or.inr rfl, ⟨Or.inr rfl, ⟨Or.inr rfl, ⟨Or.inr rfl, ⟨Or.inr rfl, ⟨Or.inl rfl, ⟨Or.inl rfl, ⟨Or.inl rfl, trivial⟩⟩⟩⟩⟩⟩⟩⟩⟩⟩⟩ k
                  · have k := k.2 c113
                    show rx_aw 236 192 [.ref 90, .int x1, .int x2, .int x3, .int x4, .int (x5 / 5), .int ((x6 &&& 1) &&& 1), .int x7, .int (x5 - x5 / 5 * 5), .int 0, .int z87] [.int x7, .ref 133] (rx_hp L t hi87 hl87 v87) Q
                    refine rx_aw_s 3 (pc := 192) rfl ?_
                    show rx_aw 236 198 [.ref 90, .int x1, .int x2, .int x3, .int x4, .int (x5 / 5), .int ((x6 &&& 1) &&& 1), .int x7, .int (x5 - x5 / 5 * 5), .int 0, .int z87] [.int z87, .ref 127, .int x7, .ref 133] (rx_hp L t hi87 hl87 v87) Q
                    obtain ⟨j116, ej116, hj116, k⟩ := k
                    refine rx_aw_iald (pc := 198) (n := 64) j116 ej116 rfl rfl rfl hj116 (by decide) ?_
                    show rx_aw 236 199 [.ref 90, .int x1, .int x2, .int x3, .int x4, .int (x5 / 5), .int ((x6 &&& 1) &&& 1), .int x7, .int (x5 - x5 / 5 * 5), .int 0, .int z87] [.int (hi87 127 j116), .int x7, .ref 133] (rx_hp L t hi87 hl87 v87) Q
                    refine rx_aw_s 1 (pc := 199) rfl ?_
                    show rx_aw 236 209 [.ref 90, .int x1, .int x2, .int x3, .int x4, .int (x5 / 5), .int ((x6 &&& 1) &&& 1), .int x7, .int (x5 - x5 / 5 * 5), .int 0, .int z87] [.int (hi87 127 j116), .int x7, .ref 133] (rx_hp L t hi87 hl87 v87) Q
                    obtain ⟨j117, ej117, hj117, k⟩ := k
                    refine rx_aw_iast (pc := 209) (n := 3) j117 ej117 rfl rfl (by decide) rfl hj117 (by decide) ?_
                    show rx_aw 236 210 [.ref 90, .int x1, .int x2, .int x3, .int x4, .int (x5 / 5), .int ((x6 &&& 1) &&& 1), .int x7, .int (x5 - x5 / 5 * 5), .int 0, .int z87] [] (rx_hp L t (rx_u hi87 133 j117 (hi87 127 j116)) hl87 v87) Q
                    refine rx_aw_s 2 (pc := 210) rfl ?_
                    show rx_aw 236 36 [.ref 90, .int x1, .int x2, .int x3, .int x4, .int (x5 / 5), .int ((x6 &&& 1) &&& 1), .int (x7 + 1), .int (x5 - x5 / 5 * 5), .int 0, .int z87] [] (rx_hp L t (rx_u hi87 133 j117 (hi87 127 j116)) hl87 v87) Q
                    exact rx_aw_le (ls := [.ref 90, .int x1, .int x2, .int x3, .int x4, .int (x5 / 5), .int ((x6 &&& 1) &&& 1), .int (x7 + 1), rx_no, rx_no, rx_no]) ⟨Or.inr rfl, ⟨Or.inr rfl, ⟨Or.inr rfl, ⟨Or.inr rfl, ⟨Or.inr rfl, ⟨Or.inr rfl, ⟨Or.inr rfl, ⟨Or.inr rfl, ⟨Or.inl rfl, ⟨Or.inl rfl, ⟨Or.inl rfl, trivial⟩⟩⟩⟩⟩⟩⟩⟩⟩⟩⟩ k
    · have k := k.2 c8
      show rx_aw 236 63 [.ref 90, .int x1, .int x2, .int x3, .int x4, .int (x5 / 5), .int x6, .int x7, .int (x5 - x5 / 5 * 5), rx_no, rx_no] [] (rx_hp L t hi hl v) Q
      refine rx_aw_s 7 (pc := 63) rfl ?_
      refine rx_w_ifn (c := ((x1 >>> (x7 &&& 31)) &&& 1) = 1) ⟨fun c118 => ?_, fun c118 => ?_⟩
      · have k := k.1 c118
        show rx_aw 236 73 [.ref 90, .int x1, .int x2, .int x3, .int x4, .int (x5 / 5), .int x6, .int x7, .int (x5 - x5 / 5 * 5), rx_no, rx_no] [] (rx_hp L t hi hl v) Q
        refine rx_aw_s 9 (pc := 73) rfl ?_
        show rx_aw 236 92 [.ref 90, .int x1, .int x2, .int x3, .int x4, .int (x5 / 5), .int x6, .int x7, .int (x5 - x5 / 5 * 5), .int 1, rx_no] [.int x7, .ref 132, .int x7, .ref 133] (rx_hp L t hi hl v) Q
        obtain ⟨j119, ej119, hj119, k⟩ := k
        refine rx_aw_iald (pc := 92) (n := 3) j119 ej119 rfl rfl rfl hj119 (by decide) ?_
        show rx_aw 236 93 [.ref 90, .int x1, .int x2, .int x3, .int x4, .int (x5 / 5), .int x6, .int x7, .int (x5 - x5 / 5 * 5), .int 1, rx_no] [.int (hi 132 j119), .int x7, .ref 133] (rx_hp L t hi hl v) Q
        obtain ⟨j120, ej120, hj120, k⟩ := k
        refine rx_aw_iast (pc := 93) (n := 3) j120 ej120 rfl rfl (by decide) rfl hj120 (by decide) ?_
        show rx_aw 236 94 [.ref 90, .int x1, .int x2, .int x3, .int x4, .int (x5 / 5), .int x6, .int x7, .int (x5 - x5 / 5 * 5), .int 1, rx_no] [] (rx_hp L t (rx_u hi 133 j120 (hi 132 j119)) hl v) Q
        refine rx_aw_s 3 (pc := 94) rfl ?_
        refine rx_w_ifn (c := 1 = 0) ⟨fun c121 => ?_, fun c121 => ?_⟩
        · have k := k.1 c121
          show rx_aw 236 101 [.ref 90, .int x1, .int x2, .int x3, .int x4, .int (x5 / 5), .int x6, .int x7, .int (x5 - x5 / 5 * 5), .int 1, rx_no] [.int x6] (rx_hp L t (rx_u hi 133 j120 (hi 132 j119)) hl v) Q
          refine rx_aw_s 2 (pc := 101) rfl ?_
          refine rx_w_ifn (c := (x5 - x5 / 5 * 5) = 0) ⟨fun c122 => ?_, fun c122 => ?_⟩
          · have k := k.1 c122
            show rx_aw 236 106 [.ref 90, .int x1, .int x2, .int x3, .int x4, .int (x5 / 5), .int x6, .int x7, .int (x5 - x5 / 5 * 5), .int 1, rx_no] [.int x6] (rx_hp L t (rx_u hi 133 j120 (hi 132 j119)) hl v) Q
            refine rx_aw_s 6 (pc := 106) rfl ?_
            refine rx_w_if (c := 1 = 0) ⟨fun c123 => ?_, fun c123 => ?_⟩
            · have k := k.1 c123
              show rx_aw 236 210 [.ref 90, .int x1, .int x2, .int x3, .int x4, .int (x5 / 5), .int (x6 &&& 1), .int x7, .int (x5 - x5 / 5 * 5), .int 1, rx_no] [] (rx_hp L t (rx_u hi 133 j120 (hi 132 j119)) hl v) Q
              refine rx_aw_s 2 (pc := 210) rfl ?_
              show rx_aw 236 36 [.ref 90, .int x1, .int x2, .int x3, .int x4, .int (x5 / 5), .int (x6 &&& 1), .int (x7 + 1), .int (x5 - x5 / 5 * 5), .int 1, rx_no] [] (rx_hp L t (rx_u hi 133 j120 (hi 132 j119)) hl v) Q
              exact rx_aw_le (ls := [.ref 90, .int x1, .int x2, .int x3, .int x4, .int (x5 / 5), .int (x6 &&& 1), .int (x7 + 1), rx_no, rx_no, rx_no]) ⟨Or.inr rfl, ⟨Or.inr rfl, ⟨Or.inr rfl, ⟨Or.inr rfl, ⟨Or.inr rfl, ⟨Or.inr rfl, ⟨Or.inr rfl, ⟨Or.inr rfl, ⟨Or.inl rfl, ⟨Or.inl rfl, ⟨Or.inl rfl, trivial⟩⟩⟩⟩⟩⟩⟩⟩⟩⟩⟩ k
            · have k := k.2 c123
              show rx_aw 236 119 [.ref 90, .int x1, .int x2, .int x3, .int x4, .int (x5 / 5), .int (x6 &&& 1), .int x7, .int (x5 - x5 / 5 * 5), .int 1, rx_no] [] (rx_hp L t (rx_u hi 133 j120 (hi 132 j119)) hl v) Q
              refine rx_aw_s 2 (pc := 119) rfl ?_
              refine rx_w_if (c := (x5 - x5 / 5 * 5) ≤ 0) ⟨fun c124 => ?_, fun c124 => ?_⟩
              · have k := k.1 c124
                show rx_aw 236 210 [.ref 90, .int x1, .int x2, .int x3, .int x4, .int (x5 / 5), .int (x6 &&& 1), .int x7, .int (x5 - x5 / 5 * 5), .int 1, rx_no] [] (rx_hp L t (rx_u hi 133 j120 (hi 132 j119)) hl v) Q
                refine rx_aw_s 2 (pc := 210) rfl ?_
                show rx_aw 236 36 [.ref 90, .int x1, .int x2, .int x3, .int x4, .int (x5 / 5), .int (x6 &&& 1), .int (x7 + 1), .int (x5 - x5 / 5 * 5), .int 1, rx_no] [] (rx_hp L t (rx_u hi 133 j120 (hi 132 j119)) hl v) Q
                exact rx_aw_le (ls := [.ref 90, .int x1, .int x2, .int x3, .int x4, .int (x5 / 5), .int (x6 &&& 1), .int (x7 + 1), rx_no, rx_no, rx_no]) ⟨Or.inr rfl, ⟨Or.inr rfl, ⟨Or.inr rfl, ⟨Or.inr rfl, ⟨Or.inr rfl, ⟨Or.inr rfl, ⟨Or.inr rfl, ⟨Or.inr rfl, ⟨Or.inl rfl, ⟨Or.inl rfl, ⟨Or.inl rfl, trivial⟩⟩⟩⟩⟩⟩⟩⟩⟩⟩⟩ k
              · have k := k.2 c124
                show rx_aw 236 124 [.ref 90, .int x1, .int x2, .int x3, .int x4, .int (x5 / 5), .int (x6 &&& 1), .int x7, .int (x5 - x5 / 5 * 5), .int 1, rx_no] [] (rx_hp L t (rx_u hi 133 j120 (hi 132 j119)) hl v) Q
                refine rx_aw_s 6 (pc := 124) rfl ?_
                show rx_aw 236 135 [.ref 90, .int x1, .int x2, .int x3, .int x4, .int (x5 / 5), .int (x6 &&& 1), .int x7, .int (x5 - x5 / 5 * 5), .int 1, rx_no] [.int x7, .ref 132, .ref 126, .ref 90] (rx_hp L t (rx_u hi 133 j120 (hi 132 j119)) hl v) Q
                obtain ⟨j125, ej125, hj125, k⟩ := k
                refine rx_aw_iald (pc := 135) (n := 3) j125 ej125 rfl rfl rfl hj125 (by decide) ?_
                show rx_aw 236 136 [.ref 90, .int x1, .int x2, .int x3, .int x4, .int (x5 / 5), .int (x6 &&& 1), .int x7, .int (x5 - x5 / 5 * 5), .int 1, rx_no] [.int ((rx_u hi 133 j120 (hi 132 j119)) 132 j125), .ref 126, .ref 90] (rx_hp L t (rx_u hi 133 j120 (hi 132 j119)) hl v) Q
                obtain ⟨j126, ej126, hj126, k⟩ := k
                refine rx_aw_iald (pc := 136) (n := 20) j126 ej126 rfl rfl rfl hj126 (by decide) ?_
                show rx_aw 236 137 [.ref 90, .int x1, .int x2, .int x3, .int x4, .int (x5 / 5), .int (x6 &&& 1), .int x7, .int (x5 - x5 / 5 * 5), .int 1, rx_no] [.int ((rx_u hi 133 j120 (hi 132 j119)) 126 j126), .ref 90] (rx_hp L t (rx_u hi 133 j120 (hi 132 j119)) hl v) Q
                refine rx_aw_s 3 (pc := 137) rfl ?_
                show rx_aw 236 141 [.ref 90, .int x1, .int x2, .int x3, .int x4, .int (x5 / 5), .int (x6 &&& 1), .int x7, .int (x5 - x5 / 5 * 5), .int 1, rx_no] [.int ((x5 - x5 / 5 * 5) - 1), .int ((rx_u hi 133 j120 (hi 132 j119)) 126 j126), .ref 90] (rx_hp L t (rx_u hi 133 j120 (hi 132 j119)) hl v) Q
                refine rx_w_callI (j := 181) (pc := 141) rfl rfl rfl rfl rfl ?_
                refine rx_aw.mono k (fun r h2 k => ?_)
                obtain ⟨z127, rfl, hi127, hl127, v127, rfl, k⟩ := k
                refine ⟨z127, rfl, ?_⟩
                show rx_aw 236 144 [.ref 90, .int x1, .int x2, .int x3, .int x4, .int (x5 / 5), .int (x6 &&& 1), .int x7, .int (x5 - x5 / 5 * 5), .int 1, rx_no] [.int z127] (rx_hp L t hi127 hl127 v127) Q
                refine rx_aw_s 4 (pc := 144) rfl ?_
                refine rx_w_if (c := z127 < 0) ⟨fun c128 => ?_, fun c128 => ?_⟩
                · have k := k.1 c128
                  show rx_aw 236 167 [.ref 90, .int x1, .int x2, .int x3, .int x4, .int (x5 / 5), .int (x6 &&& 1), .int x7, .int (x5 - x5 / 5 * 5), .int 1, .int z127] [.int (x6 &&& 1)] (rx_hp L t hi127 hl127 v127) Q
                  refine rx_aw_s 8 (pc := 167) rfl ?_
                  refine rx_w_if (c := z127 < 0) ⟨fun c129 => ?_, fun c129 => ?_⟩
                  · have k := k.1 c129
                    show rx_aw 236 202 [.ref 90, .int x1, .int x2, .int x3, .int x4, .int (x5 / 5), .int ((x6 &&& 1) &&& 0), .int x7, .int (x5 - x5 / 5 * 5), .int 1, .int z127] [.int x7, .ref 133] (rx_hp L t hi127 hl127 v127) Q
                    refine rx_aw_s 3 (pc := 202) rfl ?_
                    show rx_aw 236 208 [.ref 90, .int x1, .int x2, .int x3, .int x4, .int (x5 / 5), .int ((x6 &&& 1) &&& 0), .int x7, .int (x5 - x5 / 5 * 5), .int 1, .int z127] [.int x7, .ref 132, .int x7, .ref 133] (rx_hp L t hi127 hl127 v127) Q
                    obtain ⟨j130, ej130, hj130, k⟩ := k
                    refine rx_aw_iald (pc := 208) (n := 3) j130 ej130 rfl rfl rfl hj130 (by decide) ?_
                    show rx_aw 236 209 [.ref 90, .int x1, .int x2, .int x3, .int x4, .int (x5 / 5), .int ((x6 &&& 1) &&& 0), .int x7, .int (x5 - x5 / 5 * 5), .int 1, .int z127] [.int (hi127 132 j130), .int x7, .ref 133] (rx_hp L t hi127 hl127 v127) Q
                    obtain ⟨j131, ej131, hj131, k⟩ := k
                    refine rx_aw_iast (pc := 209) (n := 3) j131 ej131 rfl rfl (by decide) rfl hj131 (by decide) ?_
                    show rx_aw 236 210 [.ref 90, .int x1, .int x2, .int x3, .int x4, .int (x5 / 5), .int ((x6 &&& 1) &&& 0), .int x7, .int (x5 - x5 / 5 * 5), .int 1, .int z127] [] (rx_hp L t (rx_u hi127 133 j131 (hi127 132 j130)) hl127 v127) Q
                    refine rx_aw_s 2 (pc := 210) rfl ?_
                    show rx_aw 236 36 [.ref 90, .int x1, .int x2, .int x3, .int x4, .int (x5 / 5), .int ((x6 &&& 1) &&& 0), .int (x7 + 1), .int (x5 - x5 / 5 * 5), .int 1, .int z127] [] (rx_hp L t (rx_u hi127 133 j131 (hi127 132 j130)) hl127 v127) Q
                    exact rx_aw_le (ls := [.ref 90, .int x1, .int x2, .int x3, .int x4, .int (x5 / 5), .int ((x6 &&& 1) &&& 0), .int (x7 + 1), rx_no, rx_no, rx_no]) ⟨Or.inr rfl, ⟨Or.inr rfl, ⟨Or.inr rfl, ⟨Or.inr rfl, ⟨Or.inr rfl, ⟨Or.inr rfl, ⟨Or.inr rfl, ⟨Or.inr rfl, ⟨Or.inl rfl, ⟨Or.inl rfl, ⟨Or.inl rfl, trivial⟩⟩⟩⟩⟩⟩⟩⟩⟩⟩⟩ k
                  · have k := k.2 c129
                    show rx_aw 236 182 [.ref 90, .int x1, .int x2, .int x3, .int x4, .int (x5 / 5), .int ((x6 &&& 1) &&& 0), .int x7, .int (x5 - x5 / 5 * 5), .int 1, .int z127] [.int x7, .ref 133] (rx_hp L t hi127 hl127 v127) Q
                    refine rx_aw_s 3 (pc := 182) rfl ?_
                    show rx_aw 236 188 [.ref 90, .int x1, .int x2, .int x3, .int x4, .int (x5 / 5), .int ((x6 &&& 1) &&& 0), .int x7, .int (x5 - x5 / 5 * 5), .int 1, .int z127] [.int z127, .ref 127, .int x7, .ref 133] (rx_hp L t hi127 hl127 v127) Q
                    obtain ⟨j132, ej132, hj132, k⟩ := k
                    refine rx_aw_iald (pc := 188) (n := 64) j132 ej132 rfl rfl rfl hj132 (by decide) ?_
                    show rx_aw 236 189 [.ref 90, .int x1, .int x2, .int x3, .int x4, .int (x5 / 5), .int ((x6 &&& 1) &&& 0), .int x7, .int (x5 - x5 / 5 * 5), .int 1, .int z127] [.int (hi127 127 j132), .int x7, .ref 133] (rx_hp L t hi127 hl127 v127) Q
                    refine rx_aw_s 1 (pc := 189) rfl ?_
                    refine rx_w_if (c := (hi127 127 j132) < 0) ⟨fun c133 => ?_, fun c133 => ?_⟩
                    · have k := k.1 c133
                      show rx_aw 236 202 [.ref 90, .int x1, .int x2, .int x3, .int x4, .int (x5 / 5), .int ((x6 &&& 1) &&& 0), .int x7, .int (x5 - x5 / 5 * 5), .int 1, .int z127] [.int x7, .ref 133] (rx_hp L t hi127 hl127 v127) Q
                      refine rx_aw_s 3 (pc := 202) rfl ?_
                      show rx_aw 236 208 [.ref 90, .int x1, .int x2, .int x3, .int x4, .int (x5 / 5), .int ((x6 &&& 1) &&& 0), .int x7, .int (x5 - x5 / 5 * 5), .int 1, .int z127] [.int x7, .ref 132, .int x7, .ref 133] (rx_hp L t hi127 hl127 v127) Q
                      obtain ⟨j134, ej134, hj134, k⟩ := k
                      refine rx_aw_iald (pc := 208) (n := 3) j134 ej134 rfl rfl rfl hj134 (by decide) ?_
                      show rx_aw 236 209 [.ref 90, .int x1, .int x2, .int x3, .int x4, .int (x5 / 5), .int ((x6 &&& 1) &&& 0), .int x7, .int (x5 - x5 / 5 * 5), .int 1, .int z127] [.int (hi127 132 j134), .int x7, .ref 133] (rx_hp L t hi127 hl127 v127) Q
                      obtain ⟨j135, ej135, hj135, k⟩ := k
                      refine rx_aw_iast (pc := 209) (n := 3) j135 ej135 rfl rfl (by decide) rfl hj135 (by decide) ?_
                      show rx_aw 236 210 [.ref 90, .int x1, .int x2, .int x3, .int x4, .int (x5 / 5), .int ((x6 &&& 1) &&& 0), .int x7, .int (x5 - x5 / 5 * 5), .int 1, .int z127] [] (rx_hp L t (rx_u hi127 133 j135 (hi127 132 j134)) hl127 v127) Q
                      refine rx_aw_s 2 (pc := 210) rfl ?_
                      show rx_aw 236 36 [.ref 90, .int x1, .int x2, .int x3, .int x4, .int (x5 / 5), .int ((x6 &&& 1) &&& 0), .int (x7 + 1), .int (x5 - x5 / 5 * 5), .int 1, .int z127] [] (rx_hp L t (rx_u hi127 133 j135 (hi127 132 j134)) hl127 v127) Q
                      exact rx_aw_le (ls := [.ref 90, .int x1, .int x2, .int x3, .int x4, .int (x5 / 5), .int ((x6 &&& 1) &&& 0), .int (x7 + 1), rx_no, rx_no, rx_no]) ⟨Or.inr rfl, ⟨Or.inr rfl, ⟨Or.inr rfl, ⟨Or.inr rfl, ⟨Or.inr rfl, ⟨Or.inr rfl, ⟨Or.inr rfl, ⟨Or.inr rfl, ⟨Or.inl rfl, ⟨Or.inl rfl, ⟨Or.inl rfl, trivial⟩⟩⟩⟩⟩⟩⟩⟩⟩⟩⟩ k
                    · have k := k.2 c133
                      show rx_aw 236 192 [.ref 90, .int x1, .int x2, .int x3, .int x4, .int (x5 / 5), .int ((x6 &&& 1) &&& 0), .int x7, .int (x5 - x5 / 5 * 5), .int 1, .int z127] [.int x7, .ref 133] (rx_hp L t hi127 hl127 v127) Q
                      refine rx_aw_s 3 (pc := 192) rfl ?_
                      show rx_aw 236 198 [.ref 90, .int x1, .int x2, .int x3, .int x4, .int (x5 / 5), .int ((x6 &&& 1) &&& 0), .int x7, .int (x5 - x5 / 5 * 5), .int 1, .int z127] [.int z127, .ref 127, .int x7, .ref 133] (rx_hp L t hi127 hl127 v127) Q
                      obtain ⟨j136, ej136, hj136, k⟩ := k
                      refine rx_aw_iald (pc := 198) (n := 64) j136 ej136 rfl rfl rfl hj136 (by decide) ?_
                      show rx_aw 236 199 [.ref 90, .int x1, .int x2, .int x3, .int x4, .int (x5 / 5), .int ((x6 &&& 1) &&& 0), .int x7, .int (x5 - x5 / 5 * 5), .int 1, .int z127] [.int (hi127 127 j136), .int x7, .ref 133] (rx_hp L t hi127 hl127 v127) Q
                      refine rx_aw_s 1 (pc := 199) rfl ?_
                      show rx_aw 236 209 [.ref 90, .int x1, .int x2, .int x3, .int x4, .int (x5 / 5), .int ((x6 &&& 1) &&& 0), .int x7, .int (x5 - x5 / 5 * 5), .int 1, .int z127] [.int (hi127 127 j136), .int x7, .ref 133] (rx_hp L t hi127 hl127 v127) Q
                      obtain ⟨j137, ej137, hj137, k⟩ := k
                      refine rx_aw_iast (pc := 209) (n := 3) j137 ej137 rfl rfl (by decide) rfl hj137 (by decide) ?_
                      show rx_aw 236 210 [.ref 90, .int x1, .int x2, .int x3, .int x4, .int (x5 / 5), .int ((x6 &&& 1) &&& 0), .int x7, .int (x5 - x5 / 5 * 5), .int 1, .int z127] [] (rx_hp L t (rx_u hi127 133 j137 (hi127 127 j136)) hl127 v127) Q
                      refine rx_aw_s 2 (pc := 210) rfl ?_
                      show rx_aw 236 36 [.ref 90, .int x1, .int x2, .int x3, .int x4, .int (x5 / 5), .int ((x6 &&& 1) &&& 0), .int (x7 + 1), .int (x5 - x5 / 5 * 5), .int 1, .int z127] [] (rx_hp L t (rx_u hi127 133 j137 (hi127 127 j136)) hl127 v127) Q
                      exact rx_aw_le (ls := [.ref 90, .int x1, .int x2, .int x3, .int x4, .int (x5 / 5), .int ((x6 &&& 1) &&& 0), .int (x7 + 1), rx_no, rx_no, rx_no]) ⟨Or.inr rfl, ⟨Or.inr rfl, ⟨Or.inr rfl, ⟨Or.inr rfl, ⟨Or.inr rfl, ⟨Or.inr rfl, ⟨Or.inr rfl, ⟨Or.inr rfl, ⟨Or.inl rfl, ⟨Or.inl rfl, ⟨Or.inl rfl, trivial⟩⟩⟩⟩⟩⟩⟩⟩⟩⟩⟩ k
                · have k := k.2 c128
                  show rx_aw 236 153 [.ref 90, .int x1, .int x2, .int x3, .int x4, .int (x5 / 5), .int (x6 &&& 1), .int x7, .int (x5 - x5 / 5 * 5), .int 1, .int z127] [.int (x6 &&& 1)] (rx_hp L t hi127 hl127 v127) Q
                  refine rx_aw_s 3 (pc := 153) rfl ?_
                  show rx_aw 236 159 [.ref 90, .int x1, .int x2, .int x3, .int x4, .int (x5 / 5), .int (x6 &&& 1), .int x7, .int (x5 - x5 / 5 * 5), .int 1, .int z127] [.int z127, .ref 127, .int (x6 &&& 1)] (rx_hp L t hi127 hl127 v127) Q
                  obtain ⟨j138, ej138, hj138, k⟩ := k
                  refine rx_aw_iald (pc := 159) (n := 64) j138 ej138 rfl rfl rfl hj138 (by decide) ?_
                  show rx_aw 236 160 [.ref 90, .int x1, .int x2, .int x3, .int x4, .int (x5 / 5), .int (x6 &&& 1), .int x7, .int (x5 - x5 / 5 * 5), .int 1, .int z127] [.int (hi127 127 j138), .int (x6 &&& 1)] (rx_hp L t hi127 hl127 v127) Q
                  refine rx_aw_s 1 (pc := 160) rfl ?_
                  refine rx_w_if (c := (hi127 127 j138) < 0) ⟨fun c139 => ?_, fun c139 => ?_⟩
                  · have k := k.1 c139
                    show rx_aw 236 167 [.ref 90, .int x1, .int x2, .int x3, .int x4, .int (x5 / 5), .int (x6 &&& 1), .int x7, .int (x5 - x5 / 5 * 5), .int 1, .int z127] [.int (x6 &&& 1)] (rx_hp L t hi127 hl127 v127) Q
                    refine rx_aw_s 8 (pc := 167) rfl ?_
                    refine rx_w_if (c := z127 < 0) ⟨fun c140 => ?_, fun c140 => ?_⟩
                    · have k := k.1 c140
                      show rx_aw 236 202 [.ref 90, .int x1, .int x2, .int x3, .int x4, .int (x5 / 5), .int ((x6 &&& 1) &&& 0), .int x7, .int (x5 - x5 / 5 * 5), .int 1, .int z127] [.int x7, .ref 133] (rx_hp L t hi127 hl127 v127) Q
                      refine rx_aw_s 3 (pc := 202) rfl ?_
                      show rx_aw 236 208 [.ref 90, .int x1, .int x2, .int x3, .int x4, .int (x5 / 5), .int ((x6 &&& 1) &&& 0), .int x7, .int (x5 - x5 / 5 * 5), .int 1, .int z127] [.int x7, .ref 132, .int x7, .ref 133] (rx_hp L t hi127 hl127 v127) Q
                      obtain ⟨j141, ej141, hj141, k⟩ := k
                      refine rx_aw_iald (pc := 208) (n := 3) j141 ej141 rfl rfl rfl hj141 (by decide) ?_
                      show rx_aw 236 209 [.ref 90, .int x1, .int x2, .int x3, .int x4, .int (x5 / 5), .int ((x6 &&& 1) &&& 0), .int x7, .int (x5 - x5 / 5 * 5), .int 1, .int z127] [.int (hi127 132 j141), .int x7, .ref 133] (rx_hp L t hi127 hl127 v127) Q
                      obtain ⟨j142, ej142, hj142, k⟩ := k
                      refine rx_aw_iast (pc := 209) (n := 3) j142 ej142 rfl rfl (by decide) rfl hj142 (by decide) ?_
                      show rx_aw 236 210 [.ref 90, .int x1, .int x2, .int x3, .int x4, .int (x5 / 5), .int ((x6 &&& 1) &&& 0), .int x7, .int (x5 - x5 / 5 * 5), .int 1, .int z127] [] (rx_hp L t (rx_u hi127 133 j142 (hi127 132 j141)) hl127 v127) Q
                      refine rx_aw_s 2 (pc := 210) rfl ?_
                      show rx_aw 236 36 [.ref 90, .int x1, .int x2, .int x3, .int x4, .int (x5 / 5), .int ((x6 &&& 1) &&& 0), .int (x7 + 1), .int (x5 - x5 / 5 * 5), .int 1, .int z127] [] (rx_hp L t (rx_u hi127 133 j142 (hi127 132 j141)) hl127 v127) Q
                      exact rx_aw_le (ls := [.ref 90, .int x1, .int x2, .int x3, .int x4, .int (x5 / 5), .int ((x6 &&& 1) &&& 0), .int (x7 + 1), rx_no, rx_no, rx_no]) ⟨Or.inr rfl, ⟨Or.inr rfl, ⟨Or.inr rfl, ⟨Or.inr rfl, ⟨Or.inr rfl, ⟨Or.inr rfl, ⟨Or.inr rfl, ⟨Or.inr rfl, ⟨Or.inl rfl, ⟨Or.inl rfl, ⟨Or.inl rfl, trivial⟩⟩⟩⟩⟩⟩⟩⟩⟩⟩⟩ k
                    · have k := k.2 c140
                      show rx_aw 236 182 [.ref 90, .int x1, .int x2, .int x3, .int x4, .int (x5 / 5), .int ((x6 &&& 1) &&& 0), .int x7, .int (x5 - x5 / 5 * 5), .int 1, .int z127] [.int x7, .ref 133] (rx_hp L t hi127 hl127 v127) Q
                      refine rx_aw_s 3 (pc := 182) rfl ?_
                      show rx_aw 236 188 [.ref 90, .int x1, .int x2, .int x3, .int x4, .int (x5 / 5), .int ((x6 &&& 1) &&& 0), .int x7, .int (x5 - x5 / 5 * 5), .int 1, .int z127] [.int z127, .ref 127, .int x7, .ref 133] (rx_hp L t hi127 hl127 v127) Q
                      obtain ⟨j143, ej143, hj143, k⟩ := k
                      refine rx_aw_iald (pc := 188) (n := 64) j143 ej143 rfl rfl rfl hj143 (by decide) ?_
                      show rx_aw 236 189 [.ref 90, .int x1, .int x2, .int x3, .int x4, .int (x5 / 5), .int ((x6 &&& 1) &&& 0), .int x7, .int (x5 - x5 / 5 * 5), .int 1, .int z127] [.int (hi127 127 j143), .int x7, .ref 133] (rx_hp L t hi127 hl127 v127) Q
                      refine rx_aw_s 1 (pc := 189) rfl ?_
                      refine rx_w_if (c := (hi127 127 j143) < 0) ⟨fun c144 => ?_, fun c144 => ?_⟩
                      · have k := k.1 c144
                        show rx_aw 236 202 [.ref 90, .int x1, .int x2, .int x3, .int x4, .int (x5 / 5), .int ((x6 &&& 1) &&& 0), .int x7, .int (x5 - x5 / 5 * 5), .int 1, .int z127] [.int x7, .ref 133] (rx_hp L t hi127 hl127 v127) Q
                        refine rx_aw_s 3 (pc := 202) rfl ?_
                        show rx_aw 236 208 [.ref 90, .int x1, .int x2, .int x3, .int x4, .int (x5 / 5), .int ((x6 &&& 1) &&& 0), .int x7, .int (x5 - x5 / 5 * 5), .int 1, .int z127] [.int x7, .ref 132, .int x7, .ref 133] (rx_hp L t hi127 hl127 v127) Q
                        obtain ⟨j145, ej145, hj145, k⟩ := k
                        refine rx_aw_iald (pc := 208) (n := 3) j145 ej145 rfl rfl rfl hj145 (by decide) ?_
                        show rx_aw 236 209 [.ref 90, .int x1, .int x2, .int x3, .int x4, .int (x5 / 5), .int ((x6 &&& 1) &&& 0), .int x7, .int (x5 - x5 / 5 * 5), .int 1, .int z127] [.int (hi127 132 j145), .int x7, .ref 133] (rx_hp L t hi127 hl127 v127) Q
                        obtain ⟨j146, ej146, hj146, k⟩ := k
                        refine rx_aw_iast (pc := 209) (n := 3) j146 ej146 rfl rfl (by decide) rfl hj146 (by decide) ?_
                        show rx_aw 236 210 [.ref 90, .int x1, .int x2, .int x3, .int x4, .int (x5 / 5), .int ((x6 &&& 1) &&& 0), .int x7, .int (x5 - x5 / 5 * 5), .int 1, .int z127] [] (rx_hp L t (rx_u hi127 133 j146 (hi127 132 j145)) hl127 v127) Q
                        refine rx_aw_s 2 (pc := 210) rfl ?_
                        show rx_aw 236 36 [.ref 90, .int x1, .int x2, .int x3, .int x4, .int (x5 / 5), .int ((x6 &&& 1) &&& 0), .int (x7 + 1), .int (x5 - x5 / 5 * 5), .int 1, .int z127] [] (rx_hp L t (rx_u hi127 133 j146 (hi127 132 j145)) hl127 v127) Q
                        exact rx_aw_le (ls := [.ref 90, .int x1, .int x2, .int x3, .int x4, .int (x5 / 5), .int ((x6 &&& 1) &&& 0), .int (x7 + 1), rx_no, rx_no, rx_no]) ⟨Or.inr rfl, ⟨Or.inr rfl, ⟨Or.inr rfl, ⟨Or.inr rfl, ⟨Or.inr rfl, ⟨Or.inr rfl, ⟨Or.inr rfl, ⟨Or.inr rfl, ⟨Or.inl rfl, ⟨Or.inl rfl, ⟨Or.inl rfl, trivial⟩⟩⟩⟩⟩⟩⟩⟩⟩⟩⟩ k
                      · have k := k.2 c144
                        show rx_aw 236 192 [.ref 90, .int x1, .int x2, .int x3, .int x4, .int (x5 / 5), .int ((x6 &&& 1) &&& 0), .int x7, .int (x5 - x5 / 5 * 5), .int 1, .int z127] [.int x7, .ref 133] (rx_hp L t hi127 hl127 v127) Q
                        refine rx_aw_s 3 (pc := 192) rfl ?_
                        show rx_aw 236 198 [.ref 90, .int x1, .int x2, .int x3, .int x4, .int (x5 / 5), .int ((x6 &&& 1) &&& 0), .int x7, .int (x5 - x5 / 5 * 5), .int 1, .int z127] [.int z127, .ref 127, .int x7, .ref 133] (rx_hp L t hi127 hl127 v127) Q
                        obtain ⟨j147, ej147, hj147, k⟩ := k
                        refine rx_aw_iald (pc := 198) (n := 64) j147 ej147 rfl rfl rfl hj147 (by decide) ?_
                        show rx_aw 236 199 [.ref 90, .int x1, .int x2, .int x3, .int x4, .int (x5 / 5), .int ((x6 &&& 1) &&& 0), .int x7, .int (x5 - x5 / 5 * 5), .int 1, .int z127] [.int (hi127 127 j147), .int x7, .ref 133] (rx_hp L t hi127 hl127 v127) Q
                        refine rx_aw_s 1 (pc := 199) rfl ?_
                        show rx_aw 236 209 [.ref 90, .int x1, .int x2, .int x3, .int x4, .int (x5 / 5), .int ((x6 &&& 1) &&& 0), .int x7, .int (x5 - x5 / 5 * 5), .int 1, .int z127] [.int (hi127 127 j147), .int x7, .ref 133] (rx_hp L t hi127 hl127 v127) Q
                        obtain ⟨j148, ej148, hj148, k⟩ := k
                        refine rx_aw_iast (pc := 209) (n := 3) j148 ej148 rfl rfl (by decide) rfl hj148 (by decide) ?_
                        show rx_aw 236 210 [.ref 90, .int x1, .int x2, .int x3, .int x4, .int (x5 / 5), .int ((x6 &&& 1) &&& 0), .int x7, .int (x5 - x5 / 5 * 5), .int 1, .int z127] [] (rx_hp L t (rx_u hi127 133 j148 (hi127 127 j147)) hl127 v127) Q
                        refine rx_aw_s 2 (pc := 210) rfl ?_
                        show rx_aw 236 36 [.ref 90, .int x1, .int x2, .int x3, .int x4, .int (x5 / 5), .int ((x6 &&& 1) &&& 0), .int (x7 + 1), .int (x5 - x5 / 5 * 5), .int 1, .int z127] [] (rx_hp L t (rx_u hi127 133 j148 (hi127 127 j147)) hl127 v127) Q
                        exact rx_aw_le (ls := [.ref 90, .int x1, .int x2, .int x3, .int x4, .int (x5 / 5), .int ((x6 &&& 1) &&& 0), .int (x7 + 1), rx_no, rx_no, rx_no]) ⟨Or.inr rfl, ⟨Or.inr rfl, ⟨Or.inr rfl, ⟨Or.inr rfl, ⟨Or.inr rfl, ⟨Or.inr rfl, ⟨Or.inr rfl, ⟨Or.inr rfl, ⟨Or.inl rfl, ⟨Or.inl rfl, ⟨Or.inl rfl, trivial⟩⟩⟩⟩⟩⟩⟩⟩⟩⟩⟩ k
                  · have k := k.2 c139
                    show rx_aw 236 163 [.ref 90, .int x1, .int x2, .int x3, .int x4, .int (x5 / 5), .int (x6 &&& 1), .int x7, .int (x5 - x5 / 5 * 5), .int 1, .int z127] [.int (x6 &&& 1)] (rx_hp L t hi127 hl127 v127) Q
                    refine rx_aw_s 9 (pc := 163) rfl ?_
                    refine rx_w_if (c := z127 < 0) ⟨fun c149 => ?_, fun c149 => ?_⟩
                    · have k := k.1 c149
                      show rx_aw 236 202 [.ref 90, .int x1, .int x2, .int x3, .int x4, .int (x5 / 5), .int ((x6 &&& 1) &&& 1), .int x7, .int (x5 - x5 / 5 * 5), .int 1, .int z127] [.int x7, .ref 133] (rx_hp L t hi127 hl127 v127) Q
                      refine rx_aw_s 3 (pc := 202) rfl ?_
                      show rx_aw 236 208 [.ref 90, .int x1, .int x2, .int x3, .int x4, .int (x5 / 5), .int ((x6 &&& 1) &&& 1), .int x7, .int (x5 - x5 / 5 * 5), .int 1, .int z127] [.int x7, .ref 132, .int x7, .ref 133] (rx_hp L t hi127 hl127 v127) Q
                      obtain ⟨j150, ej150, hj150, k⟩ := k
                      refine rx_aw_iald (pc := 208) (n := 3) j150 ej150 rfl rfl rfl hj150 (by decide) ?_
                      show rx_aw 236 209 [.ref 90, .int x1, .int x2, .int x3, .int x4, .int (x5 / 5), .int ((x6 &&& 1) &&& 1), .int x7, .int (x5 - x5 / 5 * 5), .int 1, .int z127] [.int (hi127 132 j150), .int x7, .ref 133] (rx_hp L t hi127 hl127 v127) Q
                      obtain ⟨j151, ej151, hj151, k⟩ := k
                      refine rx_aw_iast (pc := 209) (n := 3) j151 ej151 rfl rfl (by decide) rfl hj151 (by decide) ?_
                      show rx_aw 236 210 [.ref 90, .int x1, .int x2, .int x3, .int x4, .int (x5 / 5), .int ((x6 &&& 1) &&& 1), .int x7, .int (x5 - x5 / 5 * 5), .int 1, .int z127] [] (rx_hp L t (rx_u hi127 133 j151 (hi127 132 j150)) hl127 v127) Q
                      refine rx_aw_s 2 (pc := 210) rfl ?_
                      show rx_aw 236 36 [.ref 90, .int x1, .int x2, .int x3, .int x4, .int (x5 / 5), .int ((x6 &&& 1) &&& 1), .int (x7 + 1), .int (x5 - x5 / 5 * 5), .int 1, .int z127] [] (rx_hp L t (rx_u hi127 133 j151 (hi127 132 j150)) hl127 v127) Q
                      exact rx_aw_le (ls := [.ref 90, .int x1, .int x2, .int x3, .int x4, .int (x5 / 5), .int ((x6 &&& 1) &&& 1), .int (x7 + 1), rx_no, rx_no, rx_no]) ⟨Or.inr rfl, ⟨Or.inr rfl, ⟨Or.inr rfl, ⟨Or.inr rfl, ⟨Or.inr rfl, ⟨Or.inr rfl, ⟨Or.inr rfl, ⟨Or.inr rfl, ⟨Or.inl rfl, ⟨Or.inl rfl, ⟨Or.inl rfl, trivial⟩⟩⟩⟩⟩⟩⟩⟩⟩⟩⟩ k
                    · have k := k.2 c149
                      show rx_aw 236 182 [.ref 90, .int x1, .int x2, .int x3, .int x4, .int (x5 / 5), .int ((x6 &&& 1) &&& 1), .int x7, .int (x5 - x5 / 5 * 5), .int 1, .int z127] [.int x7, .ref 133] (rx_hp L t hi127 hl127 v127) Q
                      refine rx_aw_s 3 (pc := 182) rfl ?_
                      show rx_aw 236 188 [.ref 90, .int x1, .int x2, .int x3, .int x4, .int (x5 / 5), .int ((x6 &&& 1) &&& 1), .int x7, .int (x5 - x5 / 5 * 5), .int 1, .int z127] [.int z127, .ref 127, .int x7, .ref 133] (rx_hp L t hi127 hl127 v127) Q
                      obtain ⟨j152, ej152, hj152, k⟩ := k
                      refine rx_aw_iald (pc := 188) (n := 64) j152 ej152 rfl rfl rfl hj152 (by decide) ?_
                      show rx_aw 236 189 [.ref 90, .int x1, .int x2, .int x3, .int x4, .int (x5 / 5), .int ((x6 &&& 1) &&& 1), .int x7, .int (x5 - x5 / 5 * 5), .int 1, .int z127] [.int (hi127 127 j152), .int x7, .ref 133] (rx_hp L t hi127 hl127 v127) Q
                      refine rx_aw_s 1 (pc := 189) rfl ?_
                      refine rx_w_if (c := (hi127 127 j152) < 0) ⟨fun c153 => ?_, fun c153 => ?_⟩
                      · have k := k.1 c153
                        show rx_aw 236 202 [.ref 90, .int x1, .int x2, .int x3, .int x4, .int (x5 / 5), .int ((x6 &&& 1) &&& 1), .int x7, .int (x5 - x5 / 5 * 5), .int 1, .int z127] [.int x7, .ref 133] (rx_hp L t hi127 hl127 v127) Q
                        refine rx_aw_s 3 (pc := 202) rfl ?_
                        show rx_aw 236 208 [.ref 90, .int x1, .int x2, .int x3, .int x4, .int (x5 / 5), .int ((x6 &&& 1) &&& 1), .int x7, .int (x5 - x5 / 5 * 5), .int 1, .int z127] [.int x7, .ref 132, .int x7, .ref 133] (rx_hp L t hi127 hl127 v127) Q
                        obtain ⟨j154, ej154, hj154, k⟩ := k
                        refine rx_aw_iald (pc := 208) (n := 3) j154 ej154 rfl rfl rfl hj154 (by decide) ?_
                        show rx_aw 236 209 [.ref 90, .int x1, .int x2, .int x3, .int x4, .int (x5 / 5), .int ((x6 &&& 1) &&& 1), .int x7, .int (x5 - x5 / 5 * 5), .int 1, .int z127] [.int (hi127 132 j154), .int x7, .ref 133] (rx_hp L t hi127 hl127 v127) Q
                        obtain ⟨j155, ej155, hj155, k⟩ := k
                        refine rx_aw_iast (pc := 209) (n := 3) j155 ej155 rfl rfl (by decide) rfl hj155 (by decide) ?_
                        show rx_aw 236 210 [.ref 90, .int x1, .int x2, .int x3, .int x4, .int (x5 / 5), .int ((x6 &&& 1) &&& 1), .int x7, .int (x5 - x5 / 5 * 5), .int 1, .int z127] [] (rx_hp L t (rx_u hi127 133 j155 (hi127 132 j154)) hl127 v127) Q
                        refine rx_aw_s 2 (pc := 210) rfl ?_
                        show rx_aw 236 36 [.ref 90, .int x1, .int x2, .int x3, .int x4, .int (x5 / 5), .int ((x6 &&& 1) &&& 1), .int (x7 + 1), .int (x5 - x5 / 5 * 5), .int 1, .int z127] [] (rx_hp L t (rx_u hi127 133 j155 (hi127 132 j154)) hl127 v127) Q
                        exact rx_aw_le (ls := [.ref 90, .int x1, .int x2, .int x3, .int x4, .int (x5 / 5), .int ((x6 &&& 1) &&& 1), .int (x7 + 1), rx_no, rx_no, rx_no]) ⟨Or.inr rfl, ⟨Or.inr rfl, ⟨Or.inr rfl, ⟨Or.inr rfl, ⟨Or.inr rfl, ⟨Or.inr rfl, ⟨Or.inr rfl, ⟨Or.inr rfl, ⟨Or.inl rfl, ⟨Or.inl rfl, ⟨Or.inl rfl, trivial⟩⟩⟩⟩⟩⟩⟩⟩⟩⟩⟩ k
                      · have k := k.2 c153
                        show rx_aw 236 192 [.ref 90, .int x1, .int x2, .int x3, .int x4, .int (x5 / 5), .int ((x6 &&& 1) &&& 1), .int x7, .int (x5 - x5 / 5 * 5), .int 1, .int z127] [.int x7, .ref 133] (rx_hp L t hi127 hl127 v127) Q
                        refine rx_aw_s 3 (pc := 192) rfl ?_
                        show rx_aw 236 198 [.ref 90, .int x1, .int x2, .int x3, .int x4, .int (x5 / 5), .int ((x6 &&& 1) &&& 1), .int x7, .int (x5 - x5 / 5 * 5), .int 1, .int z127] [.int z127, .ref 127, .int x7, .ref 133] (rx_hp L t hi127 hl127 v127) Q
                        obtain ⟨j156, ej156, hj156, k⟩ := k
                        refine rx_aw_iald (pc := 198) (n := 64) j156 ej156 rfl rfl rfl hj156 (by decide) ?_
                        show rx_aw 236 199 [.ref 90, .int x1, .int x2, .int x3, .int x4, .int (x5 / 5), .int ((x6 &&& 1) &&& 1), .int x7, .int (x5 - x5 / 5 * 5), .int 1, .int z127] [.int (hi127 127 j156), .int x7, .ref 133] (rx_hp L t hi127 hl127 v127) Q
                        refine rx_aw_s 1 (pc := 199) rfl ?_
                        show rx_aw 236 209 [.ref 90, .int x1, .int x2, .int x3, .int x4, .int (x5 / 5), .int ((x6 &&& 1) &&& 1), .int x7, .int (x5 - x5 / 5 * 5), .int 1, .int z127] [.int (hi127 127 j156), .int x7, .ref 133] (rx_hp L t hi127 hl127 v127) Q
                        obtain ⟨j157, ej157, hj157, k⟩ := k
                        refine rx_aw_iast (pc := 209) (n := 3) j157 ej157 rfl rfl (by decide) rfl hj157 (by decide) ?_
                        show rx_aw 236 210 [.ref 90, .int x1, .int x2, .int x3, .int x4, .int (x5 / 5), .int ((x6 &&& 1) &&& 1), .int x7, .int (x5 - x5 / 5 * 5), .int 1, .int z127] [] (rx_hp L t (rx_u hi127 133 j157 (hi127 127 j156)) hl127 v127) Q
                        refine rx_aw_s 2 (pc := 210) rfl ?_
                        show rx_aw 236 36 [.ref 90, .int x1, .int x2, .int x3, .int x4, .int (x5 / 5), .int ((x6 &&& 1) &&& 1), .int (x7 + 1), .int (x5 - x5 / 5 * 5), .int 1, .int z127] [] (rx_hp L t (rx_u hi127 133 j157 (hi127 127 j156)) hl127 v127) Q
                        exact rx_aw_le (ls := [.ref 90, .int x1, .int x2, .int x3, .int x4, .int (x5 / 5), .int ((x6 &&& 1) &&& 1), .int (x7 + 1), rx_no, rx_no, rx_no]) ⟨Or.inr rfl, ⟨Or.inr rfl, ⟨Or.inr rfl, ⟨Or.inr rfl, ⟨Or.inr rfl, ⟨Or.inr rfl, ⟨Or.inr rfl, ⟨Or.inr rfl, ⟨Or.inl rfl, ⟨Or.inl rfl, ⟨Or.inl rfl, trivial⟩⟩⟩⟩⟩⟩⟩⟩⟩⟩⟩ k
          · have k := k.2 c122
            show rx_aw 236 110 [.ref 90, .int x1, .int x2, .int x3, .int x4, .int (x5 / 5), .int x6, .int x7, .int (x5 - x5 / 5 * 5), .int 1, rx_no] [.int x6] (rx_hp L t (rx_u hi 133 j120 (hi 132 j119)) hl v) Q
            refine rx_aw_s 5 (pc := 110) rfl ?_
            refine rx_w_if (c := 1 = 0) ⟨fun c158 => ?_, fun c158 => ?_⟩
            · have k := k.1 c158
              show rx_aw 236 210 [.ref 90, .int x1, .int x2, .int x3, .int x4, .int (x5 / 5), .int (x6 &&& 0), .int x7, .int (x5 - x5 / 5 * 5), .int 1, rx_no] [] (rx_hp L t (rx_u hi 133 j120 (hi 132 j119)) hl v) Q
              refine rx_aw_s 2 (pc := 210) rfl ?_
              show rx_aw 236 36 [.ref 90, .int x1, .int x2, .int x3, .int x4, .int (x5 / 5), .int (x6 &&& 0), .int (x7 + 1), .int (x5 - x5 / 5 * 5), .int 1, rx_no] [] (rx_hp L t (rx_u hi 133 j120 (hi 132 j119)) hl v) Q
              exact rx_aw_le (ls := [.ref 90, .int x1, .int x2, .int x3, .int x4, .int (x5 / 5), .int (x6 &&& 0), .int (x7 + 1), rx_no, rx_no, rx_no]) ⟨Or.inr rfl, ⟨Or.inr rfl, ⟨Or.inr rfl, ⟨Or.inr rfl, ⟨Or.inr rfl, ⟨Or.inr rfl, ⟨Or.inr rfl, ⟨Or.inr rfl, ⟨Or.inl rfl, ⟨Or.inl rfl, ⟨Or.inl rfl, trivial⟩⟩⟩⟩⟩⟩⟩⟩⟩⟩⟩ k
            · have k := k.2 c158
              show rx_aw 236 119 [.ref 90, .int x1, .int x2, .int x3, .int x4, .int (x5 / 5), .int (x6 &&& 0), .int x7, .int (x5 - x5 / 5 * 5), .int 1, rx_no] [] (rx_hp L t (rx_u hi 133 j120 (hi 132 j119)) hl v) Q
              refine rx_aw_s 2 (pc := 119) rfl ?_
              refine rx_w_if (c := (x5 - x5 / 5 * 5) ≤ 0) ⟨fun c159 => ?_, fun c159 => ?_⟩
              · have k := k.1 c159
                show rx_aw 236 210 [.ref 90, .int x1, .int x2, .int x3, .int x4, .int (x5 / 5), .int (x6 &&& 0), .int x7, .int (x5 - x5 / 5 * 5), .int 1, rx_no] [] (rx_hp L t (rx_u hi 133 j120 (hi 132 j119)) hl v) Q
                refine rx_aw_s 2 (pc := 210) rfl ?_
                show rx_aw 236 36 [.ref 90, .int x1, .int x2, .int x3, .int x4, .int (x5 / 5), .int (x6 &&& 0), .int (x7 + 1), .int (x5 - x5 / 5 * 5), .int 1, rx_no] [] (rx_hp L t (rx_u hi 133 j120 (hi 132 j119)) hl v) Q
                exact rx_aw_le (ls := [.ref 90, .int x1, .int x2, .int x3, .int x4, .int (x5 / 5), .int (x6 &&& 0), .int (x7 + 1), rx_no, rx_no, rx_no]) ⟨Or.inr rfl, ⟨Or.inr rfl, ⟨Or.inr rfl, ⟨Or.inr rfl, ⟨Or.inr rfl, ⟨Or.inr rfl, ⟨Or.inr rfl, ⟨Or.inr rfl, ⟨Or.inl rfl, ⟨Or.inl rfl, ⟨Or.inl rfl, trivial⟩⟩⟩⟩⟩⟩⟩⟩⟩⟩⟩ k
              · have k := k.2 c159
                show rx_aw 236 124 [.ref 90, .int x1, .int x2, .int x3, .int x4, .int (x5 / 5), .int (x6 &&& 0), .int x7, .int (x5 - x5 / 5 * 5), .int 1, rx_no] [] (rx_hp L t (rx_u hi 133 j120 (hi 132 j119)) hl v) Q
                refine rx_aw_s 6 (pc := 124) rfl ?_
                show rx_aw 236 135 [.ref 90, .int x1, .int x2, .int x3, .int x4, .int (x5 / 5), .int (x6 &&& 0), .int x7, .int (x5 - x5 / 5 * 5), .int 1, rx_no] [.int x7, .ref 132, .ref 126, .ref 90] (rx_hp L t (rx_u hi 133 j120 (hi 132 j119)) hl v) Q
                obtain ⟨j160, ej160, hj160, k⟩ := k
                refine rx_aw_iald (pc := 135) (n := 3) j160 ej160 rfl rfl rfl hj160 (by decide) ?_
                show rx_aw 236 136 [.ref 90, .int x1, .int x2, .int x3, .int x4, .int (x5 / 5), .int (x6 &&& 0), .int x7, .int (x5 - x5 / 5 * 5), .int 1, rx_no] [.int ((rx_u hi 133 j120 (hi 132 j119)) 132 j160), .ref 126, .ref 90] (rx_hp L t (rx_u hi 133 j120 (hi 132 j119)) hl v) Q
                obtain ⟨j161, ej161, hj161, k⟩ := k
                refine rx_aw_iald (pc := 136) (n := 20) j161 ej161 rfl rfl rfl hj161 (by decide) ?_
                show rx_aw 236 137 [.ref 90, .int x1, .int x2, .int x3, .int x4, .int (x5 / 5), .int (x6 &&& 0), .int x7, .int (x5 - x5 / 5 * 5), .int 1, rx_no] [.int ((rx_u hi 133 j120 (hi 132 j119)) 126 j161), .ref 90] (rx_hp L t (rx_u hi 133 j120 (hi 132 j119)) hl v) Q
                refine rx_aw_s 3 (pc := 137) rfl ?_
                show rx_aw 236 141 [.ref 90, .int x1, .int x2, .int x3, .int x4, .int (x5 / 5), .int (x6 &&& 0), .int x7, .int (x5 - x5 / 5 * 5), .int 1, rx_no] [.int ((x5 - x5 / 5 * 5) - 1), .int ((rx_u hi 133 j120 (hi 132 j119)) 126 j161), .ref 90] (rx_hp L t (rx_u hi 133 j120 (hi 132 j119)) hl v) Q
                refine rx_w_callI (j := 181) (pc := 141) rfl rfl rfl rfl rfl ?_
                refine rx_aw.mono k (fun r h2 k => ?_)
                obtain ⟨z162, rfl, hi162, hl162, v162, rfl, k⟩ := k
                refine ⟨z162, rfl, ?_⟩
                show rx_aw 236 144 [.ref 90, .int x1, .int x2, .int x3, .int x4, .int (x5 / 5), .int (x6 &&& 0), .int x7, .int (x5 - x5 / 5 * 5), .int 1, rx_no] [.int z162] (rx_hp L t hi162 hl162 v162) Q
                refine rx_aw_s 4 (pc := 144) rfl ?_
                refine rx_w_if (c := z162 < 0) ⟨fun c163 => ?_, fun c163 => ?_⟩
                · have k := k.1 c163
                  show rx_aw 236 167 [.ref 90, .int x1, .int x2, .int x3, .int x4, .int (x5 / 5), .int (x6 &&& 0), .int x7, .int (x5 - x5 / 5 * 5), .int 1, .int z162] [.int (x6 &&& 0)] (rx_hp L t hi162 hl162 v162) Q
                  refine rx_aw_s 8 (pc := 167) rfl ?_
                  refine rx_w_if (c := z162 < 0) ⟨fun c164 => ?_, fun c164 => ?_⟩
                  · have k := k.1 c164
                    show rx_aw 236 202 [.ref 90, .int x1, .int x2, .int x3, .int x4, .int (x5 / 5), .int ((x6 &&& 0) &&& 0), .int x7, .int (x5 - x5 / 5 * 5), .int 1, .int z162] [.int x7, .ref 133] (rx_hp L t hi162 hl162 v162) Q
                    refine rx_aw_s 3 (pc := 202) rfl ?_
                    show rx_aw 236 208 [.ref 90, .int x1, .int x2, .int x3, .int x4, .int (x5 / 5), .int ((x6 &&& 0) &&& 0), .int x7, .int (x5 - x5 / 5 * 5), .int 1, .int z162] [.int x7, .ref 132, .int x7, .ref 133] (rx_hp L t hi162 hl162 v162) Q
                    obtain ⟨j165, ej165, hj165, k⟩ := k
                    refine rx_aw_iald (pc := 208) (n := 3) j165 ej165 rfl rfl rfl hj165 (by decide) ?_
                    show rx_aw 236 209 [.ref 90, .int x1, .int x2, .int x3, .int x4, .int (x5 / 5), .int ((x6 &&& 0) &&& 0), .int x7, .int (x5 - x5 / 5 * 5), .int 1, .int z162] [.int (hi162 132 j165), .int x7, .ref 133] (rx_hp L t hi162 hl162 v162) Q
                    obtain ⟨j166, ej166, hj166, k⟩ := k
                    refine rx_aw_iast (pc := 209) (n := 3) j166 ej166 rfl rfl (by decide) rfl hj166 (by decide) ?_
                    show rx_aw 236 210 [.ref 90, .int x1, .int x2, .int x3, .int x4, .int (x5 / 5), .int ((x6 &&& 0) &&& 0), .int x7, .int (x5 - x5 / 5 * 5), .int 1, .int z162] [] (rx_hp L t (rx_u hi162 133 j166 (hi162 132 j165)) hl162 v162) Q
                    refine rx_aw_s 2 (pc := 210) rfl ?_
                    show rx_aw 236 36 [.ref 90, .int x1, .int x2, .int x3, .int x4, .int (x5 / 5), .int ((x6 &&& 0) &&& 0), .int (x7 + 1), .int (x5 - x5 / 5 * 5), .int 1, .int z162] [] (rx_hp L t (rx_u hi162 133 j166 (hi162 132 j165)) hl162 v162) Q
                    exact rx_aw_le (ls := [.ref 90, .int x1, .int x2, .int x3, .int x4, .int (x5 / 5), .int ((x6 &&& 0) &&& 0), .int (x7 + 1), rx_no, rx_no, rx_no]) ⟨Or.inr rfl, ⟨Or.inr rfl, ⟨Or.inr rfl, ⟨Or.inr rfl, ⟨Or.inr rfl, ⟨Or.inr rfl, ⟨Or.inr rfl, ⟨Or.inr rfl, ⟨Or.inl rfl, ⟨Or.inl rfl, ⟨Or.inl rfl, trivial⟩⟩⟩⟩⟩⟩⟩⟩⟩⟩⟩ k
                  · have k := k.2 c164
                    show rx_aw 236 182 [.ref 90, .int x1, .int x2, .int x3, .int x4, .int (x5 / 5), .int ((x6 &&& 0) &&& 0), .int x7, .int (x5 - x5 / 5 * 5), .int 1, .int z162] [.int x7, .ref 133] (rx_hp L t hi162 hl162 v162) Q
                    refine rx_aw_s 3 (pc := 182) rfl ?_
                    show rx_aw 236 188 [.ref 90, .int x1, .int x2, .int x3, .int x4, .int (x5 / 5), .int ((x6 &&& 0) &&& 0), .int x7, .int (x5 - x5 / 5 * 5), .int 1, .int z162] [.int z162, .ref 127, .int x7, .ref 133] (rx_hp L t hi162 hl162 v162) Q
                    obtain ⟨j167, ej167, hj167, k⟩ := k
                    refine rx_aw_iald (pc := 188) (n := 64) j167 ej167 rfl rfl rfl hj167 (by decide) ?_
                    show rx_aw 236 189 [.ref 90, .int x1, .int x2, .int x3, .int x4, .int (x5 / 5), .int ((x6 &&& 0) &&& 0), .int x7, .int (x5 - x5 / 5 * 5), .int 1, .int z162] [.int (hi162 127 j167), .int x7, .ref 133] (rx_hp L t hi162 hl162 v162) Q
                    refine rx_aw_s 1 (pc := 189) rfl ?_
                    refine rx_w_if (c := (hi162 127 j167) < 0) ⟨fun c168 => ?_, fun c168 => ?_⟩
                    · have k := k.1 c168
                      show rx_aw 236 202 [.ref 90, .int x1, .int x2, .int x3, .int x4, .int (x5 / 5), .int ((x6 &&& 0) &&& 0), .int x7, .int (x5 - x5 / 5 * 5), .int 1, .int z162] [.int x7, .ref 133] (rx_hp L t hi162 hl162 v162) Q
                      refine rx_aw_s 3 (pc := 202) rfl ?_
                      show rx_aw 236 208 [.ref 90, .int x1, .int x2, .int x3, .int x4, .int (x5 / 5), .int ((x6 &&& 0) &&& 0), .int x7, .int (x5 - x5 / 5 * 5), .int 1, .int z162] [.int x7, .ref 132, .int x7, .ref 133] (rx_hp L t hi162 hl162 v162) Q
                      obtain ⟨j169, ej169, hj169, k⟩ := k
                      refine rx_aw_iald (pc := 208) (n := 3) j169 ej169 rfl rfl rfl hj169 (by decide) ?_
                      show rx_aw 236 209 [.ref 90, .int x1, .int x2, .int x3, .int x4, .int (x5 / 5), .int ((x6 &&& 0) &&& 0), .int x7, .int (x5 - x5 / 5 * 5), .int 1, .int z162] [.int (hi162 132 j169), .int x7, .ref 133] (rx_hp L t hi162 hl162 v162) Q
                      obtain ⟨j170, ej170, hj170, k⟩ := k
                      refine rx_aw_iast (pc := 209) (n := 3) j170 ej170 rfl rfl (by decide) rfl hj170 (by decide) ?_
                      show rx_aw 236 210 [.ref 90, .int x1, .int x2, .int x3, .int x4, .int (x5 / 5), .int ((x6 &&& 0) &&& 0), .int x7, .int (x5 - x5 / 5 * 5), .int 1, .int z162] [] (rx_hp L t (rx_u hi162 133 j170 (hi162 132 j169)) hl162 v162) Q
                      refine rx_aw_s 2 (pc := 210) rfl ?_
                      show rx_aw 236 36 [.ref 90, .int x1, .int x2, .int x3, .int x4, .int (x5 / 5), .int ((x6 &&& 0) &&& 0), .int (x7 + 1), .int (x5 - x5 / 5 * 5), .int 1, .int z162] [] (rx_hp L t (rx_u hi162 133 j170 (hi162 132 j169)) hl162 v162) Q
                      exact rx_aw_le (ls := [.ref 90, .int x1, .int x2, .int x3, .int x4, .int (x5 / 5), .int ((x6 &&& 0) &&& 0), .int (x7 + 1), rx_no, rx_no, rx_no]) ⟨Or.inr rfl, ⟨Or.inr rfl, ⟨Or.inr rfl, ⟨Or.inr rfl, ⟨Or.inr rfl, ⟨Or.inr rfl, ⟨Or.inr rfl, ⟨Or.inr rfl, ⟨Or.inl rfl, ⟨Or.inl rfl, ⟨Or.inl rfl, trivial⟩⟩⟩⟩⟩⟩⟩⟩⟩⟩⟩ k
                    · have k := k.2 c168
                      show rx_aw 236 192 [.ref 90, .int x1, .int x2, .int x3, .int x4, .int (x5 / 5), .int ((x6 &&& 0) &&& 0), .int x7, .int (x5 - x5 / 5 * 5), .int 1, .int z162] [.int x7, .ref 133] (rx_hp L t hi162 hl162 v162) Q
                      refine rx_aw_s 3 (pc := 192) rfl ?_
                      show rx_aw 236 198 [.ref 90, .int x1, .int x2, .int x3, .int x4, .int (x5 / 5), .int ((x6 &&& 0) &&& 0), .int x7, .int (x5 - x5 / 5 * 5), .int 1, .int z162] [.int z162, .ref 127, .int x7, .ref 133] (rx_hp L t hi162 hl162 v162) Q
                      obtain ⟨j171, ej171, hj171, k⟩ := k
                      refine rx_aw_iald (pc := 198) (n := 64) j171 ej171 rfl rfl rfl hj171 (by decide) ?_
                      show rx_aw 236 199 [.ref 90, .int x1, .int x2, .int x3, .int x4, .int (x5 / 5), .int ((x6 &&& 0) &&& 0), .int x7, .int (x5 - x5 / 5 * 5), .int 1, .int z162] [.int (hi162 127 j171), .int x7, .ref 133] (rx_hp L t hi162 hl162 v162) Q
                      refine rx_aw_s 1 (pc := 199) rfl ?_
                      show rx_aw 236 209 [.ref 90, .int x1, .int x2, .int x3, .int x4, .int (x5 / 5), .int ((x6 &&& 0) &&& 0), .int x7, .int (x5 - x5 / 5 * 5), .int 1, .int z162] [.int (hi162 127 j171), .int x7, .ref 133] (rx_hp L t hi162 hl162 v162) Q
                      obtain ⟨j172, ej172, hj172, k⟩ := k
                      refine rx_aw_iast (pc := 209) (n := 3) j172 ej172 rfl rfl (by decide) rfl hj172 (by decide) ?_
                      show rx_aw 236 210 [.ref 90, .int x1, .int x2, .int x3, .int x4, .int (x5 / 5), .int ((x6 &&& 0) &&& 0), .int x7, .int (x5 - x5 / 5 * 5), .int 1, .int z162] [] (rx_hp L t (rx_u hi162 133 j172 (hi162 127 j171)) hl162 v162) Q
                      refine rx_aw_s 2 (pc := 210) rfl ?_
                      show rx_aw 236 36 [.ref 90, .int x1, .int x2, .int x3, .int x4, .int (x5 / 5), .int ((x6 &&& 0) &&& 0), .int (x7 + 1), .int (x5 - x5 / 5 * 5), .int 1, .int z162] [] (rx_hp L t (rx_u hi162 133 j172 (hi162 127 j171)) hl162 v162) Q
                      exact rx_aw_le (ls := [.ref 90, .int x1, .int x2, .int x3, .int x4, .int (x5 / 5), .int ((x6 &&& 0) &&& 0), .int (x7 + 1), rx_no, rx_no, rx_no]) ⟨Or.inr rfl, ⟨Or.inr rfl, ⟨Or.inr rfl, ⟨Or.inr rfl, ⟨Or.inr rfl, ⟨Or.inr rfl, ⟨Or.inr rfl, ⟨Or.inr rfl, ⟨Or.inl rfl, ⟨Or.inl rfl, ⟨Or.inl rfl, trivial⟩⟩⟩⟩⟩⟩⟩⟩⟩⟩⟩ k
                · have k := k.2 c163
                  show rx_aw 236 153 [.ref 90, .int x1, .int x2, .int x3, .int x4, .int (x5 / 5), .int (x6 &&& 0), .int x7, .int (x5 - x5 / 5 * 5), .int 1, .int z162] [.int (x6 &&& 0)] (rx_hp L t hi162 hl162 v162) Q
                  refine rx_aw_s 3 (pc := 153) rfl ?_
                  show rx_aw 236 159 [.ref 90, .int x1, .int x2, .int x3, .int x4, .int (x5 / 5), .int (x6 &&& 0), .int x7, .int (x5 - x5 / 5 * 5), .int 1, .int z162] [.int z162, .ref 127, .int (x6 &&& 0)] (rx_hp L t hi162 hl162 v162) Q
                  obtain ⟨j173, ej173, hj173, k⟩ := k
                  refine rx_aw_iald (pc := 159) (n := 64) j173 ej173 rfl rfl rfl hj173 (by decide) ?_
                  show rx_aw 236 160 [.ref 90, .int x1, .int x2, .int x3, .int x4, .int (x5 / 5), .int (x6 &&& 0), .int x7, .int (x5 - x5 / 5 * 5), .int 1, .int z162] [.int (hi162 127 j173), .int (x6 &&& 0)] (rx_hp L t hi162 hl162 v162) Q
                  refine rx_aw_s 1 (pc := 160) rfl ?_
                  refine rx_w_if (c := (hi162 127 j173) < 0) ⟨fun c174 => ?_, fun c174 => ?_⟩
                  · have k := k.1 c174
                    show rx_aw 236 167 [.ref 90, .int x1, .int x2, .int x3, .int x4, .int (x5 / 5), .int (x6 &&& 0), .int x7, .int (x5 - x5 / 5 * 5), .int 1, .int z162] [.int (x6 &&& 0)] (rx_hp L t hi162 hl162 v162) Q
                    refine rx_aw_s 8 (pc := 167) rfl ?_
                    refine rx_w_if (c := z162 < 0) ⟨fun c175 => ?_, fun c175 => ?_⟩
                    · have k := k.1 c175
                      show rx_aw 236 202 [.ref 90, .int x1, .int x2, .int x3, .int x4, .int (x5 / 5), .int ((x6 &&& 0) &&& 0), .int x7, .int (x5 - x5 / 5 * 5), .int 1, .int z162] [.int x7, .ref 133] (rx_hp L t hi162 hl162 v162) Q
                      refine rx_aw_s 3 (pc := 202) rfl ?_
                      show rx_aw 236 208 [.ref 90, .int x1, .int x2, .int x3, .int x4, .int (x5 / 5), .int ((x6 &&& 0) &&& 0), .int x7, .int (x5 - x5 / 5 * 5), .int 1, .int z162] [.int x7, .ref 132, .int x7, .ref 133] (rx_hp L t hi162 hl162 v162) Q
                      obtain ⟨j176, ej176, hj176, k⟩ := k
                      refine rx_aw_iald (pc := 208) (n := 3) j176 ej176 rfl rfl rfl hj176 (by decide) ?_
                      show rx_aw 236 209 [.ref 90, .int x1, .int x2, .int x3, .int x4, .int (x5 / 5), .int ((x6 &&& 0) &&& 0), .int x7, .int (x5 - x5 / 5 * 5), .int 1, .int z162] [.int (hi162 132 j176), .int x7, .ref 133] (rx_hp L t hi162 hl162 v162) Q
                      obtain ⟨j177, ej177, hj177, k⟩ := k
                      refine rx_aw_iast (pc := 209) (n := 3) j177 ej177 rfl rfl (by decide) rfl hj177 (by decide) ?_
                      show rx_aw 236 210 [.ref 90, .int x1, .int x2, .int x3, .int x4, .int (x5 / 5), .int ((x6 &&& 0) &&& 0), .int x7, .int (x5 - x5 / 5 * 5), .int 1, .int z162] [] (rx_hp L t (rx_u hi162 133 j177 (hi162 132 j176)) hl162 v162) Q
                      refine rx_aw_s 2 (pc := 210) rfl ?_
                      show rx_aw 236 36 [.ref 90, .int x1, .int x2, .int x3, .int x4, .int (x5 / 5), .int ((x6 &&& 0) &&& 0), .int (x7 + 1), .int (x5 - x5 / 5 * 5), .int 1, .int z162] [] (rx_hp L t (rx_u hi162 133 j177 (hi162 132 j176)) hl162 v162) Q
                      exact rx_aw_le (ls := [.ref 90, .int x1, .int x2, .int x3, .int x4, .int (x5 / 5), .int ((x6 &&& 0) &&& 0), .int (x7 + 1), rx_no, rx_no, rx_no]) ⟨Or.inr rfl, ⟨Or.inr rfl, ⟨Or.inr rfl, ⟨Or.inr rfl, ⟨Or.inr rfl, ⟨Or.inr rfl, ⟨Or.inr rfl, ⟨Or.inr rfl, ⟨Or.inl rfl, ⟨Or.inl rfl, ⟨Or.inl rfl, trivial⟩⟩⟩⟩⟩⟩⟩⟩⟩⟩⟩ k
                    · have k := k.2 c175
                      show rx_aw 236 182 [.ref 90, .int x1, .int x2, .int x3, .int x4, .int (x5 / 5), .int ((x6 &&& 0) &&& 0), .int x7, .int (x5 - x5 / 5 * 5), .int 1, .int z162] [.int x7, .ref 133] (rx_hp L t hi162 hl162 v162) Q
                      refine rx_aw_s 3 (pc := 182) rfl ?_
                      show rx_aw 236 188 [.ref 90, .int x1, .int x2, .int x3, .int x4, .int (x5 / 5), .int ((x6 &&& 0) &&& 0), .int x7, .int (x5 - x5 / 5 * 5), .int 1, .int z162] [.int z162, .ref 127, .int x7, .ref 133] (rx_hp L t hi162 hl162 v162) Q
                      obtain ⟨j178, ej178, hj178, k⟩ := k
                      refine rx_aw_iald (pc := 188) (n := 64) j178 ej178 rfl rfl rfl hj178 (by decide) ?_
                      show rx_aw 236 189 [.ref 90, .int x1, .int x2, .int x3, .int x4, .int (x5 / 5), .int ((x6 &&& 0) &&& 0), .int x7, .int (x5 - x5 / 5 * 5), .int 1, .int z162] [.int (hi162 127 j178), .int x7, .ref 133] (rx_hp L t hi162 hl162 v162) Q
                      refine rx_aw_s 1 (pc := 189) rfl ?_
                      refine rx_w_if (c := (hi162 127 j178) < 0) ⟨fun c179 => ?_, fun c179 => ?_⟩
                      · have k := k.1 c179
                        show rx_aw 236 202 [.ref 90, .int x1, .int x2, .int x3, .int x4, .int (x5 / 5), .int ((x6 &&& 0) &&& 0), .int x7, .int (x5 - x5 / 5 * 5), .int 1, .int z162] [.int x7, .ref 133] (rx_hp L t hi162 hl162 v162) Q
                        refine rx_aw_s 3 (pc := 202) rfl ?_
                        show rx_aw 236 208 [.ref 90, .int x1, .int x2, .int x3, .int x4, .int (x5 / 5), .int ((x6 &&& 0) &&& 0), .int x7, .int (x5 - x5 / 5 * 5), .int 1, .int z162] [.int x7, .ref 132, .int x7, .ref 133] (rx_hp L t hi162 hl162 v162) Q
                        obtain ⟨j180, ej180, hj180, k⟩ := k
                        refine rx_aw_iald (pc := 208) (n := 3) j180 ej180 rfl rfl rfl hj180 (by decide) ?_
                        show rx_aw 236 209 [.ref 90, .int x1, .int x2, .int x3, .int x4, .int (x5 / 5), .int ((x6 &&& 0) &&& 0), .int x7, .int (x5 - x5 / 5 * 5), .int 1, .int z162] [.int (hi162 132 j180), .int x7, .ref 133] (rx_hp L t hi162 hl162 v162) Q
                        obtain ⟨j181, ej181, hj181, k⟩ := k
                        refine rx_aw_iast (pc := 209) (n := 3) j181 ej181 rfl rfl (by decide) rfl hj181 (by decide) ?_
                        show rx_aw 236 210 [.ref 90, .int x1, .int x2, .int x3, .int x4, .int (x5 / 5), .int ((x6 &&& 0) &&& 0), .int x7, .int (x5 - x5 / 5 * 5), .int 1, .int z162] [] (rx_hp L t (rx_u hi162 133 j181 (hi162 132 j180)) hl162 v162) Q
                        refine rx_aw_s 2 (pc := 210) rfl ?_
                        show rx_aw 236 36 [.ref 90, .int x1, .int x2, .int x3, .int x4, .int (x5 / 5), .int ((x6 &&& 0) &&& 0), .int (x7 + 1), .int (x5 - x5 / 5 * 5), .int 1, .int z162] [] (rx_hp L t (rx_u hi162 133 j181 (hi162 132 j180)) hl162 v162) Q
                        exact rx_aw_le (ls := [.ref 90, .int x1, .int x2, .int x3, .int x4, .int (x5 / 5), .int ((x6 &&& 0) &&& 0), .int (x7 + 1), rx_no, rx_no, rx_no]) ⟨Or.inr rfl, ⟨Or.inr rfl, ⟨Or.inr rfl, ⟨Or.inr rfl, ⟨Or.inr rfl, ⟨Or.inr rfl, ⟨Or.inr rfl, ⟨Or.inr rfl, ⟨Or.inl rfl, ⟨Or.inl rfl, ⟨Or.inl rfl, trivial⟩⟩⟩⟩⟩⟩⟩⟩⟩⟩⟩ k
                      · have k := k.2 c179
                        show rx_aw 236 192 [.ref 90, .int x1, .int x2, .int x3, .int x4, .int (x5 / 5), .int ((x6 &&& 0) &&& 0), .int x7, .int (x5 - x5 / 5 * 5), .int 1, .int z162] [.int x7, .ref 133] (rx_hp L t hi162 hl162 v162) Q
                        refine rx_aw_s 3 (pc := 192) rfl ?_
                        show rx_aw 236 198 [.ref 90, .int x1, .int x2, .int x3, .int x4, .int (x5 / 5), .int ((x6 &&& 0) &&& 0), .int x7, .int (x5 - x5 / 5 * 5), .int 1, .int z162] [.int z162, .ref 127, .int x7, .ref 133] (rx_hp L t hi162 hl162 v162) Q
                        obtain ⟨j182, ej182, hj182, k⟩ := k
                        refine rx_aw_iald (pc := 198) (n := 64) j182 ej182 rfl rfl rfl hj182 (by decide) ?_
                        show rx_aw 236 199 [.ref 90, .int x1, .int x2, .int x3, .int x4, .int (x5 / 5), .int ((x6 &&& 0) &&& 0), .int x7, .int (x5 - x5 / 5 * 5), .int 1, .int z162] [.int (hi162 127 j182), .int x7, .ref 133] (rx_hp L t hi162 hl162 v162) Q
                        refine rx_aw_s 1 (pc := 199) rfl ?_
                        show rx_aw 236 209 [.ref 90, .int x1, .int x2, .int x3, .int x4, .int (x5 / 5), .int ((x6 &&& 0) &&& 0), .int x7, .int (x5 - x5 / 5 * 5), .int 1, .int z162] [.int (hi162 127 j182), .int x7, .ref 133] (rx_hp L t hi162 hl162 v162) Q
                        obtain ⟨j183, ej183, hj183, k⟩ := k
                        refine rx_aw_iast (pc := 209) (n := 3) j183 ej183 rfl rfl (by decide) rfl hj183 (by decide) ?_
                        show rx_aw 236 210 [.ref 90, .int x1, .int x2, .int x3, .int x4, .int (x5 / 5), .int ((x6 &&& 0) &&& 0), .int x7, .int (x5 - x5 / 5 * 5), .int 1, .int z162] [] (rx_hp L t (rx_u hi162 133 j183 (hi162 127 j182)) hl162 v162) Q
                        refine rx_aw_s 2 (pc := 210) rfl ?_
                        show rx_aw 236 36 [.ref 90, .int x1, .int x2, .int x3, .int x4, .int (x5 / 5), .int ((x6 &&& 0) &&& 0), .int (x7 + 1), .int (x5 - x5 / 5 * 5), .int 1, .int z162] [] (rx_hp L t (rx_u hi162 133 j183 (hi162 127 j182)) hl162 v162) Q
                        exact rx_aw_le (ls := [.ref 90, .int x1, .int x2, .int x3, .int x4, .int (x5 / 5), .int ((x6 &&& 0) &&& 0), .int (x7 + 1), rx_no, rx_no, rx_no]) ⟨Or.inr rfl, ⟨Or.inr rfl, ⟨Or.inr rfl, ⟨Or.inr rfl, ⟨Or.inr rfl, ⟨Or.inr rfl, ⟨Or.inr rfl, ⟨Or.inr rfl, ⟨Or.inl rfl, ⟨Or.inl rfl, ⟨Or.inl rfl, trivial⟩⟩⟩⟩⟩⟩⟩⟩⟩⟩⟩ k
                  · have k := k.2 c174
                    show rx_aw 236 163 [.ref 90, .int x1, .int x2, .int x3, .int x4, .int (x5 / 5), .int (x6 &&& 0), .int x7, .int (x5 - x5 / 5 * 5), .int 1, .int z162] [.int (x6 &&& 0)] (rx_hp L t hi162 hl162 v162) Q
                    refine rx_aw_s 9 (pc := 163) rfl ?_
                    refine rx_w_if (c := z162 < 0) ⟨fun c184 => ?_, fun c184 => ?_⟩
                    · have k := k.1 c184
                      show rx_aw 236 202 [.ref 90, .int x1, .int x2, .int x3, .int x4, .int (x5 / 5), .int ((x6 &&& 0) &&& 1), .int x7, .int (x5 - x5 / 5 * 5), .int 1, .int z162] [.int x7, .ref 133] (rx_hp L t hi162 hl162 v162) Q
                      refine rx_aw_s 3 (pc := 202) rfl ?_
                      show rx_aw 236 208 [.ref 90, .int x1, .int x2, .int x3, .int x4, .int (x5 / 5), .int ((x6 &&& 0) &&& 1), .int x7, .int (x5 - x5 / 5 * 5), .int 1, .int z162] [.int x7, .ref 132, .int x7, .ref 133] (rx_hp L t hi162 hl162 v162) Q
                      obtain ⟨j185, ej185, hj185, k⟩ := k
                      refine rx_aw_iald (pc := 208) (n := 3) j185 ej185 rfl rfl rfl hj185 (by decide) ?_
                      show rx_aw 236 209 [.ref 90, .int x1, .int x2, .int x3, .int x4, .int (x5 / 5), .int ((x6 &&& 0) &&& 1), .int x7, .int (x5 - x5 / 5 * 5), .int 1, .int z162] [.int (hi162 132 j185), .int x7, .ref 133] (rx_hp L t hi162 hl162 v162) Q
                      obtain ⟨j186, ej186, hj186, k⟩ := k
                      refine rx_aw_iast (pc := 209) (n := 3) j186 ej186 rfl rfl (by decide) rfl hj186 (by decide) ?_
                      show rx_aw 236 210 [.ref 90, .int x1, .int x2, .int x3, .int x4, .int (x5 / 5), .int ((x6 &&& 0) &&& 1), .int x7, .int (x5 - x5 / 5 * 5), .int 1, .int z162] [] (rx_hp L t (rx_u hi162 133 j186 (hi162 132 j185)) hl162 v162) Q
                      refine rx_aw_s 2 (pc := 210) rfl ?_
                      show rx_aw 236 36 [.ref 90, .int x1, .int x2, .int x3, .int x4, .int (x5 / 5), .int ((x6 &&& 0) &&& 1), .int (x7 + 1), .int (x5 - x5 / 5 * 5), .int 1, .int z162] [] (rx_hp L t (rx_u hi162 133 j186 (hi162 132 j185)) hl162 v162) Q
                      exact rx_aw_le (ls := [.ref 90, .int x1, .int x2, .int x3, .int x4, .int (x5 / 5), .int ((x6 &&& 0) &&& 1), .int (x7 + 1), rx_no, rx_no, rx_no]) ⟨Or.inr rfl, ⟨Or.inr rfl, ⟨Or.inr rfl, ⟨Or.inr rfl, ⟨Or.inr rfl, ⟨Or.inr rfl, ⟨Or.inr rfl, ⟨Or.inr rfl, ⟨Or.inl rfl, ⟨Or.inl rfl, ⟨Or.inl rfl, trivial⟩⟩⟩⟩⟩⟩⟩⟩⟩⟩⟩ k
                    · have k := k.2 c184
                      show rx_aw 236 182 [.ref 90, .int x1, .int x2, .int x3, .int x4, .int (x5 / 5), .int ((x6 &&& 0) &&& 1), .int x7, .int (x5 - x5 / 5 * 5), .int 1, .int z162] [.int x7, .ref 133] (rx_hp L t hi162 hl162 v162) Q
                      refine rx_aw_s 3 (pc := 182) rfl ?_
                      show rx_aw 236 188 [.ref 90, .int x1, .int x2, .int x3, .int x4, .int (x5 / 5), .int ((x6 &&& 0) &&& 1), .int x7, .int (x5 - x5 / 5 * 5), .int 1, .int z162] [.int z162, .ref 127, .int x7, .ref 133] (rx_hp L t hi162 hl162 v162) Q
                      obtain ⟨j187, ej187, hj187, k⟩ := k
                      refine rx_aw_iald (pc := 188) (n := 64) j187 ej187 rfl rfl rfl hj187 (by decide) ?_
                      show rx_aw 236 189 [.ref 90, .int x1, .int x2, .int x3, .int x4, .int (x5 / 5), .int ((x6 &&& 0) &&& 1), .int x7, .int (x5 - x5 / 5 * 5), .int 1, .int z162] [.int (hi162 127 j187), .int x7, .ref 133] (rx_hp L t hi162 hl162 v162) Q
                      refine rx_aw_s 1 (pc := 189) rfl ?_
                      refine rx_w_if (c := (hi162 127 j187) < 0) ⟨fun c188 => ?_, fun c188 => ?_⟩
                      · have k := k.1 c188
                        show rx_aw 236 202 [.ref 90, .int x1, .int x2, .int x3, .int x4, .int (x5 / 5), .int ((x6 &&& 0) &&& 1), .int x7, .int (x5 - x5 / 5 * 5), .int 1, .int z162] [.int x7, .ref 133] (rx_hp L t hi162 hl162 v162) Q
                        refine rx_aw_s 3 (pc := 202) rfl ?_
                        show rx_aw 236 208 [.ref 90, .int x1, .int x2, .int x3, .int x4, .int (x5 / 5), .int ((x6 &&& 0) &&& 1), .int x7, .int (x5 - x5 / 5 * 5), .int 1, .int z162] [.int x7, .ref 132, .int x7, .ref 133] (rx_hp L t hi162 hl162 v162) Q
                        obtain ⟨j189, ej189, hj189, k⟩ := k
                        refine rx_aw_iald (pc := 208) (n := 3) j189 ej189 rfl rfl rfl hj189 (by decide) ?_
                        show rx_aw 236 209 [.ref 90, .int x1, .int x2, .int x3, .int x4, .int (x5 / 5), .int ((x6 &&& 0) &&& 1), .int x7, .int (x5 - x5 / 5 * 5), .int 1, .int z162] [.int (hi162 132 j189), .int x7, .ref 133] (rx_hp L t hi162 hl162 v162) Q
                        obtain ⟨j190, ej190, hj190, k⟩ := k
                        refine rx_aw_iast (pc := 209) (n := 3) j190 ej190 rfl rfl (by decide) rfl hj190 (by decide) ?_
                        show rx_aw 236 210 [.ref 90, .int x1, .int x2, .int x3, .int x4, .int (x5 / 5), .int ((x6 &&& 0) &&& 1), .int x7, .int (x5 - x5 / 5 * 5), .int 1, .int z162] [] (rx_hp L t (rx_u hi162 133 j190 (hi162 132 j189)) hl162 v162) Q
                        refine rx_aw_s 2 (pc := 210) rfl ?_
                        show rx_aw 236 36 [.ref 90, .int x1, .int x2, .int x3, .int x4, .int (x5 / 5), .int ((x6 &&& 0) &&& 1), .int (x7 + 1), .int (x5 - x5 / 5 * 5), .int 1, .int z162] [] (rx_hp L t (rx_u hi162 133 j190 (hi162 132 j189)) hl162 v162) Q
                        exact rx_aw_le (ls := [.ref 90, .int x1, .int x2, .int x3, .int x4, .int (x5 / 5), .int ((x6 &&& 0) &&& 1), .int (x7 + 1), rx_no, rx_no, rx_no]) ⟨Or.inr rfl, ⟨Or.inr rfl, ⟨Or.inr rfl, ⟨Or.inr rfl, ⟨Or.inr rfl, ⟨Or.inr rfl, ⟨Or.inr rfl, ⟨Or.inr rfl, ⟨Or.inl rfl, ⟨Or.inl rfl, ⟨Or.inl rfl, trivial⟩⟩⟩⟩⟩⟩⟩⟩⟩⟩⟩ k
                      · have k := k.2 c188
                        show rx_aw 236 192 [.ref 90, .int x1, .int x2, .int x3, .int x4, .int (x5 / 5), .int ((x6 &&& 0) &&& 1), .int x7, .int (x5 - x5 / 5 * 5), .int 1, .int z162] [.int x7, .ref 133] (rx_hp L t hi162 hl162 v162) Q
                        refine rx_aw_s 3 (pc := 192) rfl ?_
                        show rx_aw 236 198 [.ref 90, .int x1, .int x2, .int x3, .int x4, .int (x5 / 5), .int ((x6 &&& 0) &&& 1), .int x7, .int (x5 - x5 / 5 * 5), .int 1, .int z162] [.int z162, .ref 127, .int x7, .ref 133] (rx_hp L t hi162 hl162 v162) Q
                        obtain ⟨j191, ej191, hj191, k⟩ := k
                        refine rx_aw_iald (pc := 198) (n := 64) j191 ej191 rfl rfl rfl hj191 (by decide) ?_
                        show rx_aw 236 199 [.ref 90, .int x1, .int x2, .int x3, .int x4, .int (x5 / 5), .int ((x6 &&& 0) &&& 1), .int x7, .int (x5 - x5 / 5 * 5), .int 1, .int z162] [.int (hi162 127 j191), .int x7, .ref 133] (rx_hp L t hi162 hl162 v162) Q
                        refine rx_aw_s 1 (pc := 199) rfl ?_
                        show rx_aw 236 209 [.ref 90, .int x1, .int x2, .int x3, .int x4, .int (x5 / 5), .int ((x6 &&& 0) &&& 1), .int x7, .int (x5 - x5 / 5 * 5), .int 1, .int z162] [.int (hi162 127 j191), .int x7, .ref 133] (rx_hp L t hi162 hl162 v162) Q
                        obtain ⟨j192, ej192, hj192, k⟩ := k
                        refine rx_aw_iast (pc := 209) (n := 3) j192 ej192 rfl rfl (by decide) rfl hj192 (by decide) ?_
                        show rx_aw 236 210 [.ref 90, .int x1, .int x2, .int x3, .int x4, .int (x5 / 5), .int ((x6 &&& 0) &&& 1), .int x7, .int (x5 - x5 / 5 * 5), .int 1, .int z162] [] (rx_hp L t (rx_u hi162 133 j192 (hi162 127 j191)) hl162 v162) Q
                        refine rx_aw_s 2 (pc := 210) rfl ?_
                        show rx_aw 236 36 [.ref 90, .int x1, .int x2, .int x3, .int x4, .int (x5 / 5), .int ((x6 &&& 0) &&& 1), .int (x7 + 1), .int (x5 - x5 / 5 * 5), .int 1, .int z162] [] (rx_hp L t (rx_u hi162 133 j192 (hi162 127 j191)) hl162 v162) Q
                        exact rx_aw_le (ls := [.ref 90, .int x1, .int x2, .int x3, .int x4, .int (x5 / 5), .int ((x6 &&& 0) &&& 1), .int (x7 + 1), rx_no, rx_no, rx_no]) ⟨Or.inr rfl, ⟨Or.inr rfl, ⟨Or.inr rfl, ⟨Or.inr rfl, ⟨Or.inr rfl, ⟨Or.inr rfl, ⟨Or.inr rfl, ⟨Or.inr rfl, ⟨Or.inl rfl, ⟨Or.inl rfl, ⟨Or.inl rfl, trivial⟩⟩⟩⟩⟩⟩⟩⟩⟩⟩⟩ k
        · have k := k.2 c121
          show rx_aw 236 106 [.ref 90, .int x1, .int x2, .int x3, .int x4, .int (x5 / 5), .int x6, .int x7, .int (x5 - x5 / 5 * 5), .int 1, rx_no] [.int x6] (rx_hp L t (rx_u hi 133 j120 (hi 132 j119)) hl v) Q
          refine rx_aw_s 6 (pc := 106) rfl ?_
          refine rx_w_if (c := 1 = 0) ⟨fun c193 => ?_, fun c193 => ?_⟩
          · have k := k.1 c193
            show rx_aw 236 210 [.ref 90, .int x1, .int x2, .int x3, .int x4, .int (x5 / 5), .int (x6 &&& 1), .int x7, .int (x5 - x5 / 5 * 5), .int 1, rx_no] [] (rx_hp L t (rx_u hi 133 j120 (hi 132 j119)) hl v) Q
            refine rx_aw_s 2 (pc := 210) rfl ?_
            show rx_aw 236 36 [.ref 90, .int x1, .int x2, .int x3, .int x4, .int (x5 / 5), .int (x6 &&& 1), .int (x7 + 1), .int (x5 - x5 / 5 * 5), .int 1, rx_no] [] (rx_hp L t (rx_u hi 133 j120 (hi 132 j119)) hl v) Q
            exact rx_aw_le (ls := [.ref 90, .int x1, .int x2, .int x3, .int x4, .int (x5 / 5), .int (x6 &&& 1), .int (x7 + 1), rx_no, rx_no, rx_no]) ⟨Or.inr rfl, ⟨Or.inr rfl, ⟨Or.inr rfl, ⟨Or.inr rfl, ⟨Or.inr rfl, ⟨Or.inr rfl, ⟨Or.inr rfl, ⟨Or.inr rfl, ⟨Or.inl rfl, ⟨Or.inl rfl, ⟨Or.inl rfl, trivial⟩⟩⟩⟩⟩⟩⟩⟩⟩⟩⟩ k
          · have k := k.2 c193
            show rx_aw 236 119 [.ref 90, .int x1, .int x2, .int x3, .int x4, .int (x5 / 5), .int (x6 &&& 1), .int x7, .int (x5 - x5 / 5 * 5), .int 1, rx_no] [] (rx_hp L t (rx_u hi 133 j120 (hi 132 j119)) hl v) Q
            refine rx_aw_s 2 (pc := 119) rfl ?_
            refine rx_w_if (c := (x5 - x5 / 5 * 5) ≤ 0) ⟨fun c194 => ?_, fun c194 => ?_⟩
            · have k := k.1 c194
              show rx_aw 236 210 [.ref 90, .int x1, .int x2, .int x3, .int x4, .int (x5 / 5), .int (x6 &&& 1), .int x7, .int (x5 - x5 / 5 * 5), .int 1, rx_no] [] (rx_hp L t (rx_u hi 133 j120 (hi 132 j119)) hl v) Q
              refine rx_aw_s 2 (pc := 210) rfl ?_
              show rx_aw 236 36 [.ref 90, .int x1, .int x2, .int x3, .int x4, .int (x5 / 5), .int (x6 &&& 1), .int (x7 + 1), .int (x5 - x5 / 5 * 5), .int 1, rx_no] [] (rx_hp L t (rx_u hi 133 j120 (hi 132 j119)) hl v) Q
              exact rx_aw_le (ls := [.ref 90, .int x1, .int x2, .int x3, .int x4, .int (x5 / 5), .int (x6 &&& 1), .int (x7 + 1), rx_no, rx_no, rx_no]) ⟨Or.inr rfl, ⟨Or.inr rfl, ⟨Or.inr rfl, ⟨Or.inr rfl, ⟨Or.inr rfl, ⟨Or.inr rfl, ⟨Or.inr rfl, ⟨Or.inr rfl, ⟨Or.inl rfl, ⟨Or.inl rfl, ⟨Or.inl rfl, trivial⟩⟩⟩⟩⟩⟩⟩⟩⟩⟩⟩ k
            · have k := k.2 c194
              show rx_aw 236 124 [.ref 90, .int x1, .int x2, .int x3, .int x4, .int (x5 / 5), .int (x6 &&& 1), .int x7, .int (x5 - x5 / 5 * 5), .int 1, rx_no] [] (rx_hp L t (rx_u hi 133 j120 (hi 132 j119)) hl v) Q
              refine rx_aw_s 6 (pc := 124) rfl ?_
              show rx_aw 236 135 [.ref 90, .int x1, .int x2, .int x3, .int x4, .int (x5 / 5), .int (x6 &&& 1), .int x7, .int (x5 - x5 / 5 * 5), .int 1, rx_no] [.int x7, .ref 132, .ref 126, .ref 90] (rx_hp L t (rx_u hi 133 j120 (hi 132 j119)) hl v) Q
              obtain ⟨j195, ej195, hj195, k⟩ := k
              refine rx_aw_iald (pc := 135) (n := 3) j195 ej195 rfl rfl rfl hj195 (by decide) ?_
              show rx_aw 236 136 [.ref 90, .int x1, .int x2, .int x3, .int x4, .int (x5 / 5), .int (x6 &&& 1), .int x7, .int (x5 - x5 / 5 * 5), .int 1, rx_no] [.int ((rx_u hi 133 j120 (hi 132 j119)) 132 j195), .ref 126, .ref 90] (rx_hp L t (rx_u hi 133 j120 (hi 132 j119)) hl v) Q
              obtain ⟨j196, ej196, hj196, k⟩ := k
              refine rx_aw_iald (pc := 136) (n := 20) j196 ej196 rfl rfl rfl hj196 (by decide) ?_
              show rx_aw 236 137 [.ref 90, .int x1, .int x2, .int x3, .int x4, .int (x5 / 5), .int (x6 &&& 1), .int x7, .int (x5 - x5 / 5 * 5), .int 1, rx_no] [.int ((rx_u hi 133 j120 (hi 132 j119)) 126 j196), .ref 90] (rx_hp L t (rx_u hi 133 j120 (hi 132 j119)) hl v) Q
              refine rx_aw_s 3 (pc := 137) rfl ?_
              show rx_aw 236 141 [.ref 90, .int x1, .int x2, .int x3, .int x4, .int (x5 / 5), .int (x6 &&& 1), .int x7, .int (x5 - x5 / 5 * 5), .int 1, rx_no] [.int ((x5 - x5 / 5 * 5) - 1), .int ((rx_u hi 133 j120 (hi 132 j119)) 126 j196), .ref 90] (rx_hp L t (rx_u hi 133 j120 (hi 132 j119)) hl v) Q
              refine rx_w_callI (j := 181) (pc := 141) rfl rfl rfl rfl rfl ?_
              refine rx_aw.mono k (fun r h2 k => ?_)
              obtain ⟨z197, rfl, hi197, hl197, v197, rfl, k⟩ := k
              refine ⟨z197, rfl, ?_⟩
              show rx_aw 236 144 [.ref 90, .int x1, .int x2, .int x3, .int x4, .int (x5 / 5), .int (x6 &&& 1), .int x7, .int (x5 - x5 / 5 * 5), .int 1, rx_no] [.int z197] (rx_hp L t hi197 hl197 v197) Q
              refine rx_aw_s 4 (pc := 144) rfl ?_
              refine rx_w_if (c := z197 < 0) ⟨fun c198 => ?_, fun c198 => ?_⟩
              · have k := k.1 c198
                show rx_aw 236 167 [.ref 90, .int x1, .int x2, .int x3, .int x4, .int (x5 / 5), .int (x6 &&& 1), .int x7, .int (x5 - x5 / 5 * 5), .int 1, .int z197] [.int (x6 &&& 1)] (rx_hp L t hi197 hl197 v197) Q
                refine rx_aw_s 8 (pc := 167) rfl ?_
                refine rx_w_if (c := z197 < 0) ⟨fun c199 => ?_, fun c199 => ?_⟩
                · have k := k.1 c199
                  show rx_aw 236 202 [.ref 90, .int x1, .int x2, .int x3, .int x4, .int (x5 / 5), .int ((x6 &&& 1) &&& 0), .int x7, .int (x5 - x5 / 5 * 5), .int 1, .int z197] [.int x7, .ref 133] (rx_hp L t hi197 hl197 v197) Q
                  refine rx_aw_s 3 (pc := 202) rfl ?_
                  show rx_aw 236 208 [.ref 90, .int x1, .int x2, .int x3, .int x4, .int (x5 / 5), .int ((x6 &&& 1) &&& 0), .int x7, .int (x5 - x5 / 5 * 5), .int 1, .int z197] [.int x7, .ref 132, .int x7, .ref 133] (rx_hp L t hi197 hl197 v197) Q
                  obtain ⟨j200, ej200, hj200, k⟩ := k
                  refine rx_aw_iald (pc := 208) (n := 3) j200 ej200 rfl rfl rfl hj200 (by decide) ?_
                  show rx_aw 236 209 [.ref 90, .int x1, .int x2, .int x3, .int x4, .int (x5 / 5), .int ((x6 &&& 1) &&& 0), .int x7, .int (x5 - x5 / 5 * 5), .int 1, .int z197] [.int (hi197 132 j200), .int x7, .ref 133] (rx_hp L t hi197 hl197 v197) Q
                  obtain ⟨j201, ej201, hj201, k⟩ := k
                  refine rx_aw_iast (pc := 209) (n := 3) j201 ej201 rfl rfl (by decide) rfl hj201 (by decide) ?_
                  show rx_aw 236 210 [.ref 90, .int x1, .int x2, .int x3, .int x4, .int (x5 / 5), .int ((x6 &&& 1) &&& 0), .int x7, .int (x5 - x5 / 5 * 5), .int 1, .int z197] [] (rx_hp L t (rx_u hi197 133 j201 (hi197 132 j200)) hl197 v197) Q
                  refine rx_aw_s 2 (pc := 210) rfl ?_
                  show rx_aw 236 36 [.ref 90, .int x1, .int x2, .int x3, .int x4, .int (x5 / 5), .int ((x6 &&& 1) &&& 0), .int (x7 + 1), .int (x5 - x5 / 5 * 5), .int 1, .int z197] [] (rx_hp L t (rx_u hi197 133 j201 (hi197 132 j200)) hl197 v197) Q
                  exact rx_aw_le (ls := [.ref 90, .int x1, .int x2, .int x3, .int x4, .int (x5 / 5), .int ((x6 &&& 1) &&& 0), .int (x7 + 1), rx_no, rx_no, rx_no]) ⟨Or.inr rfl, ⟨Or.inr rfl, ⟨Or.inr rfl, ⟨Or.inr rfl, ⟨Or.inr rfl, ⟨Or.inr rfl, ⟨Or.inr rfl, ⟨Or.inr rfl, ⟨Or.inl rfl, ⟨Or.inl rfl, ⟨Or.inl rfl, trivial⟩⟩⟩⟩⟩⟩⟩⟩⟩⟩⟩ k
                · have k := k.2 c199
                  show rx_aw 236 182 [.ref 90, .int x1, .int x2, .int x3, .int x4, .int (x5 / 5), .int ((x6 &&& 1) &&& 0), .int x7, .int (x5 - x5 / 5 * 5), .int 1, .int z197] [.int x7, .ref 133] (rx_hp L t hi197 hl197 v197) Q
                  refine rx_aw_s 3 (pc := 182) rfl ?_
                  show rx_aw 236 188 [.ref 90, .int x1, .int x2, .int x3, .int x4, .int (x5 / 5), .int ((x6 &&& 1) &&& 0), .int x7, .int (x5 - x5 / 5 * 5), .int 1, .int z197] [.int z197, .ref 127, .int x7, .ref 133] (rx_hp L t hi197 hl197 v197) Q
                  obtain ⟨j202, ej202, hj202, k⟩ := k
                  refine rx_aw_iald (pc := 188) (n := 64) j202 ej202 rfl rfl rfl hj202 (by decide) ?_
                  show rx_aw 236 189 [.ref 90, .int x1, .int x2, .int x3, .int x4, .int (x5 / 5), .int ((x6 &&& 1) &&& 0), .int x7, .int (x5 - x5 / 5 * 5), .int 1, .int z197] [.int (hi197 127 j202), .int x7, .ref 133] (rx_hp L t hi197 hl197 v197) Q
                  refine rx_aw_s 1 (pc := 189) rfl ?_
                  refine rx_w_if (c := (hi197 127 j202) < 0) ⟨fun c203 => ?_, fun c203 => ?_⟩
                  · have k := k.1 c203
                    show rx_aw 236 202 [.ref 90, .int x1, .int x2, .int x3, .int x4, .int (x5 / 5), .int ((x6 &&& 1) &&& 0), .int x7, .int (x5 - x5 / 5 * 5), .int 1, .int z197] [.int x7, .ref 133] (rx_hp L t hi197 hl197 v197) Q
                    refine rx_aw_s 3 (pc := 202) rfl ?_
                    show rx_aw 236 208 [.ref 90, .int x1, .int x2, .int x3, .int x4, .int (x5 / 5), .int ((x6 &&& 1) &&& 0), .int x7, .int (x5 - x5 / 5 * 5), .int 1, .int z197] [.int x7, .ref 132, .int x7, .ref 133] (rx_hp L t hi197 hl197 v197) Q
                    obtain ⟨j204, ej204, hj204, k⟩ := k
                    refine rx_aw_iald (pc := 208) (n := 3) j204 ej204 rfl rfl rfl hj204 (by decide) ?_
                    show rx_aw 236 209 [.ref 90, .int x1, .int x2, .int x3, .int x4, .int (x5 / 5), .int ((x6 &&& 1) &&& 0), .int x7, .int (x5 - x5 / 5 * 5), .int 1, .int z197] [.int (hi197 132 j204), .int x7, .ref 133] (rx_hp L t hi197 hl197 v197) Q
                    obtain ⟨j205, ej205, hj205, k⟩ := k
                    refine rx_aw_iast (pc := 209) (n := 3) j205 ej205 rfl rfl (by decide) rfl hj205 (by decide) ?_
                    show rx_aw 236 210 [.ref 90, .int x1, .int x2, .int x3, .int x4, .int (x5 / 5), .int ((x6 &&& 1) &&& 0), .int x7, .int (x5 - x5 / 5 * 5), .int 1, .int z197] [] (rx_hp L t (rx_u hi197 133 j205 (hi197 132 j204)) hl197 v197) Q
                    refine rx_aw_s 2 (pc := 210) rfl ?_
                    show rx_aw 236 36 [.ref 90, .int x1, .int x2, .int x3, .int x4, .int (x5 / 5), .int ((x6 &&& 1) &&& 0), .int (x7 + 1), .int (x5 - x5 / 5 * 5), .int 1, .int z197] [] (rx_hp L t (rx_u hi197 133 j205 (hi197 132 j204)) hl197 v197) Q
                    exact rx_aw_le (ls := [.ref 90, .int x1, .int x2, .int x3, .int x4, .int (x5 / 5), .int ((x6 &&& 1) &&& 0), .int (x7 + 1), rx_no, rx_no, rx_no]) ⟨Or.inr rfl, ⟨Or.inr rfl, ⟨Or.inr rfl, ⟨Or.inr rfl, ⟨Or.inr rfl, ⟨Or.inr rfl, ⟨Or.inr rfl, ⟨Or.inr rfl, ⟨Or.inl rfl, ⟨Or.inl rfl, ⟨Or.inl rfl, trivial⟩⟩⟩⟩⟩⟩⟩⟩⟩⟩⟩ k
                  · have k := k.2 c203
                    show rx_aw 236 192 [.ref 90, .int x1, .int x2, .int x3, .int x4, .int (x5 / 5), .int ((x6 &&& 1) &&& 0), .int x7, .int (x5 - x5 / 5 * 5), .int 1, .int z197] [.int x7, .ref 133] (rx_hp L t hi197 hl197 v197) Q
                    refine rx_aw_s 3 (pc := 192) rfl ?_
                    show rx_aw 236 198 [.ref 90, .int x1, .int x2, .int x3, .int x4, .int (x5 / 5), .int ((x6 &&& 1) &&& 0), .int x7, .int (x5 - x5 / 5 * 5), .int 1, .int z197] [.int z197, .ref 127, .int x7, .ref 133] (rx_hp L t hi197 hl197 v197) Q
                    obtain ⟨j206, ej206, hj206, k⟩ := k
                    refine rx_aw_iald (pc := 198) (n := 64) j206 ej206 rfl rfl rfl hj206 (by decide) ?_
                    show rx_aw 236 199 [.ref 90, .int x1, .int x2, .int x3, .int x4, .int (x5 / 5), .int ((x6 &&& 1) &&& 0), .int x7, .int (x5 - x5 / 5 * 5), .int 1, .int z197] [.int (hi197 127 j206), .int x7, .ref 133] (rx_hp L t hi197 hl197 v197) Q
                    refine rx_aw_s 1 (pc := 199) rfl ?_
                    show rx_aw 236 209 [.ref 90, .int x1, .int x2, .int x3, .int x4, .int (x5 / 5), .int ((x6 &&& 1) &&& 0), .int x7, .int (x5 - x5 / 5 * 5), .int 1, .int z197] [.int (hi197 127 j206), .int x7, .ref 133] (rx_hp L t hi197 hl197 v197) Q
                    obtain ⟨j207, ej207, hj207, k⟩ := k
                    refine rx_aw_iast (pc := 209) (n := 3) j207 ej207 rfl rfl (by decide) rfl hj207 (by decide) ?_
                    show rx_aw 236 210 [.ref 90, .int x1, .int x2, .int x3, .int x4, .int (x5 / 5), .int ((x6 &&& 1) &&& 0), .int x7, .int (x5 - x5 / 5 * 5), .int 1, .int z197] [] (rx_hp L t (rx_u hi197 133 j207 (hi197 127 j206)) hl197 v197) Q
                    refine rx_aw_s 2 (pc := 210) rfl ?_
                    show rx_aw 236 36 [.ref 90, .int x1, .int x2, .int x3, .int x4, .int (x5 / 5), .int ((x6 &&& 1) &&& 0), .int (x7 + 1), .int (x5 - x5 / 5 * 5), .int 1, .int z197] [] (rx_hp L t (rx_u hi197 133 j207 (hi197 127 j206)) hl197 v197) Q
                    exact rx_aw_le (ls := [.ref 90, .int x1, .int x2, .int x3, .int x4, .int (x5 / 5), .int ((x6 &&& 1) &&& 0), .int (x7 + 1), rx_no, rx_no, rx_no]) ⟨Or.inr rfl, ⟨Or.inr rfl, ⟨Or.inr rfl, ⟨Or.inr rfl, ⟨Or.inr rfl, ⟨Or.inr rfl, ⟨Or.inr rfl, ⟨Or.inr rfl, ⟨Or.inl rfl, ⟨Or.inl rfl, ⟨Or.inl rfl, trivial⟩⟩⟩⟩⟩⟩⟩⟩⟩⟩⟩ k
              · have k := k.2 c198
                show rx_aw 236 153 [.ref 90, .int x1, .int x2, .int x3, .int x4, .int (x5 / 5), .int (x6 &&& 1), .int x7, .int (x5 - x5 / 5 * 5), .int 1, .int z197] [.int (x6 &&& 1)] (rx_hp L t hi197 hl197 v197) Q
                refine rx_aw_s 3 (pc := 153) rfl ?_
                show rx_aw 236 159 [.ref 90, .int x1, .int x2, .int x3, .int x4, .int (x5 / 5), .int (x6 &&& 1), .int x7, .int (x5 - x5 / 5 * 5), .int 1, .int z197] [.int z197, .ref 127, .int (x6 &&& 1)] (rx_hp L t hi197 hl197 v197) Q
                obtain ⟨j208, ej208, hj208, k⟩ := k
                refine rx_aw_iald (pc := 159) (n := 64) j208 ej208 rfl rfl rfl hj208 (by decide) ?_
                show rx_aw 236 160 [.ref 90, .int x1, .int x2, .int x3, .int x4, .int (x5 / 5), .int (x6 &&& 1), .int x7, .int (x5 - x5 / 5 * 5), .int 1, .int z197] [.int (hi197 127 j208), .int (x6 &&& 1)] (rx_hp L t hi197 hl197 v197) Q
                refine rx_aw_s 1 (pc := 160) rfl ?_
                refine rx_w_if (c := (hi197 127 j208) < 0) ⟨fun c209 => ?_, fun c209 => ?_⟩
                · have k := k.1 c209
                  show rx_aw 236 167 [.ref 90, .int x1, .int x2, .int x3, .int x4, .int (x5 / 5), .int (x6 &&& 1), .int x7, .int (x5 - x5 / 5 * 5), .int 1, .int z197] [.int (x6 &&& 1)] (rx_hp L t hi197 hl197 v197) Q
                  refine rx_aw_s 8 (pc := 167) rfl ?_
                  refine rx_w_if (c := z197 < 0) ⟨fun c210 => ?_, fun c210 => ?_⟩
                  · have k := k.1 c210
                    show rx_aw 236 202 [.ref 90, .int x1, .int x2, .int x3, .int x4, .int (x5 / 5), .int ((x6 &&& 1) &&& 0), .int x7, .int (x5 - x5 / 5 * 5), .int 1, .int z197] [.int x7, .ref 133] (rx_hp L t hi197 hl197 v197) Q
                    refine rx_aw_s 3 (pc := 202) rfl ?_
                    show rx_aw 236 208 [.ref 90, .int x1, .int x2, .int x3, .int x4, .int (x5 / 5), .int ((x6 &&& 1) &&& 0), .int x7, .int (x5 - x5 / 5 * 5), .int 1, .int z197] [.int x7, .ref 132, .int x7, .ref 133] (rx_hp L t hi197 hl197 v197) Q
                    obtain ⟨j211, ej211, hj211, k⟩ := k
                    refine rx_aw_iald (pc := 208) (n := 3) j211 ej211 rfl rfl rfl hj211 (by decide) ?_
                    show rx_aw 236 209 [.ref 90, .int x1, .int x2, .int x3, .int x4, .int (x5 / 5), .int ((x6 &&& 1) &&& 0), .int x7, .int (x5 - x5 / 5 * 5), .int 1, .int z197] [.int (hi197 132 j211), .int x7, .ref 133] (rx_hp L t hi197 hl197 v197) Q
                    obtain ⟨j212, ej212, hj212, k⟩ := k
                    refine rx_aw_iast (pc := 209) (n := 3) j212 ej212 rfl rfl (by decide) rfl hj212 (by decide) ?_
                    show rx_aw 236 210 [.ref 90, .int x1, .int x2, .int x3, .int x4, .int (x5 / 5), .int ((x6 &&& 1) &&& 0), .int x7, .int (x5 - x5 / 5 * 5), .int 1, .int z197] [] (rx_hp L t (rx_u hi197 133 j212 (hi197 132 j211)) hl197 v197) Q
                    refine rx_aw_s 2 (pc := 210) rfl ?_
                    show rx_aw 236 36 [.ref 90, .int x1, .int x2, .int x3, .int x4, .int (x5 / 5), .int ((x6 &&& 1) &&& 0), .int (x7 + 1), .int (x5 - x5 / 5 * 5), .int 1, .int z197] [] (rx_hp L t (rx_u hi197 133 j212 (hi197 132 j211)) hl197 v197) Q
                    exact rx_aw_le (ls := [.ref 90, .int x1, .int x2, .int x3, .int x4, .int (x5 / 5), .int ((x6 &&& 1) &&& 0), .int (x7 + 1), rx_no, rx_no, rx_no]) ⟨Or.inr rfl, ⟨Or.inr rfl, ⟨Or.inr rfl, ⟨Or.inr rfl, ⟨Or.inr rfl, ⟨Or.inr rfl, ⟨Or.inr rfl, ⟨Or.inr rfl, ⟨Or.inl rfl, ⟨Or.inl rfl, ⟨Or.inl rfl, trivial⟩⟩⟩⟩⟩⟩⟩⟩⟩⟩⟩ k
                  · have k := k.2 c210
                    show rx_aw 236 182 [.ref 90, .int x1, .int x2, .int x3, .int x4, .int (x5 / 5), .int ((x6 &&& 1) &&& 0), .int x7, .int (x5 - x5 / 5 * 5), .int 1, .int z197] [.int x7, .ref 133] (rx_hp L t hi197 hl197 v197) Q
                    refine rx_aw_s 3 (pc := 182) rfl ?_
                    show rx_aw 236 188 [.ref 90, .int x1, .int x2, .int x3, .int x4, .int (x5 / 5), .int ((x6 &&& 1) &&& 0), .int x7, .int (x5 - x5 / 5 * 5), .int 1, .int z197] [.int z197, .ref 127, .int x7, .ref 133] (rx_hp L t hi197 hl197 v197) Q
                    obtain ⟨j213, ej213, hj213, k⟩ := k
                    refine rx_aw_iald (pc := 188) (n := 64) j213 ej213 rfl rfl rfl hj213 (by decide) ?_
                    show rx_aw 236 189 [.ref 90, .int x1, .int x2, .int x3, .int x4, .int (x5 / 5), .int ((x6 &&& 1) &&& 0), .int x7, .int (x5 - x5 / 5 * 5), .int 1, .int z197] [.int (hi197 127 j213), .int x7, .ref 133] (rx_hp L t hi197 hl197 v197) Q
                    refine rx_aw_s 1 (pc := 189) rfl ?_
                    refine rx_w_if (c := (hi197 127 j213) < 0) ⟨fun c214 => ?_, fun c214 => ?_⟩
                    · have k := k.1 c214
                      show rx_aw 236 202 [.ref 90, .int x1, .int x2, .int x3, .int x4, .int (x5 / 5), .int ((x6 &&& 1) &&& 0), .int x7, .int (x5 - x5 / 5 * 5), .int 1, .int z197] [.int x7, .ref 133] (rx_hp L t hi197 hl197 v197) Q
                      refine rx_aw_s 3 (pc := 202) rfl ?_
                      show rx_aw 236 208 [.ref 90, .int x1, .int x2, .int x3, .int x4, .int (x5 / 5), .int ((x6 &&& 1) &&& 0), .int x7, .int (x5 - x5 / 5 * 5), .int 1, .int z197] [.int x7, .ref 132, .int x7, .ref 133] (rx_hp L t hi197 hl197 v197) Q
                      obtain ⟨j215, ej215, hj215, k⟩ := k
                      refine rx_aw_iald (pc := 208) (n := 3) j215 ej215 rfl rfl rfl hj215 (by decide) ?_
                      show rx_aw 236 209 [.ref 90, .int x1, .int x2, .int x3, .int x4, .int (x5 / 5), .int ((x6 &&& 1) &&& 0), .int x7, .int (x5 - x5 / 5 * 5), .int 1, .int z197] [.int (hi197 132 j215), .int x7, .ref 133] (rx_hp L t hi197 hl197 v197) Q
                      obtain ⟨j216, ej216, hj216, k⟩ := k
                      refine rx_aw_iast (pc := 209) (n := 3) j216 ej216 rfl rfl (by decide) rfl hj216 (by decide) ?_
                      show rx_aw 236 210 [.ref 90, .int x1, .int x2, .int x3, .int x4, .int (x5 / 5), .int ((x6 &&& 1) &&& 0), .int x7, .int (x5 - x5 / 5 * 5), .int 1, .int z197] [] (rx_hp L t (rx_u hi197 133 j216 (hi197 132 j215)) hl197 v197) Q
                      refine rx_aw_s 2 (pc := 210) rfl ?_
                      show rx_aw 236 36 [.ref 90, .int x1, .int x2, .int x3, .int x4, .int (x5 / 5), .int ((x6 &&& 1) &&& 0), .int (x7 + 1), .int (x5 - x5 / 5 * 5), .int 1, .int z197] [] (rx_hp L t (rx_u hi197 133 j216 (hi197 132 j215)) hl197 v197) Q
                      exact rx_aw_le (ls := [.ref 90, .int x1, .int x2, .int x3, .int x4, .int (x5 / 5), .int ((x6 &&& 1) &&& 0), .int (x7 + 1), rx_no, rx_no, rx_no]) ⟨Or.inr rfl, ⟨Or.inr rfl, ⟨Or.inr rfl, ⟨Or.inr rfl, ⟨Or.inr rfl, ⟨Or.inr rfl, ⟨Or.inr rfl, ⟨Or.inr rfl, ⟨Or.inl rfl, ⟨Or.inl rfl, ⟨Or.inl rfl, trivial⟩⟩⟩⟩⟩⟩⟩⟩⟩⟩⟩ k
                    · have k := k.2 c214
                      show rx_aw 236 192 [.ref 90, .int x1, .int x2, .int x3, .int x4, .int (x5 / 5), .int ((x6 &&& 1) &&& 0), .int x7, .int (x5 - x5 / 5 * 5), .int 1, .int z197] [.int x7, .ref 133] (rx_hp L t hi197 hl197 v197) Q
                      refine rx_aw_s 3 (pc := 192) rfl ?_
                      show rx_aw 236 198 [.ref 90, .int x1, .int x2, .int x3, .int x4, .int (x5 / 5), .int ((x6 &&& 1) &&& 0), .int x7, .int (x5 - x5 / 5 * 5), .int 1, .int z197] [.int z197, .ref 127, .int x7, .ref 133] (rx_hp L t hi197 hl197 v197) Q
                      obtain ⟨j217, ej217, hj217, k⟩ := k
                      refine rx_aw_iald (pc := 198) (n := 64) j217 ej217 rfl rfl rfl hj217 (by decide) ?_
                      show rx_aw 236 199 [.ref 90, .int x1, .int x2, .int x3, .int x4, .int (x5 / 5), .int ((x6 &&& 1) &&& 0), .int x7, .int (x5 - x5 / 5 * 5), .int 1, .int z197] [.int (hi197 127 j217), .int x7, .ref 133] (rx_hp L t hi197 hl197 v197) Q
                      refine rx_aw_s 1 (pc := 199) rfl ?_
                      show rx_aw 236 209 [.ref 90, .int x1, .int x2, .int x3, .int x4, .int (x5 / 5), .int ((x6 &&& 1) &&& 0), .int x7, .int (x5 - x5 / 5 * 5), .int 1, .int z197] [.int (hi197 127 j217), .int x7, .ref 133] (rx_hp L t hi197 hl197 v197) Q
                      obtain ⟨j218, ej218, hj218, k⟩ := k
                      refine rx_aw_iast (pc := 209) (n := 3) j218 ej218 rfl rfl (by decide) rfl hj218 (by decide) ?_
                      show rx_aw 236 210 [.ref 90, .int x1, .int x2, .int x3, .int x4, .int (x5 / 5), .int ((x6 &&& 1) &&& 0), .int x7, .int (x5 - x5 / 5 * 5), .int 1, .int z197] [] (rx_hp L t (rx_u hi197 133 j218 (hi197 127 j217)) hl197 v197) Q
                      refine rx_aw_s 2 (pc := 210) rfl ?_
                      show rx_aw 236 36 [.ref 90, .int x1, .int x2, .int x3, .int x4, .int (x5 / 5), .int ((x6 &&& 1) &&& 0), .int (x7 + 1), .int (x5 - x5 / 5 * 5), .int 1, .int z197] [] (rx_hp L t (rx_u hi197 133 j218 (hi197 127 j217)) hl197 v197) Q
                      exact rx_aw_le (ls := [.ref 90, .int x1, .int x2, .int x3, .int x4, .int (x5 / 5), .int ((x6 &&& 1) &&& 0), .int (x7 + 1), rx_no, rx_no, rx_no]) ⟨Or.inr rfl, ⟨Or.inr rfl, ⟨Or.inr rfl, ⟨Or.inr rfl, ⟨Or.inr rfl, ⟨Or.inr rfl, ⟨Or.inr rfl, ⟨Or.inr rfl, ⟨Or.inl rfl, ⟨Or.inl rfl, ⟨Or.inl rfl, trivial⟩⟩⟩⟩⟩⟩⟩⟩⟩⟩⟩ k
                · have k := k.2 c209
                  show rx_aw 236 163 [.ref 90, .int x1, .int x2, .int x3, .int x4, .int (x5 / 5), .int (x6 &&& 1), .int x7, .int (x5 - x5 / 5 * 5), .int 1, .int z197] [.int (x6 &&& 1)] (rx_hp L t hi197 hl197 v197) Q
                  refine rx_aw_s 9 (pc := 163) rfl ?_
                  refine rx_w_if (c := z197 < 0) ⟨fun c219 => ?_, fun c219 => ?_⟩
                  · have k := k.1 c219
                    show rx_aw 236 202 [.ref 90, .int x1, .int x2, .int x3, .int x4, .int (x5 / 5), .int ((x6 &&& 1) &&& 1), .int x7, .int (x5 - x5 / 5 * 5), .int 1, .int z197] [.int x7, .ref 133] (rx_hp L t hi197 hl197 v197) Q
                    refine rx_aw_s 3 (pc := 202) rfl ?_
                    show rx_aw 236 208 [.ref 90, .int x1, .int x2, .int x3, .int x4, .int (x5 / 5), .int ((x6 &&& 1) &&& 1), .int x7, .int (x5 - x5 / 5 * 5), .int 1, .int z197] [.int x7, .ref 132, .int x7, .ref 133] (rx_hp L t hi197 hl197 v197) Q
                    obtain ⟨j220, ej220, hj220, k⟩ := k
                    refine rx_aw_iald (pc := 208) (n := 3) j220 ej220 rfl rfl rfl hj220 (by decide) ?_
                    show rx_aw 236 209 [.ref 90, .int x1, .int x2, .int x3, .int x4, .int (x5 / 5), .int ((x6 &&& 1) &&& 1), .int x7, .int (x5 - x5 / 5 * 5), .int 1, .int z197] [.int (hi197 132 j220), .int x7, .ref 133] (rx_hp L t hi197 hl197 v197) Q
                    obtain ⟨j221, ej221, hj221, k⟩ := k
                    refine rx_aw_iast (pc := 209) (n := 3) j221 ej221 rfl rfl (by decide) rfl hj221 (by decide) ?_
                    show rx_aw 236 210 [.ref 90, .int x1, .int x2, .int x3, .int x4, .int (x5 / 5), .int ((x6 &&& 1) &&& 1), .int x7, .int (x5 - x5 / 5 * 5), .int 1, .int z197] [] (rx_hp L t (rx_u hi197 133 j221 (hi197 132 j220)) hl197 v197) Q
                    refine rx_aw_s 2 (pc := 210) rfl ?_
                    show rx_aw 236 36 [.ref 90, .int x1, .int x2, .int x3, .int x4, .int (x5 / 5), .int ((x6 &&& 1) &&& 1), .int (x7 + 1), .int (x5 - x5 / 5 * 5), .int 1, .int z197] [] (rx_hp L t (rx_u hi197 133 j221 (hi197 132 j220)) hl197 v197) Q
                    exact rx_aw_le (ls := [.ref 90, .int x1, .int x2, .int x3, .int x4, .int (x5 / 5), .int ((x6 &&& 1) &&& 1), .int (x7 + 1), rx_no, rx_no, rx_no]) ⟨Or.inr rfl, ⟨Or.inr rfl, ⟨Or.inr rfl, ⟨Or.inr rfl, ⟨Or.inr rfl, ⟨Or.inr rfl, ⟨Or.inr rfl, ⟨Or.inr rfl, ⟨Or.inl rfl, ⟨Or.inl rfl, ⟨Or.inl rfl, trivial⟩⟩⟩⟩⟩⟩⟩⟩⟩⟩⟩ k
                  · have k := k.2 c219
                    show rx_aw 236 182 [.ref 90, .int x1, .int x2, .int x3, .int x4, .int (x5 / 5), .int ((x6 &&& 1) &&& 1), .int x7, .int (x5 - x5 / 5 * 5), .int 1, .int z197] [.int x7, .ref 133] (rx_hp L t hi197 hl197 v197) Q
                    refine rx_aw_s 3 (pc := 182) rfl ?_
                    show rx_aw 236 188 [.ref 90, .int x1, .int x2, .int x3, .int x4, .int (x5 / 5), .int ((x6 &&& 1) &&& 1), .int x7, .int (x5 - x5 / 5 * 5), .int 1, .int z197] [.int z197, .ref 127, .int x7, .ref 133] (rx_hp L t hi197 hl197 v197) Q
                    obtain ⟨j222, ej222, hj222, k⟩ := k
                    refine rx_aw_iald (pc := 188) (n := 64) j222 ej222 rfl rfl rfl hj222 (by decide) ?_
                    show rx_aw 236 189 [.ref 90, .int x1, .int x2, .int x3, .int x4, .int (x5 / 5), .int ((x6 &&& 1) &&& 1), .int x7, .int (x5 - x5 / 5 * 5), .int 1, .int z197] [.int (hi197 127 j222), .int x7, .ref 133] (rx_hp L t hi197 hl197 v197) Q
                    refine rx_aw_s 1 (pc := 189) rfl ?_
                    refine rx_w_if (c := (hi197 127 j222) < 0) ⟨fun c223 => ?_, fun c223 => ?_⟩
                    · have k := k.1 c223
                      show rx_aw 236 202 [.ref 90, .int x1, .int x2, .int x3, .int x4, .int (x5 / 5), .int ((x6 &&& 1) &&& 1), .int x7, .int (x5 - x5 / 5 * 5), .int 1, .int z197] [.int x7, .ref 133] (rx_hp L t hi197 hl197 v197) Q
                      refine rx_aw_s 3 (pc := 202) rfl ?_
                      show rx_aw 236 208 [.ref 90, .int x1, .int x2, .int x3, .int x4, .int (x5 / 5), .int ((x6 &&& 1) &&& 1), .int x7, .int (x5 - x5 / 5 * 5), .int 1, .int z197] [.int x7, .ref 132, .int x7, .ref 133] (rx_hp L t hi197 hl197 v197) Q
                      obtain ⟨j224, ej224, hj224, k⟩ := k
                      refine rx_aw_iald (pc := 208) (n := 3) j224 ej224 rfl rfl rfl hj224 (by decide) ?_
                      show rx_aw 236 209 [.ref 90, .int x1, .int x2, .int x3, .int x4, .int (x5 / 5), .int ((x6 &&& 1) &&& 1), .int x7, .int (x5 - x5 / 5 * 5), .int 1, .int z197] [.int (hi197 132 j224), .int x7, .ref 133] (rx_hp L t hi197 hl197 v197) Q
                      obtain ⟨j225, ej225, hj225, k⟩ := k
                      refine rx_aw_iast (pc := 209) (n := 3) j225 ej225 rfl rfl (by decide) rfl hj225 (by decide) ?_
                      show rx_aw 236 210 [.ref 90, .int x1, .int x2, .int x3, .int x4, .int (x5 / 5), .int ((x6 &&& 1) &&& 1), .int x7, .int (x5 - x5 / 5 * 5), .int 1, .int z197] [] (rx_hp L t (rx_u hi197 133 j225 (hi197 132 j224)) hl197 v197) Q
                      refine rx_aw_s 2 (pc := 210) rfl ?_
                      show rx_aw 236 36 [.ref 90, .int x1, .int x2, .int x3, .int x4, .int (x5 / 5), .int ((x6 &&& 1) &&& 1), .int (x7 + 1), .int (x5 - x5 / 5 * 5), .int 1, .int z197] [] (rx_hp L t (rx_u hi197 133 j225 (hi197 132 j224)) hl197 v197) Q
                      exact rx_aw_le (ls := [.ref 90, .int x1, .int x2, .int x3, .int x4, .int (x5 / 5), .int ((x6 &&& 1) &&& 1), .int (x7 + 1), rx_no, rx_no, rx_no]) ⟨Or.inr rfl, ⟨Or.inr rfl, ⟨Or.inr rfl, ⟨Or.inr rfl, ⟨Or.inr rfl, ⟨Or.inr rfl, ⟨Or.inr rfl, ⟨Or.inr rfl, ⟨Or.inl rfl, ⟨Or.inl rfl, ⟨Or.inl rfl, trivial⟩⟩⟩⟩⟩⟩⟩⟩⟩⟩⟩ k
                    · have k := k.2 c223
                      show rx_aw 236 192 [.ref 90, .int x1, .int x2, .int x3, .int x4, .int (x5 / 5), .int ((x6 &&& 1) &&& 1), .int x7, .int (x5 - x5 / 5 * 5), .int 1, .int z197] [.int x7, .ref 133] (rx_hp L t hi197 hl197 v197) Q
                      refine rx_aw_s 3 (pc := 192) rfl ?_
                      show rx_aw 236 198 [.ref 90, .int x1, .int x2, .int x3, .int x4, .int (x5 / 5), .int ((x6 &&& 1) &&& 1), .int x7, .int (x5 - x5 / 5 * 5), .int 1, .int z197] [.int z197, .ref 127, .int x7, .ref 133] (rx_hp L t hi197 hl197 v197) Q
                      obtain ⟨j226, ej226, hj226, k⟩ := k
                      refine rx_aw_iald (pc := 198) (n := 64) j226 ej226 rfl rfl rfl hj226 (by decide) ?_
                      show rx_aw 236 199 [.ref 90, .int x1, .int x2, .int x3, .int x4, .int (x5 / 5), .int ((x6 &&& 1) &&& 1), .int x7, .int (x5 - x5 / 5 * 5), .int 1, .int z197] [.int (hi197 127 j226), .int x7, .ref 133] (rx_hp L t hi197 hl197 v197) Q
                      refine rx_aw_s 1 (pc := 199) rfl ?_
                      show rx_aw 236 209 [.ref 90, .int x1, .int x2, .int x3, .int x4, .int (x5 / 5), .int ((x6 &&& 1) &&& 1), .int x7, .int (x5 - x5 / 5 * 5), .int 1, .int z197] [.int (hi197 127 j226), .int x7, .ref 133] (rx_hp L t hi197 hl197 v197) Q
                      obtain ⟨j227, ej227, hj227, k⟩ := k
                      refine rx_aw_iast (pc := 209) (n := 3) j227 ej227 rfl rfl (by decide) rfl hj227 (by decide) ?_
                      show rx_aw 236 210 [.ref 90, .int x1, .int x2, .int x3, .int x4, .int (x5 / 5), .int ((x6 &&& 1) &&& 1), .int x7, .int (x5 - x5 / 5 * 5), .int 1, .int z197] [] (rx_hp L t (rx_u hi197 133 j227 (hi197 127 j226)) hl197 v197) Q
                      refine rx_aw_s 2 (pc := 210) rfl ?_
                      show rx_aw 236 36 [.ref 90, .int x1, .int x2, .int x3, .int x4, .int (x5 / 5), .int ((x6 &&& 1) &&& 1), .int (x7 + 1), .int (x5 - x5 / 5 * 5), .int 1, .int z197] [] (rx_hp L t (rx_u hi197 133 j227 (hi197 127 j226)) hl197 v197) Q
                      exact rx_aw_le (ls := [.ref 90, .int x1, .int x2, .int x3, .int x4, .int (x5 / 5), .int ((x6 &&& 1) &&& 1), .int (x7 + 1), rx_no, rx_no, rx_no]) ⟨Or.inr rfl, ⟨Or.inr rfl, ⟨Or.inr rfl, ⟨Or.inr rfl, ⟨Or.inr rfl, ⟨Or.inr rfl, ⟨Or.inr rfl, ⟨Or.inr rfl, ⟨Or.inl rfl, ⟨Or.inl rfl, ⟨Or.inl rfl, trivial⟩⟩⟩⟩⟩⟩⟩⟩⟩⟩⟩ k
      · have k := k.2 c118
        show rx_aw 236 77 [.ref 90, .int x1, .int x2, .int x3, .int x4, .int (x5 / 5), .int x6, .int x7, .int (x5 - x5 / 5 * 5), rx_no, rx_no] [] (rx_hp L t hi hl v) Q
        refine rx_aw_s 8 (pc := 77) rfl ?_
        show rx_aw 236 92 [.ref 90, .int x1, .int x2, .int x3, .int x4, .int (x5 / 5), .int x6, .int x7, .int (x5 - x5 / 5 * 5), .int 0, rx_no] [.int x7, .ref 132, .int x7, .ref 133] (rx_hp L t hi hl v) Q
        obtain ⟨j228, ej228, hj228, k⟩ := k
        refine rx_aw_iald (pc := 92) (n := 3) j228 ej228 rfl rfl rfl hj228 (by decide) ?_
        show rx_aw 236 93 [.ref 90, .int x1, .int x2, .int x3, .int x4, .int (x5 / 5), .int x6, .int x7, .int (x5 - x5 / 5 * 5), .int 0, rx_no] [.int (hi 132 j228), .int x7, .ref 133] (rx_hp L t hi hl v) Q
        obtain ⟨j229, ej229, hj229, k⟩ := k
        refine rx_aw_iast (pc := 93) (n := 3) j229 ej229 rfl rfl (by decide) rfl hj229 (by decide) ?_
        show rx_aw 236 94 [.ref 90, .int x1, .int x2, .int x3, .int x4, .int (x5 / 5), .int x6, .int x7, .int (x5 - x5 / 5 * 5), .int 0, rx_no] [] (rx_hp L t (rx_u hi 133 j229 (hi 132 j228)) hl v) Q
        refine rx_aw_s 3 (pc := 94) rfl ?_
        refine rx_w_ifn (c := 0 = 0) ⟨fun c230 => ?_, fun c230 => ?_⟩
        · have k := k.1 c230
          show rx_aw 236 101 [.ref 90, .int x1, .int x2, .int x3, .int x4, .int (x5 / 5), .int x6, .int x7, .int (x5 - x5 / 5 * 5), .int 0, rx_no] [.int x6] (rx_hp L t (rx_u hi 133 j229 (hi 132 j228)) hl v) Q
          refine rx_aw_s 2 (pc := 101) rfl ?_
          refine rx_w_ifn (c := (x5 - x5 / 5 * 5) = 0) ⟨fun c231 => ?_, fun c231 => ?_⟩
          · have k := k.1 c231
            show rx_aw 236 106 [.ref 90, .int x1, .int x2, .int x3, .int x4, .int (x5 / 5), .int x6, .int x7, .int (x5 - x5 / 5 * 5), .int 0, rx_no] [.int x6] (rx_hp L t (rx_u hi 133 j229 (hi 132 j228)) hl v) Q
            refine rx_aw_s 6 (pc := 106) rfl ?_
            refine rx_w_if (c := 0 = 0) ⟨fun c232 => ?_, fun c232 => ?_⟩
            · have k := k.1 c232
              show rx_aw 236 210 [.ref 90, .int x1, .int x2, .int x3, .int x4, .int (x5 / 5), .int (x6 &&& 1), .int x7, .int (x5 - x5 / 5 * 5), .int 0, rx_no] [] (rx_hp L t (rx_u hi 133 j229 (hi 132 j228)) hl v) Q
              refine rx_aw_s 2 (pc := 210) rfl ?_
              show rx_aw 236 36 [.ref 90, .int x1, .int x2, .int x3, .int x4, .int (x5 / 5), .int (x6 &&& 1), .int (x7 + 1), .int (x5 - x5 / 5 * 5), .int 0, rx_no] [] (rx_hp L t (rx_u hi 133 j229 (hi 132 j228)) hl v) Q
              exact rx_aw_le (ls := [.ref 90, .int x1, .int x2, .int x3, .int x4, .int (x5 / 5), .int (x6 &&& 1), .int (x7 + 1), rx_no, rx_no, rx_no]) ⟨Or.inr rfl, ⟨Or.inr rfl, ⟨Or.inr rfl, ⟨Or.inr rfl, ⟨Or.inr rfl, ⟨Or.inr rfl, ⟨Or.inr rfl, ⟨Or.inr rfl, ⟨Or.inl rfl, ⟨Or.inl rfl, ⟨Or.inl rfl, trivial⟩⟩⟩⟩⟩⟩⟩⟩⟩⟩⟩ k
            · have k := k.2 c232
              show rx_aw 236 119 [.ref 90, .int x1, .int x2, .int x3, .int x4, .int (x5 / 5), .int (x6 &&& 1), .int x7, .int (x5 - x5 / 5 * 5), .int 0, rx_no] [] (rx_hp L t (rx_u hi 133 j229 (hi 132 j228)) hl v) Q
              refine rx_aw_s 2 (pc := 119) rfl ?_
              refine rx_w_if (c := (x5 - x5 / 5 * 5) ≤ 0) ⟨fun c233 => ?_, fun c233 => ?_⟩
              · have k := k.1 c233
                show rx_aw 236 210 [.ref 90, .int x1, .int x2, .int x3, .int x4, .int (x5 / 5), .int (x6 &&& 1), .int x7, .int (x5 - x5 / 5 * 5), .int 0, rx_no] [] (rx_hp L t (rx_u hi 133 j229 (hi 132 j228)) hl v) Q
                refine rx_aw_s 2 (pc := 210) rfl ?_
                show rx_aw 236 36 [.ref 90, .int x1, .int x2, .int x3, .int x4, .int (x5 / 5), .int (x6 &&& 1), .int (x7 + 1), .int (x5 - x5 / 5 * 5), .int 0, rx_no] [] (rx_hp L t (rx_u hi 133 j229 (hi 132 j228)) hl v) Q
                exact rx_aw_le (ls := [.ref 90, .int x1, .int x2, .int x3, .int x4, .int (x5 / 5), .int (x6 &&& 1), .int (x7 + 1), rx_no, rx_no, rx_no]) ⟨Or.inr rfl, ⟨Or.inr rfl, ⟨Or.inr rfl, ⟨Or.inr rfl, ⟨Or.inr rfl, ⟨Or.inr rfl, ⟨Or.inr rfl, ⟨Or.inr rfl, ⟨Or.inl rfl, ⟨Or.inl rfl, ⟨Or.inl rfl, trivial⟩⟩⟩⟩⟩⟩⟩⟩⟩⟩⟩ k
              · have k := k.2 c233
                show rx_aw 236 124 [.ref 90, .int x1, .int x2, .int x3, .int x4, .int (x5 / 5), .int (x6 &&& 1), .int x7, .int (x5 - x5 / 5 * 5), .int 0, rx_no] [] (rx_hp L t (rx_u hi 133 j229 (hi 132 j228)) hl v) Q
                refine rx_aw_s 6 (pc := 124) rfl ?_
                show rx_aw 236 135 [.ref 90, .int x1, .int x2, .int x3, .int x4, .int (x5 / 5), .int (x6 &&& 1), .int x7, .int (x5 - x5 / 5 * 5), .int 0, rx_no] [.int x7, .ref 132, .ref 126, .ref 90] (rx_hp L t (rx_u hi 133 j229 (hi 132 j228)) hl v) Q
                obtain ⟨j234, ej234, hj234, k⟩ := k
                refine rx_aw_iald (pc := 135) (n := 3) j234 ej234 rfl rfl rfl hj234 (by decide) ?_
                show rx_aw 236 136 [.ref 90, .int x1, .int x2, .int x3, .int x4, .int (x5 / 5), .int (x6 &&& 1), .int x7, .int (x5 - x5 / 5 * 5), .int 0, rx_no] [.int ((rx_u hi 133 j229 (hi 132 j228)) 132 j234), .ref 126, .ref 90] (rx_hp L t (rx_u hi 133 j229 (hi 132 j228)) hl v) Q
                obtain ⟨j235, ej235, hj235, k⟩ := k
                refine rx_aw_iald (pc := 136) (n := 20) j235 ej235 rfl rfl rfl hj235 (by decide) ?_
                show rx_aw 236 137 [.ref 90, .int x1, .int x2, .int x3, .int x4, .int (x5 / 5), .int (x6 &&& 1), .int x7, .int (x5 - x5 / 5 * 5), .int 0, rx_no] [.int ((rx_u hi 133 j229 (hi 132 j228)) 126 j235), .ref 90] (rx_hp L t (rx_u hi 133 j229 (hi 132 j228)) hl v) Q
                refine rx_aw_s 3 (pc := 137) rfl ?_
                show rx_aw 236 141 [.ref 90, .int x1, .int x2, .int x3, .int x4, .int (x5 / 5), .int (x6 &&& 1), .int x7, .int (x5 - x5 / 5 * 5), .int 0, rx_no] [.int ((x5 - x5 / 5 * 5) - 1), .int ((rx_u hi 133 j229 (hi 132 j228)) 126 j235), .ref 90] (rx_hp L t (rx_u hi 133 j229 (hi 132 j228)) hl v) Q
                refine rx_w_callI (j := 181) (pc := 141) rfl rfl rfl rfl rfl ?_
                refine rx_aw.mono k (fun r h2 k => ?_)
                obtain ⟨z236, rfl, hi236, hl236, v236, rfl, k⟩ := k
                refine ⟨z236, rfl, ?_⟩
                show rx_aw 236 144 [.ref 90, .int x1, .int x2, .int x3, .int x4, .int (x5 / 5), .int (x6 &&& 1), .int x7, .int (x5 - x5 / 5 * 5), .int 0, rx_no] [.int z236] (rx_hp L t hi236 hl236 v236) Q
                refine rx_aw_s 4 (pc := 144) rfl ?_
                refine rx_w_if (c := z236 < 0) ⟨fun c237 => ?_, fun c237 => ?_⟩
                · have k := k.1 c237
                  show rx_aw 236 167 [.ref 90, .int x1, .int x2, .int x3, .int x4, .int (x5 / 5), .int (x6 &&& 1), .int x7, .int (x5 - x5 / 5 * 5), .int 0, .int z236] [.int (x6 &&& 1)] (rx_hp L t hi236 hl236 v236) Q
                  refine rx_aw_s 8 (pc := 167) rfl ?_
                  refine rx_w_if (c := z236 < 0) ⟨fun c238 => ?_, fun c238 => ?_⟩
                  · have k := k.1 c238
                    show rx_aw 236 202 [.ref 90, .int x1, .int x2, .int x3, .int x4, .int (x5 / 5), .int ((x6 &&& 1) &&& 0), .int x7, .int (x5 - x5 / 5 * 5), .int 0, .int z236] [.int x7, .ref 133] (rx_hp L t hi236 hl236 v236) Q
                    refine rx_aw_s 3 (pc := 202) rfl ?_
                    show rx_aw 236 208 [.ref 90, .int x1, .int x2, .int x3, .int x4, .int (x5 / 5), .int ((x6 &&& 1) &&& 0), .int x7, .int (x5 - x5 / 5 * 5), .int 0, .int z236] [.int x7, .ref 132, .int x7, .ref 133] (rx_hp L t hi236 hl236 v236) Q
                    obtain ⟨j239, ej239, hj239, k⟩ := k
                    refine rx_aw_iald (pc := 208) (n := 3) j239 ej239 rfl rfl rfl hj239 (by decide) ?_
                    show rx_aw 236 209 [.ref 90, .int x1, .int x2, .int x3, .int x4, .int (x5 / 5), .int ((x6 &&& 1) &&& 0), .int x7, .int (x5 - x5 / 5 * 5), .int 0, .int z236] [.int (hi236 132 j239), .int x7, .ref 133] (rx_hp L t hi236 hl236 v236) Q
                    obtain ⟨j240, ej240, hj240, k⟩ := k
                    refine rx_aw_iast (pc := 209) (n := 3) j240 ej240 rfl rfl (by decide) rfl hj240 (by decide) ?_
                    show rx_aw 236 210 [.ref 90, .int x1, .int x2, .int x3, .int x4, .int (x5 / 5), .int ((x6 &&& 1) &&& 0), .int x7, .int (x5 - x5 / 5 * 5), .int 0, .int z236] [] (rx_hp L t (rx_u hi236 133 j240 (hi236 132 j239)) hl236 v236) Q
                    refine rx_aw_s 2 (pc := 210) rfl ?_
                    show rx_aw 236 36 [.ref 90, .int x1, .int x2, .int x3, .int x4, .int (x5 / 5), .int ((x6 &&& 1) &&& 0), .int (x7 + 1), .int (x5 - x5 / 5 * 5), .int 0, .int z236] [] (rx_hp L t (rx_u hi236 133 j240 (hi236 132 j239)) hl236 v236) Q
                    exact rx_aw_le (ls := [.ref 90, .int x1, .int x2, .int x3, .int x4, .int (x5 / 5), .int ((x6 &&& 1) &&& 0), .int (x7 + 1), rx_no, rx_no, rx_no]) ⟨Or.inr rfl, ⟨Or.inr rfl, ⟨Or.inr rfl, ⟨Or.inr rfl, ⟨Or.inr rfl, ⟨Or.inr rfl, ⟨Or.inr rfl, ⟨Or.inr rfl, ⟨Or.inl rfl, ⟨Or.inl rfl, ⟨Or.inl rfl, trivial⟩⟩⟩⟩⟩⟩⟩⟩⟩⟩⟩ k
                  · have k := k.2 c238
                    show rx_aw 236 182 [.ref 90, .int x1, .int x2, .int x3, .int x4, .int (x5 / 5), .int ((x6 &&& 1) &&& 0), .int x7, .int (x5 - x5 / 5 * 5), .int 0, .int z236] [.int x7, .ref 133] (rx_hp L t hi236 hl236 v236) Q
                    refine rx_aw_s 3 (pc := 182) rfl ?_
                    show rx_aw 236 188 [.ref 90, .int x1, .int x2, .int x3, .int x4, .int (x5 / 5), .int ((x6 &&& 1) &&& 0), .int x7, .int (x5 - x5 / 5 * 5), .int 0, .int z236] [.int z236, .ref 127, .int x7, .ref 133] (rx_hp L t hi236 hl236 v236) Q
                    obtain ⟨j241, ej241, hj241, k⟩ := k
                    refine rx_aw_iald (pc := 188) (n := 64) j241 ej241 rfl rfl rfl hj241 (by decide) ?_
                    show rx_aw 236 189 [.ref 90, .int x1, .int x2, .int x3, .int x4, .int (x5 / 5), .int ((x6 &&& 1) &&& 0), .int x7, .int (x5 - x5 / 5 * 5), .int 0, .int z236] [.int (hi236 127 j241), .int x7, .ref 133] (rx_hp L t hi236 hl236 v236) Q
                    refine rx_aw_s 1 (pc := 189) rfl ?_
                    refine rx_w_if (c := (hi236 127 j241) < 0) ⟨fun c242 => ?_, fun c242 => ?_⟩
                    · have k := k.1 c242
                      show rx_aw 236 202 [.ref 90, .int x1, .int x2, .int x3, .int x4, .int (x5 / 5), .int ((x6 &&& 1) &&& 0), .int x7, .int (x5 - x5 / 5 * 5), .int 0, .int z236] [.int x7, .ref 133] (rx_hp L t hi236 hl236 v236) Q
                      refine rx_aw_s 3 (pc := 202) rfl ?_
                      show rx_aw 236 208 [.ref 90, .int x1, .int x2, .int x3, .int x4, .int (x5 / 5), .int ((x6 &&& 1) &&& 0), .int x7, .int (x5 - x5 / 5 * 5), .int 0, .int z236] [.int x7, .ref 132, .int x7, .ref 133] (rx_hp L t hi236 hl236 v236) Q
                      obtain ⟨j243, ej243, hj243, k⟩ := k
                      refine rx_aw_iald (pc := 208) (n := 3) j243 ej243 rfl rfl rfl hj243 (by decide) ?_
                      show rx_aw 236 209 [.ref 90, .int x1, .int x2, .int x3, .int x4, .int (x5 / 5), .int ((x6 &&& 1) &&& 0), .int x7, .int (x5 - x5 / 5 * 5), .int 0, .int z236] [.int (hi236 132 j243), .int x7, .ref 133] (rx_hp L t hi236 hl236 v236) Q
                      obtain ⟨j244, ej244, hj244, k⟩ := k
                      refine rx_aw_iast (pc := 209) (n := 3) j244 ej244 rfl rfl (by decide) rfl hj244 (by decide) ?_
                      show rx_aw 236 210 [.ref 90, .int x1, .int x2, .int x3, .int x4, .int (x5 / 5), .int ((x6 &&& 1) &&& 0), .int x7, .int (x5 - x5 / 5 * 5), .int 0, .int z236] [] (rx_hp L t (rx_u hi236 133 j244 (hi236 132 j243)) hl236 v236) Q
                      refine rx_aw_s 2 (pc := 210) rfl ?_
                      show rx_aw 236 36 [.ref 90, .int x1, .int x2, .int x3, .int x4, .int (x5 / 5), .int ((x6 &&& 1) &&& 0), .int (x7 + 1), .int (x5 - x5 / 5 * 5), .int 0, .int z236] [] (rx_hp L t (rx_u hi236 133 j244 (hi236 132 j243)) hl236 v236) Q
                      exact rx_aw_le (ls := [.ref 90, .int x1, .int x2, .int x3, .int x4, .int (x5 / 5), .int ((x6 &&& 1) &&& 0), .int (x7 + 1), rx_no, rx_no, rx_no]) ⟨Or.inr rfl, ⟨Or.inr rfl, ⟨Or.inr rfl, ⟨Or.inr rfl, ⟨Or.inr rfl, ⟨Or.inr rfl, ⟨Or.inr rfl, ⟨Or.inr rfl, ⟨Or.inl rfl, ⟨Or.inl rfl, ⟨Or.inl rfl, trivial⟩⟩⟩⟩⟩⟩⟩⟩⟩⟩⟩ k
                    · have k := k.2 c242
                      show rx_aw 236 192 [.ref 90, .int x1, .int x2, .int x3, .int x4, .int (x5 / 5), .int ((x6 &&& 1) &&& 0), .int x7, .int (x5 - x5 / 5 * 5), .int 0, .int z236] [.int x7, .ref 133] (rx_hp L t hi236 hl236 v236) Q
                      refine rx_aw_s 3 (pc := 192) rfl ?_
                      show rx_aw 236 198 [.ref 90, .int x1, .int x2, .int x3, .int x4, .int (x5 / 5), .int ((x6 &&& 1) &&& 0), .int x7, .int (x5 - x5 / 5 * 5), .int 0, .int z236] [.int z236, .ref 127, .int x7, .ref 133] (rx_hp L t hi236 hl236 v236) Q
                      obtain ⟨j245, ej245, hj245, k⟩ := k
                      refine rx_aw_iald (pc := 198) (n := 64) j245 ej245 rfl rfl rfl hj245 (by decide) ?_
                      show rx_aw 236 199 [.ref 90, .int x1, .int x2, .int x3, .int x4, .int (x5 / 5), .int ((x6 &&& 1) &&& 0), .int x7, .int (x5 - x5 / 5 * 5), .int 0, .int z236] [.int (hi236 127 j245), .int x7, .ref 133] (rx_hp L t hi236 hl236 v236) Q
                      refine rx_aw_s 1 (pc := 199) rfl ?_
                      show rx_aw 236 209 [.ref 90, .int x1, .int x2, .int x3, .int x4, .int (x5 / 5), .int ((x6 &&& 1) &&& 0), .int x7, .int (x5 - x5 / 5 * 5), .int 0, .int z236] [.int (hi236 127 j245), .int x7, .ref 133] (rx_hp L t hi236 hl236 v236) Q
                      obtain ⟨j246, ej246, hj246, k⟩ := k
                      refine rx_aw_iast (pc := 209) (n := 3) j246 ej246 rfl rfl (by decide) rfl hj246 (by decide) ?_
                      show rx_aw 236 210 [.ref 90, .int x1, .int x2, .int x3, .int x4, .int (x5 / 5), .int ((x6 &&& 1) &&& 0), .int x7, .int (x5 - x5 / 5 * 5), .int 0, .int z236] [] (rx_hp L t (rx_u hi236 133 j246 (hi236 127 j245)) hl236 v236) Q
                      refine rx_aw_s 2 (pc := 210) rfl ?_
                      show rx_aw 236 36 [.ref 90, .int x1, .int x2, .int x3, .int x4, .int (x5 / 5), .int ((x6 &&& 1) &&& 0), .int (x7 + 1), .int (x5 - x5 / 5 * 5), .int 0, .int z236] [] (rx_hp L t (rx_u hi236 133 j246 (hi236 127 j245)) hl236 v236) Q
                      exact rx_aw_le (ls := [.ref 90, .int x1, .int x2, .int x3, .int x4, .int (x5 / 5), .int ((x6 &&& 1) &&& 0), .int (x7 + 1), rx_no, rx_no, rx_no]) ⟨Or.inr rfl, ⟨Or.inr rfl, ⟨Or.inr rfl, ⟨Or.inr rfl, ⟨Or.inr rfl, ⟨Or.inr rfl, ⟨Or.inr rfl, ⟨Or.inr rfl, ⟨Or.inl rfl, ⟨Or.inl rfl, ⟨Or.inl rfl, trivial⟩⟩⟩⟩⟩⟩⟩⟩⟩⟩⟩ k
                · have k := k.2 c237
                  show rx_aw 236 153 [.ref 90, .int x1, .int x2, .int x3, .int x4, .int (x5 / 5), .int (x6 &&& 1), .int x7, .int (x5 - x5 / 5 * 5), .int 0, .int z236] [.int (x6 &&& 1)] (rx_hp L t hi236 hl236 v236) Q
                  refine rx_aw_s 3 (pc := 153) rfl ?_
                  show rx_aw 236 159 [.ref 90, .int x1, .int x2, .int x3, .int x4, .int (x5 / 5), .int (x6 &&& 1), .int x7, .int (x5 - x5 / 5 * 5), .int 0, .int z236] [.int z236, .ref 127, .int (x6 &&& 1)] (rx_hp L t hi236 hl236 v236) Q
                  obtain ⟨j247, ej247, hj247, k⟩ := k
                  refine rx_aw_iald (pc := 159) (n := 64) j247 ej247 rfl rfl rfl hj247 (by decide) ?_
                  show rx_aw 236 160 [.ref 90, .int x1, .int x2, .int x3, .int x4, .int (x5 / 5), .int (x6 &&& 1), .int x7, .int (x5 - x5 / 5 * 5), .int 0, .int z236] [.int (hi236 127 j247), .int (x6 &&& 1)] (rx_hp L t hi236 hl236 v236) Q
                  refine rx_aw_s 1 (pc := 160) rfl ?_
                  refine rx_w_if (c := (hi236 127 j247) < 0) ⟨fun c248 => ?_, fun c248 => ?_⟩
                  · have k := k.1 c248
                    show rx_aw 236 167 [.ref 90, .int x1, .int x2, .int x3, .int x4, .int (x5 / 5), .int (x6 &&& 1), .int x7, .int (x5 - x5 / 5 * 5), .int 0, .int z236] [.int (x6 &&& 1)] (rx_hp L t hi236 hl236 v236) Q
                    refine rx_aw_s 8 (pc := 167) rfl ?_
                    refine rx_w_if (c := z236 < 0) ⟨fun c249 => ?_, fun c249 => ?_⟩
                    · have k := k.1 c249
                      show rx_aw 236 202 [.ref 90, .int x1, .int x2, .int x3, .int x4, .int (x5 / 5), .int ((x6 &&& 1) &&& 0), .int x7, .int (x5 - x5 / 5 * 5), .int 0, .int z236] [.int x7, .ref 133] (rx_hp L t hi236 hl236 v236) Q
                      refine rx_aw_s 3 (pc := 202) rfl ?_
                      show rx_aw 236 208 [.ref 90, .int x1, .int x2, .int x3, .int x4, .int (x5 / 5), .int ((x6 &&& 1) &&& 0), .int x7, .int (x5 - x5 / 5 * 5), .int 0, .int z236] [.int x7, .ref 132, .int x7, .ref 133] (rx_hp L t hi236 hl236 v236) Q
                      obtain ⟨j250, ej250, hj250, k⟩ := k
                      refine rx_aw_iald (pc := 208) (n := 3) j250 ej250 rfl rfl rfl hj250 (by decide) ?_
                      show rx_aw 236 209 [.ref 90, .int x1, .int x2, .int x3, .int x4, .int (x5 / 5), .int ((x6 &&& 1) &&& 0), .int x7, .int (x5 - x5 / 5 * 5), .int 0, .int z236] [.int (hi236 132 j250), .int x7, .ref 133] (rx_hp L t hi236 hl236 v236) Q
                      obtain ⟨j251, ej251, hj251, k⟩ := k
                      refine rx_aw_iast (pc := 209) (n := 3) j251 ej251 rfl rfl (by decide) rfl hj251 (by decide) ?_
                      show rx_aw 236 210 [.ref 90, .int x1, .int x2, .int x3, .int x4, .int (x5 / 5), .int ((x6 &&& 1) &&& 0), .int x7, .int (x5 - x5 / 5 * 5), .int 0, .int z236] [] (rx_hp L t (rx_u hi236 133 j251 (hi236 132 j250)) hl236 v236) Q
                      refine rx_aw_s 2 (pc := 210) rfl ?_
                      show rx_aw 236 36 [.ref 90, .int x1, .int x2, .int x3, .int x4, .int (x5 / 5), .int ((x6 &&& 1) &&& 0), .int (x7 + 1), .int (x5 - x5 / 5 * 5), .int 0, .int z236] [] (rx_hp L t (rx_u hi236 133 j251 (hi236 132 j250)) hl236 v236) Q
                      exact rx_aw_le (ls := [.ref 90, .int x1, .int x2, .int x3, .int x4, .int (x5 / 5), .int ((x6 &&& 1) &&& 0), .int (x7 + 1), rx_no, rx_no, rx_no]) ⟨Or.inr rfl, ⟨Or.inr rfl, ⟨Or.inr rfl, ⟨Or.inr rfl, ⟨Or.inr rfl, ⟨Or.inr rfl, ⟨Or.inr rfl, ⟨Or.inr rfl, ⟨Or.inl rfl, ⟨Or.inl rfl, ⟨Or.inl rfl, trivial⟩⟩⟩⟩⟩⟩⟩⟩⟩⟩⟩ k
                    · have k := k.2 c249
                      show rx_aw 236 182 [.ref 90, .int x1, .int x2, .int x3, .int x4, .int (x5 / 5), .int ((x6 &&& 1) &&& 0), .int x7, .int (x5 - x5 / 5 * 5), .int 0, .int z236] [.int x7, .ref 133] (rx_hp L t hi236 hl236 v236) Q
                      refine rx_aw_s 3 (pc := 182) rfl ?_
                      show rx_aw 236 188 [.ref 90, .int x1, .int x2, .int x3, .int x4, .int (x5 / 5), .int ((x6 &&& 1) &&& 0), .int x7, .int (x5 - x5 / 5 * 5), .int 0, .int z236] [.int z236, .ref 127, .int x7, .ref 133] (rx_hp L t hi236 hl236 v236) Q
                      obtain ⟨j252, ej252, hj252, k⟩ := k
                      refine rx_aw_iald (pc := 188) (n := 64) j252 ej252 rfl rfl rfl hj252 (by decide) ?_
                      show rx_aw 236 189 [.ref 90, .int x1, .int x2, .int x3, .int x4, .int (x5 / 5), .int ((x6 &&& 1) &&& 0), .int x7, .int (x5 - x5 / 5 * 5), .int 0, .int z236] [.int (hi236 127 j252), .int x7, .ref 133] (rx_hp L t hi236 hl236 v236) Q
                      refine rx_aw_s 1 (pc := 189) rfl ?_
                      refine rx_w_if (c := (hi236 127 j252) < 0) ⟨fun c253 => ?_, fun c253 => ?_⟩
                      · have k := k.1 c253
                        show rx_aw 236 202 [.ref 90, .int x1, .int x2, .int x3, .int x4, .int (x5 / 5), .int ((x6 &&& 1) &&& 0), .int x7, .int (x5 - x5 / 5 * 5), .int 0, .int z236] [.int x7, .ref 133] (rx_hp L t hi236 hl236 v236) Q
                        refine rx_aw_s 3 (pc := 202) rfl ?_
                        show rx_aw 236 208 [.ref 90, .int x1, .int x2, .int x3, .int x4, .int (x5 / 5), .int ((x6 &&& 1) &&& 0), .int x7, .int (x5 - x5 / 5 * 5), .int 0, .int z236] [.int x7, .ref 132, .int x7, .ref 133] (rx_hp L t hi236 hl236 v236) Q
                        obtain ⟨j254, ej254, hj254, k⟩ := k
                        refine rx_aw_iald (pc := 208) (n := 3) j254 ej254 rfl rfl rfl hj254 (by decide) ?_
                        show rx_aw 236 209 [.ref 90, .int x1, .int x2, .int x3, .int x4, .int (x5 / 5), .int ((x6 &&& 1) &&& 0), .int x7, .int (x5 - x5 / 5 * 5), .int 0, .int z236] [.int (hi236 132 j254), .int x7, .ref 133] (rx_hp L t hi236 hl236 v236) Q
                        obtain ⟨j255, ej255, hj255, k⟩ := k
                        refine rx_aw_iast (pc := 209) (n := 3) j255 ej255 rfl rfl (by decide) rfl hj255 (by decide) ?_
                        show rx_aw 236 210 [.ref 90, .int x1, .int x2, .int x3, .int x4, .int (x5 / 5), .int ((x6 &&& 1) &&& 0), .int x7, .int (x5 - x5 / 5 * 5), .int 0, .int z236] [] (rx_hp L t (rx_u hi236 133 j255 (hi236 132 j254)) hl236 v236) Q
                        refine rx_aw_s 2 (pc := 210) rfl ?_
                        show rx_aw 236 36 [.ref 90, .int x1, .int x2, .int x3, .int x4, .int (x5 / 5), .int ((x6 &&& 1) &&& 0), .int (x7 + 1), .int (x5 - x5 / 5 * 5), .int 0, .int z236] [] (rx_hp L t (rx_u hi236 133 j255 (hi236 132 j254)) hl236 v236) Q
                        exact rx_aw_le (ls := [.ref 90, .int x1, .int x2, .int x3, .int x4, .int (x5 / 5), .int ((x6 &&& 1) &&& 0), .int (x7 + 1), rx_no, rx_no, rx_no]) ⟨Or.inr rfl, ⟨Or.inr rfl, ⟨Or.inr rfl, ⟨Or.inr rfl, ⟨Or.inr rfl, ⟨Or.inr rfl, ⟨Or.inr rfl, ⟨Or.inr rfl, ⟨Or.inl rfl, ⟨Or.inl rfl, ⟨Or.inl rfl, trivial⟩⟩⟩⟩⟩⟩⟩⟩⟩⟩⟩ k
                      · have k := k.2 c253
                        show rx_aw 236 192 [.ref 90, .int x1, .int x2, .int x3, .int x4, .int (x5 / 5), .int ((x6 &&& 1) &&& 0), .int x7, .int (x5 - x5 / 5 * 5), .int 0, .int z236] [.int x7, .ref 133] (rx_hp L t hi236 hl236 v236) Q
                        refine rx_aw_s 3 (pc := 192) rfl ?_
                        show rx_aw 236 198 [.ref 90, .int x1, .int x2, .int x3, .int x4, .int (x5 / 5), .int ((x6 &&& 1) &&& 0), .int x7, .int (x5 - x5 / 5 * 5), .int 0, .int z236] [.int z236, .ref 127, .int x7, .ref 133] (rx_hp L t hi236 hl236 v236) Q
                        obtain ⟨j256, ej256, hj256, k⟩ := k
                        refine rx_aw_iald (pc := 198) (n := 64) j256 ej256 rfl rfl rfl hj256 (by decide) ?_
                        show rx_aw 236 199 [.ref 90, .int x1, .int x2, .int x3, .int x4, .int (x5 / 5), .int ((x6 &&& 1) &&& 0), .int x7, .int (x5 - x5 / 5 * 5), .int 0, .int z236] [.int (hi236 127 j256), .int x7, .ref 133] (rx_hp L t hi236 hl236 v236) Q
                        refine rx_aw_s 1 (pc := 199) rfl ?_
                        show rx_aw 236 209 [.ref 90, .int x1, .int x2, .int x3, .int x4, .int (x5 / 5), .int ((x6 &&& 1) &&& 0), .int x7, .int (x5 - x5 / 5 * 5), .int 0, .int z236] [.int (hi236 127 j256), .int x7, .ref 133] (rx_hp L t hi236 hl236 v236) Q
                        obtain ⟨j257, ej257, hj257, k⟩ := k
                        refine rx_aw_iast (pc := 209) (n := 3) j257 ej257 rfl rfl (by decide) rfl hj257 (by decide) ?_
                        show rx_aw 236 210 [.ref 90, .int x1, .int x2, .int x3, .int x4, .int (x5 / 5), .int ((x6 &&& 1) &&& 0), .int x7, .int (x5 - x5 / 5 * 5), .int 0, .int z236] [] (rx_hp L t (rx_u hi236 133 j257 (hi236 127 j256)) hl236 v236) Q
                        refine rx_aw_s 2 (pc := 210) rfl ?_
                        show rx_aw 236 36 [.ref 90, .int x1, .int x2, .int x3, .int x4, .int (x5 / 5), .int ((x6 &&& 1) &&& 0), .int (x7 + 1), .int (x5 - x5 / 5 * 5), .int 0, .int z236] [] (rx_hp L t (rx_u hi236 133 j257 (hi236 127 j256)) hl236 v236) Q
                        exact rx_aw_le (ls := [.ref 90, .int x1, .int x2, .int x3, .int x4, .int (x5 / 5), .int ((x6 &&& 1) &&& 0), .int (x7 + 1), rx_no, rx_no, rx_no]) ⟨Or.inr rfl, ⟨Or.inr rfl, ⟨Or.inr rfl, ⟨Or.inr rfl, ⟨Or.inr rfl, ⟨Or.inr rfl, ⟨Or.inr rfl, ⟨Or.inr rfl, ⟨Or.inl rfl, ⟨Or.inl rfl, ⟨Or.inl rfl, trivial⟩⟩⟩⟩⟩⟩⟩⟩⟩⟩⟩ k
                  · have k := k.2 c248
                    show rx_aw 236 163 [.ref 90, .int x1, .int x2, .int x3, .int x4, .int (x5 / 5), .int (x6 &&& 1), .int x7, .int (x5 - x5 / 5 * 5), .int 0, .int z236] [.int (x6 &&& 1)] (rx_hp L t hi236 hl236 v236) Q
                    refine rx_aw_s 9 (pc := 163) rfl ?_
                    refine rx_w_if (c := z236 < 0) ⟨fun c258 => ?_, fun c258 => ?_⟩
                    · have k := k.1 c258
                      show rx_aw 236 202 [.ref 90, .int x1, .int x2, .int x3, .int x4, .int (x5 / 5), .int ((x6 &&& 1) &&& 1), .int x7, .int (x5 - x5 / 5 * 5), .int 0, .int z236] [.int x7, .ref 133] (rx_hp L t hi236 hl236 v236) Q
                      refine rx_aw_s 3 (pc := 202) rfl ?_
                      show rx_aw 236 208 [.ref 90, .int x1, .int x2, .int x3, .int x4, .int (x5 / 5), .int ((x6 &&& 1) &&& 1), .int x7, .int (x5 - x5 / 5 * 5), .int 0, .int z236] [.int x7, .ref 132, .int x7, .ref 133] (rx_hp L t hi236 hl236 v236) Q
                      obtain ⟨j259, ej259, hj259, k⟩ := k
                      refine rx_aw_iald (pc := 208) (n := 3) j259 ej259 rfl rfl rfl hj259 (by decide) ?_
                      show rx_aw 236 209 [.ref 90, .int x1, .int x2, .int x3, .int x4, .int (x5 / 5), .int ((x6 &&& 1) &&& 1), .int x7, .int (x5 - x5 / 5 * 5), .int 0, .int z236] [.int (hi236 132 j259), .int x7, .ref 133] (rx_hp L t hi236 hl236 v236) Q
                      obtain ⟨j260, ej260, hj260, k⟩ := k
                      refine rx_aw_iast (pc := 209) (n := 3) j260 ej260 rfl rfl (by decide) rfl hj260 (by decide) ?_
                      show rx_aw 236 210 [.ref 90, .int x1, .int x2, .int x3, .int x4, .int (x5 / 5), .int ((x6 &&& 1) &&& 1), .int x7, .int (x5 - x5 / 5 * 5), .int 0, .int z236] [] (rx_hp L t (rx_u hi236 133 j260 (hi236 132 j259)) hl236 v236) Q
                      refine rx_aw_s 2 (pc := 210) rfl ?_
                      show rx_aw 236 36 [.ref 90, .int x1, .int x2, .int x3, .int x4, .int (x5 / 5), .int ((x6 &&& 1) &&& 1), .int (x7 + 1), .int (x5 - x5 / 5 * 5), .int 0, .int z236] [] (rx_hp L t (rx_u hi236 133 j260 (hi236 132 j259)) hl236 v236) Q
                      exact rx_aw_le (ls := [.ref 90, .int x1, .int x2, .int x3, .int x4, .int (x5 / 5), .int ((x6 &&& 1) &&& 1), .int (x7 + 1), rx_no, rx_no, rx_no]) ⟨Or.inr rfl, ⟨Or.inr rfl, ⟨Or.inr rfl, ⟨Or.inr rfl, ⟨Or.inr rfl, ⟨Or.inr rfl, ⟨Or.inr rfl, ⟨Or.inr rfl, ⟨Or.inl rfl, ⟨Or.inl rfl, ⟨Or.inl rfl, trivial⟩⟩⟩⟩⟩⟩⟩⟩⟩⟩⟩ k
                    · have k := k.2 c258
                      show rx_aw 236 182 [.ref 90, .int x1, .int x2, .int x3, .int x4, .int (x5 / 5), .int ((x6 &&& 1) &&& 1), .int x7, .int (x5 - x5 / 5 * 5), .int 0, .int z236] [.int x7, .ref 133] (rx_hp L t hi236 hl236 v236) Q
                      refine rx_aw_s 3 (pc := 182) rfl ?_
                      show rx_aw 236 188 [.ref 90, .int x1, .int x2, .int x3, .int x4, .int (x5 / 5), .int ((x6 &&& 1) &&& 1), .int x7, .int (x5 - x5 / 5 * 5), .int 0, .int z236] [.int z236, .ref 127, .int x7, .ref 133] (rx_hp L t hi236 hl236 v236) Q
                      obtain ⟨j261, ej261, hj261, k⟩ := k
                      refine rx_aw_iald (pc := 188) (n := 64) j261 ej261 rfl rfl rfl hj261 (by decide) ?_
                      show rx_aw 236 189 [.ref 90, .int x1, .int x2, .int x3, .int x4, .int (x5 / 5), .int ((x6 &&& 1) &&& 1), .int x7, .int (x5 - x5 / 5 * 5), .int 0, .int z236] [.int (hi236 127 j261), .int x7, .ref 133] (rx_hp L t hi236 hl236 v236) Q
                      refine rx_aw_s 1 (pc := 189) rfl ?_
                      refine rx_w_if (c := (hi236 127 j261) < 0) ⟨fun c262 => ?_, fun c262 => ?_⟩
                      · have k := k.1 c262
                        show rx_aw 236 202 [.ref 90, .int x1, .int x2, .int x3, .int x4, .int (x5 / 5), .int ((x6 &&& 1) &&& 1), .int x7, .int (x5 - x5 / 5 * 5), .int 0, .int z236] [.int x7, .ref 133] (rx_hp L t hi236 hl236 v236) Q
                        refine rx_aw_s 3 (pc := 202) rfl ?_
                        show rx_aw 236 208 [.ref 90, .int x1, .int x2, .int x3, .int x4, .int (x5 / 5), .int ((x6 &&& 1) &&& 1), .int x7, .int (x5 - x5 / 5 * 5), .int 0, .int z236] [.int x7, .ref 132, .int x7, .ref 133] (rx_hp L t hi236 hl236 v236) Q
                        obtain ⟨j263, ej263, hj263, k⟩ := k
                        refine rx_aw_iald (pc := 208) (n := 3) j263 ej263 rfl rfl rfl hj263 (by decide) ?_
                        show rx_aw 236 209 [.ref 90, .int x1, .int x2, .int x3, .int x4, .int (x5 / 5), .int ((x6 &&& 1) &&& 1), .int x7, .int (x5 - x5 / 5 * 5), .int 0, .int z236] [.int (hi236 132 j263), .int x7, .ref 133] (rx_hp L t hi236 hl236 v236) Q
                        obtain ⟨j264, ej264, hj264, k⟩ := k
                        refine rx_aw_iast (pc := 209) (n := 3) j264 ej264 rfl rfl (by decide) rfl hj264 (by decide) ?_
                        show rx_aw 236 210 [.ref 90, .int x1, .int x2, .int x3, .int x4, .int (x5 / 5), .int ((x6 &&& 1) &&& 1), .int x7, .int (x5 - x5 / 5 * 5), .int 0, .int z236] [] (rx_hp L t (rx_u hi236 133 j264 (hi236 132 j263)) hl236 v236) Q
                        refine rx_aw_s 2 (pc := 210) rfl ?_
                        show rx_aw 236 36 [.ref 90, .int x1, .int x2, .int x3, .int x4, .int (x5 / 5), .int ((x6 &&& 1) &&& 1), .int (x7 + 1), .int (x5 - x5 / 5 * 5), .int 0, .int z236] [] (rx_hp L t (rx_u hi236 133 j264 (hi236 132 j263)) hl236 v236) Q
                        exact rx_aw_le (ls := [.ref 90, .int x1, .int x2, .int x3, .int x4, .int (x5 / 5), .int ((x6 &&& 1) &&& 1), .int (x7 + 1), rx_no, rx_no, rx_no]) ⟨Or.inr rfl, ⟨Or.inr rfl, ⟨Or.inr rfl, ⟨Or.inr rfl, ⟨Or.inr rfl, ⟨Or.inr rfl, ⟨Or.inr rfl, ⟨Or.inr rfl, ⟨Or.inl rfl, ⟨Or.inl rfl, ⟨Or.inl rfl, trivial⟩⟩⟩⟩⟩⟩⟩⟩⟩⟩⟩ k
                      · have k := k.2 c262
                        show rx_aw 236 192 [.ref 90, .int x1, .int x2, .int x3, .int x4, .int (x5 / 5), .int ((x6 &&& 1) &&& 1), .int x7, .int (x5 - x5 / 5 * 5), .int 0, .int z236] [.int x7, .ref 133] (rx_hp L t hi236 hl236 v236) Q
                        refine rx_aw_s 3 (pc := 192) rfl ?_
                        show rx_aw 236 198 [.ref 90, .int x1, .int x2, .int x3, .int x4, .int (x5 / 5), .int ((x6 &&& 1) &&& 1), .int x7, .int (x5 - x5 / 5 * 5), .int 0, .int z236] [.int z236, .ref 127, .int x7, .ref 133] (rx_hp L t hi236 hl236 v236) Q
                        obtain ⟨j265, ej265, hj265, k⟩ := k
                        refine rx_aw_iald (pc := 198) (n := 64) j265 ej265 rfl rfl rfl hj265 (by decide) ?_
                        show rx_aw 236 199 [.ref 90, .int x1, .int x2, .int x3, .int x4, .int (x5 / 5), .int ((x6 &&& 1) &&& 1), .int x7, .int (x5 - x5 / 5 * 5), .int 0, .int z236] [.int (hi236 127 j265), .int x7, .ref 133] (rx_hp L t hi236 hl236 v236) Q
                        refine rx_aw_s 1 (pc := 199) rfl ?_
                        show rx_aw 236 209 [.ref 90, .int x1, .int x2, .int x3, .int x4, .int (x5 / 5), .int ((x6 &&& 1) &&& 1), .int x7, .int (x5 - x5 / 5 * 5), .int 0, .int z236] [.int (hi236 127 j265), .int x7, .ref 133] (rx_hp L t hi236 hl236 v236) Q
                        obtain ⟨j266, ej266, hj266, k⟩ := k
                        refine rx_aw_iast (pc := 209) (n := 3) j266 ej266 rfl rfl (by decide) rfl hj266 (by decide) ?_
                        show rx_aw 236 210 [.ref 90, .int x1, .int x2, .int x3, .int x4, .int (x5 / 5), .int ((x6 &&& 1) &&& 1), .int x7, .int (x5 - x5 / 5 * 5), .int 0, .int z236] [] (rx_hp L t (rx_u hi236 133 j266 (hi236 127 j265)) hl236 v236) Q
                        refine rx_aw_s 2 (pc := 210) rfl ?_
                        show rx_aw 236 36 [.ref 90, .int x1, .int x2, .int x3, .int x4, .int (x5 / 5), .int ((x6 &&& 1) &&& 1), .int (x7 + 1), .int (x5 - x5 / 5 * 5), .int 0, .int z236] [] (rx_hp L t (rx_u hi236 133 j266 (hi236 127 j265)) hl236 v236) Q
                        exact rx_aw_le (ls := [.ref 90, .int x1, .int x2, .int x3, .int x4, .int (x5 / 5), .int ((x6 &&& 1) &&& 1), .int (x7 + 1), rx_no, rx_no, rx_no]) ⟨Or.inr rfl, ⟨Or.inr rfl, ⟨Or.inr rfl, ⟨Or.inr rfl, ⟨Or.inr rfl, ⟨Or.inr rfl, ⟨Or.inr rfl, ⟨Or.inr rfl, ⟨Or.inl rfl, ⟨Or.inl rfl, ⟨Or.inl rfl, trivial⟩⟩⟩⟩⟩⟩⟩⟩⟩⟩⟩ k
          · have k := k.2 c231
            show rx_aw 236 110 [.ref 90, .int x1, .int x2, .int x3, .int x4, .int (x5 / 5), .int x6, .int x7, .int (x5 - x5 / 5 * 5), .int 0, rx_no] [.int x6] (rx_hp L t (rx_u hi 133 j229 (hi 132 j228)) hl v) Q
            refine rx_aw_s 5 (pc := 110) rfl ?_
            refine rx_w_if (c := 0 = 0) ⟨fun c267 => ?_, fun c267 => ?_⟩
            · have k := k.1 c267
              show rx_aw 236 210 [.ref 90, .int x1, .int x2, .int x3, .int x4, .int (x5 / 5), .int (x6 &&& 0), .int x7, .int (x5 - x5 / 5 * 5), .int 0, rx_no] [] (rx_hp L t (rx_u hi 133 j229 (hi 132 j228)) hl v) Q
              refine rx_aw_s 2 (pc := 210) rfl ?_
              show rx_aw 236 36 [.ref 90, .int x1, .int x2, .int x3, .int x4, .int (x5 / 5), .int (x6 &&& 0), .int (x7 + 1), .int (x5 - x5 / 5 * 5), .int 0, rx_no] [] (rx_hp L t (rx_u hi 133 j229 (hi 132 j228)) hl v) Q
              exact rx_aw_le (ls := [.ref 90, .int x1, .int x2, .int x3, .int x4, .int (x5 / 5), .int (x6 &&& 0), .int (x7 + 1), rx_no, rx_no, rx_no]) ⟨Or.inr rfl, ⟨Or.inr rfl, ⟨Or.inr rfl, ⟨Or.inr rfl, ⟨Or.inr rfl, ⟨Or.inr rfl, ⟨Or.inr rfl, ⟨Or.inr rfl, ⟨Or.inl rfl, ⟨Or.inl rfl, ⟨Or.inl rfl, trivial⟩⟩⟩⟩⟩⟩⟩⟩⟩⟩⟩ k
            · have k := k.2 c267
              show rx_aw 236 119 [.ref 90, .int x1, .int x2, .int x3, .int x4, .int (x5 / 5), .int (x6 &&& 0), .int x7, .int (x5 - x5 / 5 * 5), .int 0, rx_no] [] (rx_hp L t (rx_u hi 133 j229 (hi 132 j228)) hl v) Q
              refine rx_aw_s 2 (pc := 119) rfl ?_
              refine rx_w_if (c := (x5 - x5 / 5 * 5) ≤ 0) ⟨fun c268 => ?_, fun c268 => ?_⟩
              · have k := k.1 c268
                show rx_aw 236 210 [.ref 90, .int x1, .int x2, .int x3, .int x4, .int (x5 / 5), .int (x6 &&& 0), .int x7, .int (x5 - x5 / 5 * 5), .int 0, rx_no] [] (rx_hp L t (rx_u hi 133 j229 (hi 132 j228)) hl v) Q
                refine rx_aw_s 2 (pc := 210) rfl ?_
                show rx_aw 236 36 [.ref 90, .int x1, .int x2, .int x3, .int x4, .int (x5 / 5), .int (x6 &&& 0), .int (x7 + 1), .int (x5 - x5 / 5 * 5), .int 0, rx_no] [] (rx_hp L t (rx_u hi 133 j229 (hi 132 j228)) hl v) Q
                exact rx_aw_le (ls := [.ref 90, .int x1, .int x2, .int x3, .int x4, .int (x5 / 5), .int (x6 &&& 0), .int (x7 + 1), rx_no, rx_no, rx_no]) ⟨Or.inr rfl, ⟨Or.inr rfl, ⟨Or.inr rfl, ⟨Or.inr rfl, ⟨Or.inr rfl, ⟨Or.inr rfl, ⟨Or.inr rfl, ⟨Or.inr rfl, ⟨Or.inl rfl, ⟨Or.inl rfl, ⟨Or.inl rfl, trivial⟩⟩⟩⟩⟩⟩⟩⟩⟩⟩⟩ k
              · have k := k.2 c268
                show rx_aw 236 124 [.ref 90, .int x1, .int x2, .int x3, .int x4, .int (x5 / 5), .int (x6 &&& 0), .int x7, .int (x5 - x5 / 5 * 5), .int 0, rx_no] [] (rx_hp L t (rx_u hi 133 j229 (hi 132 j228)) hl v) Q
                refine rx_aw_s 6 (pc := 124) rfl ?_
                show rx_aw 236 135 [.ref 90, .int x1, .int x2, .int x3, .int x4, .int (x5 / 5), .int (x6 &&& 0), .int x7, .int (x5 - x5 / 5 * 5), .int 0, rx_no] [.int x7, .ref 132, .ref 126, .ref 90] (rx_hp L t (rx_u hi 133 j229 (hi 132 j228)) hl v) Q
                obtain ⟨j269, ej269, hj269, k⟩ := k
                refine rx_aw_iald (pc := 135) (n := 3) j269 ej269 rfl rfl rfl hj269 (by decide) ?_
                show rx_aw 236 136 [.ref 90, .int x1, .int x2, .int x3, .int x4, .int (x5 / 5), .int (x6 &&& 0), .int x7, .int (x5 - x5 / 5 * 5), .int 0, rx_no] [.int ((rx_u hi 133 j229 (hi 132 j228)) 132 j269), .ref 126, .ref 90] (rx_hp L t (rx_u hi 133 j229 (hi 132 j228)) hl v) Q
                obtain ⟨j270, ej270, hj270, k⟩ := k
                refine rx_aw_iald (pc := 136) (n := 20) j270 ej270 rfl rfl rfl hj270 (by decide) ?_
                show rx_aw 236 137 [.ref 90, .int x1, .int x2, .int x3, .int x4, .int (x5 / 5), .int (x6 &&& 0), .int x7, .int (x5 - x5 / 5 * 5), .int 0, rx_no] [.int ((rx_u hi 133 j229 (hi 132 j228)) 126 j270), .ref 90] (rx_hp L t (rx_u hi 133 j229 (hi 132 j228)) hl v) Q
                refine rx_aw_s 3 (pc := 137) rfl ?_
                show rx_aw 236 141 [.ref 90, .int x1, .int x2, .int x3, .int x4, .int (x5 / 5), .int (x6 &&& 0), .int x7, .int (x5 - x5 / 5 * 5), .int 0, rx_no] [.int ((x5 - x5 / 5 * 5) - 1), .int ((rx_u hi 133 j229 (hi 132 j228)) 126 j270), .ref 90] (rx_hp L t (rx_u hi 133 j229 (hi 132 j228)) hl v) Q
                refine rx_w_callI (j := 181) (pc := 141) rfl rfl rfl rfl rfl ?_
                refine rx_aw.mono k (fun r h2 k => ?_)
                obtain ⟨z271, rfl, hi271, hl271, v271, rfl, k⟩ := k
                refine ⟨z271, rfl, ?_⟩
                show rx_aw 236 144 [.ref 90, .int x1, .int x2, .int x3, .int x4, .int (x5 / 5), .int (x6 &&& 0), .int x7, .int (x5 - x5 / 5 * 5), .int 0, rx_no] [.int z271] (rx_hp L t hi271 hl271 v271) Q
                refine rx_aw_s 4 (pc := 144) rfl ?_
                refine rx_w_if (c := z271 < 0) ⟨fun c272 => ?_, fun c272 => ?_⟩
                · have k := k.1 c272
                  show rx_aw 236 167 [.ref 90, .int x1, .int x2, .int x3, .int x4, .int (x5 / 5), .int (x6 &&& 0), .int x7, .int (x5 - x5 / 5 * 5), .int 0, .int z271] [.int (x6 &&& 0)] (rx_hp L t hi271 hl271 v271) Q
                  refine rx_aw_s 8 (pc := 167) rfl ?_
                  refine rx_w_if (c := z271 < 0) ⟨fun c273 => ?_, fun c273 => ?_⟩
                  · have k := k.1 c273
                    show rx_aw 236 202 [.ref 90, .int x1, .int x2, .int x3, .int x4, .int (x5 / 5), .int ((x6 &&& 0) &&& 0), .int x7, .int (x5 - x5 / 5 * 5), .int 0, .int z271] [.int x7, .ref 133] (rx_hp L t hi271 hl271 v271) Q
                    refine rx_aw_s 3 (pc := 202) rfl ?_
                    show rx_aw 236 208 [.ref 90, .int x1, .int x2, .int x3, .int x4, .int (x5 / 5), .int ((x6 &&& 0) &&& 0), .int x7, .int (x5 - x5 / 5 * 5), .int 0, .int z271] [.int x7, .ref 132, .int x7, .ref 133] (rx_hp L t hi271 hl271 v271) Q
                    obtain ⟨j274, ej274, hj274, k⟩ := k
                    refine rx_aw_iald (pc := 208) (n := 3) j274 ej274 rfl rfl rfl hj274 (by decide) ?_
                    show rx_aw 236 209 [.ref 90, .int x1, .int x2, .int x3, .int x4, .int (x5 / 5), .int ((x6 &&& 0) &&& 0), .int x7, .int (x5 - x5 / 5 * 5), .int 0, .int z271] [.int (hi271 132 j274), .int x7, .ref 133] (rx_hp L t hi271 hl271 v271) Q
                    obtain ⟨j275, ej275, hj275, k⟩ := k
                    refine rx_aw_iast (pc := 209) (n := 3) j275 ej275 rfl rfl (by decide) rfl hj275 (by decide) ?_
                    show rx_aw 236 210 [.ref 90, .int x1, .int x2, .int x3, .int x4, .int (x5 / 5), .int ((x6 &&& 0) &&& 0), .int x7, .int (x5 - x5 / 5 * 5), .int 0, .int z271] [] (rx_hp L t (rx_u hi271 133 j275 (hi271 132 j274)) hl271 v271) Q
                    refine rx_aw_s 2 (pc := 210) rfl ?_
                    show rx_aw 236 36 [.ref 90, .int x1, .int x2, .int x3, .int x4, .int (x5 / 5), .int ((x6 &&& 0) &&& 0), .int (x7 + 1), .int (x5 - x5 / 5 * 5), .int 0, .int z271] [] (rx_hp L t (rx_u hi271 133 j275 (hi271 132 j274)) hl271 v271) Q
                    exact rx_aw_le (ls := [.ref 90, .int x1, .int x2, .int x3, .int x4, .int (x5 / 5), .int ((x6 &&& 0) &&& 0), .int (x7 + 1), rx_no, rx_no, rx_no]) ⟨Or.inr rfl, ⟨Or.inr rfl, ⟨Or.inr rfl, ⟨Or.inr rfl, ⟨Or.inr rfl, ⟨Or.inr rfl, ⟨Or.inr rfl, ⟨Or.inr rfl, ⟨Or.inl rfl, ⟨Or.inl rfl, ⟨Or.inl rfl, trivial⟩⟩⟩⟩⟩⟩⟩⟩⟩⟩⟩ k
                  · have k := k.2 c273
                    show rx_aw 236 182 [.ref 90, .int x1, .int x2, .int x3, .int x4, .int (x5 / 5), .int ((x6 &&& 0) &&& 0), .int x7, .int (x5 - x5 / 5 * 5), .int 0, .int z271] [.int x7, .ref 133] (rx_hp L t hi271 hl271 v271) Q
                    refine rx_aw_s 3 (pc := 182) rfl ?_
                    show rx_aw 236 188 [.ref 90, .int x1, .int x2, .int x3, .int x4, .int (x5 / 5), .int ((x6 &&& 0) &&& 0), .int x7, .int (x5 - x5 / 5 * 5), .int 0, .int z271] [.int z271, .ref 127, .int x7, .ref 133] (rx_hp L t hi271 hl271 v271) Q
                    obtain ⟨j276, ej276, hj276, k⟩ := k
                    refine rx_aw_iald (pc := 188) (n := 64) j276 ej276 rfl rfl rfl hj276 (by decide) ?_
                    show rx_aw 236 189 [.ref 90, .int x1, .int x2, .int x3, .int x4, .int (x5 / 5), .int ((x6 &&& 0) &&& 0), .int x7, .int (x5 - x5 / 5 * 5), .int 0, .int z271] [.int (hi271 127 j276), .int x7, .ref 133] (rx_hp L t hi271 hl271 v271) Q
                    refine rx_aw_s 1 (pc := 189) rfl ?_
                    refine rx_w_if (c := (hi271 127 j276) < 0) ⟨fun c277 => ?_, fun c277 => ?_⟩
                    · have k := k.1 c277
                      show rx_aw 236 202 [.ref 90, .int x1, .int x2, .int x3, .int x4, .int (x5 / 5), .int ((x6 &&& 0) &&& 0), .int x7, .int (x5 - x5 / 5 * 5), .int 0, .int z271] [.int x7, .ref 133] (rx_hp L t hi271 hl271 v271) Q
                      refine rx_aw_s 3 (pc := 202) rfl ?_
                      show rx_aw 236 208 [.ref 90, .int x1, .int x2, .int x3, .int x4, .int (x5 / 5), .int ((x6 &&& 0) &&& 0), .int x7, .int (x5 - x5 / 5 * 5), .int 0, .int z271] [.int x7, .ref 132, .int x7, .ref 133] (rx_hp L t hi271 hl271 v271) Q
                      obtain ⟨j278, ej278, hj278, k⟩ := k
                      refine rx_aw_iald (pc := 208) (n := 3) j278 ej278 rfl rfl rfl hj278 (by decide) ?_
                      show rx_aw 236 209 [.ref 90, .int x1, .int x2, .int x3, .int x4, .int (x5 / 5), .int ((x6 &&& 0) &&& 0), .int x7, .int (x5 - x5 / 5 * 5), .int 0, .int z271] [.int (hi271 132 j278), .int x7, .ref 133] (rx_hp L t hi271 hl271 v271) Q
                      obtain ⟨j279, ej279, hj279, k⟩ := k
                      refine rx_aw_iast (pc := 209) (n := 3) j279 ej279 rfl rfl (by decide) rfl hj279 (by decide) ?_
                      show rx_aw 236 210 [.ref 90, .int x1, .int x2, .int x3, .int x4, .int (x5 / 5), .int ((x6 &&& 0) &&& 0), .int x7, .int (x5 - x5 / 5 * 5), .int 0, .int z271] [] (rx_hp L t (rx_u hi271 133 j279 (hi271 132 j278)) hl271 v271) Q
                      refine rx_aw_s 2 (pc := 210) rfl ?_
                      show rx_aw 236 36 [.ref 90, .int x1, .int x2, .int x3, .int x4, .int (x5 / 5), .int ((x6 &&& 0) &&& 0), .int (x7 + 1), .int (x5 - x5 / 5 * 5), .int 0, .int z271] [] (rx_hp L t (rx_u hi271 133 j279 (hi271 132 j278)) hl271 v271) Q
                      exact rx_aw_le (ls := [.ref 90, .int x1, .int x2, .int x3, .int x4, .int (x5 / 5), .int ((x6 &&& 0) &&& 0), .int (x7 + 1), rx_no, rx_no, rx_no]) ⟨Or.inr rfl, ⟨Or.inr rfl, ⟨Or.inr rfl, ⟨Or.inr rfl, ⟨Or.inr rfl, ⟨Or.inr rfl, ⟨Or.inr rfl, ⟨Or.inr rfl, ⟨Or.inl rfl, ⟨Or.inl rfl, ⟨Or.inl rfl, trivial⟩⟩⟩⟩⟩⟩⟩⟩⟩⟩⟩ k
                    · have k := k.2 c277
                      show rx_aw 236 192 [.ref 90, .int x1, .int x2, .int x3, .int x4, .int (x5 / 5), .int ((x6 &&& 0) &&& 0), .int x7, .int (x5 - x5 / 5 * 5), .int 0, .int z271] [.int x7, .ref 133] (rx_hp L t hi271 hl271 v271) Q
                      refine rx_aw_s 3 (pc := 192) rfl ?_
                      show rx_aw 236 198 [.ref 90, .int x1, .int x2, .int x3, .int x4, .int (x5 / 5), .int ((x6 &&& 0) &&& 0), .int x7, .int (x5 - x5 / 5 * 5), .int 0, .int z271] [.int z271, .ref 127, .int x7, .ref 133] (rx_hp L t hi271 hl271 v271) Q
                      obtain ⟨j280, ej280, hj280, k⟩ := k
                      refine rx_aw_iald (pc := 198) (n := 64) j280 ej280 rfl rfl rfl hj280 (by decide) ?_
                      show rx_aw 236 199 [.ref 90, .int x1, .int x2, .int x3, .int x4, .int (x5 / 5), .int ((x6 &&& 0) &&& 0), .int x7, .int (x5 - x5 / 5 * 5), .int 0, .int z271] [.int (hi271 127 j280), .int x7, .ref 133] (rx_hp L t hi271 hl271 v271) Q
                      refine rx_aw_s 1 (pc := 199) rfl ?_
                      show rx_aw 236 209 [.ref 90, .int x1, .int x2, .int x3, .int x4, .int (x5 / 5), .int ((x6 &&& 0) &&& 0), .int x7, .int (x5 - x5 / 5 * 5), .int 0, .int z271] [.int (hi271 127 j280), .int x7, .ref 133] (rx_hp L t hi271 hl271 v271) Q
                      obtain ⟨j281, ej281, hj281, k⟩ := k
                      refine rx_aw_iast (pc := 209) (n := 3) j281 ej281 rfl rfl (by decide) rfl hj281 (by decide) ?_
                      show rx_aw 236 210 [.ref 90, .int x1, .int x2, .int x3, .int x4, .int (x5 / 5), .int ((x6 &&& 0) &&& 0), .int x7, .int (x5 - x5 / 5 * 5), .int 0, .int z271] [] (rx_hp L t (rx_u hi271 133 j281 (hi271 127 j280)) hl271 v271) Q
                      refine rx_aw_s 2 (pc := 210) rfl ?_
                      show rx_aw 236 36 [.ref 90, .int x1, .int x2, .int x3, .int x4, .int (x5 / 5), .int ((x6 &&& 0) &&& 0), .int (x7 + 1), .int (x5 - x5 / 5 * 5), .int 0, .int z271] [] (rx_hp L t (rx_u hi271 133 j281 (hi271 127 j280)) hl271 v271) Q
                      exact rx_aw_le (ls := [.ref 90, .int x1, .int x2, .int x3, .int x4, .int (x5 / 5), .int ((x6 &&& 0) &&& 0), .int (x7 + 1), rx_no, rx_no, rx_no]) ⟨Or.inr rfl, ⟨Or.inr rfl, ⟨Or.inr rfl, ⟨Or.inr rfl, ⟨Or.inr rfl, ⟨Or.inr rfl, ⟨Or.inr rfl, ⟨Or.inr rfl, ⟨Or.inl rfl, ⟨Or.inl rfl, ⟨Or.inl rfl, trivial⟩⟩⟩⟩⟩⟩⟩⟩⟩⟩⟩ k
                · have k := k.2 c272
                  show rx_aw 236 153 [.ref 90, .int x1, .int x2, .int x3, .int x4, .int (x5 / 5), .int (x6 &&& 0), .int x7, .int (x5 - x5 / 5 * 5), .int 0, .int z271] [.int (x6 &&& 0)] (rx_hp L t hi271 hl271 v271) Q
                  refine rx_aw_s 3 (pc := 153) rfl ?_
                  show rx_aw 236 159 [.ref 90, .int x1, .int x2, .int x3, .int x4, .int (x5 / 5), .int (x6 &&& 0), .int x7, .int (x5 - x5 / 5 * 5), .int 0, .int z271] [.int z271, .ref 127, .int (x6 &&& 0)] (rx_hp L t hi271 hl271 v271) Q
                  obtain ⟨j282, ej282, hj282, k⟩ := k
                  refine rx_aw_iald (pc := 159) (n := 64) j282 ej282 rfl rfl rfl hj282 (by decide) ?_
                  show rx_aw 236 160 [.ref 90, .int x1, .int x2, .int x3, .int x4, .int (x5 / 5), .int (x6 &&& 0), .int x7, .int (x5 - x5 / 5 * 5), .int 0, .int z271] [.int (hi271 127 j282), .int (x6 &&& 0)] (rx_hp L t hi271 hl271 v271) Q
                  refine rx_aw_s 1 (pc := 160) rfl ?_
                  refine rx_w_if (c := (hi271 127 j282) < 0) ⟨fun c283 => ?_, fun c283 => ?_⟩
                  · have k := k.1 c283
                    show rx_aw 236 167 [.ref 90, .int x1, .int x2, .int x3, .int x4, .int (x5 / 5), .int (x6 &&& 0), .int x7, .int (x5 - x5 / 5 * 5), .int 0, .int z271] [.int (x6 &&& 0)] (rx_hp L t hi271 hl271 v271) Q
                    refine rx_aw_s 8 (pc := 167) rfl ?_
                    refine rx_w_if (c := z271 < 0) ⟨fun c284 => ?_, fun c284 => ?_⟩
                    · have k := k.1 c284
                      show rx_aw 236 202 [.ref 90, .int x1, .int x2, .int x3, .int x4, .int (x5 / 5), .int ((x6 &&& 0) &&& 0), .int x7, .int (x5 - x5 / 5 * 5), .int 0, .int z271] [.int x7, .ref 133] (rx_hp L t hi271 hl271 v271) Q
                      refine rx_aw_s 3 (pc := 202) rfl ?_
                      show rx_aw 236 208 [.ref 90, .int x1, .int x2, .int x3, .int x4, .int (x5 / 5), .int ((x6 &&& 0) &&& 0), .int x7, .int (x5 - x5 / 5 * 5), .int 0, .int z271] [.int x7, .ref 132, .int x7, .ref 133] (rx_hp L t hi271 hl271 v271) Q
                      obtain ⟨j285, ej285, hj285, k⟩ := k
                      refine rx_aw_iald (pc := 208) (n := 3) j285 ej285 rfl rfl rfl hj285 (by decide) ?_
                      show rx_aw 236 209 [.ref 90, .int x1, .int x2, .int x3, .int x4, .int (x5 / 5), .int ((x6 &&& 0) &&& 0), .int x7, .int (x5 - x5 / 5 * 5), .int 0, .int z271] [.int (hi271 132 j285), .int x7, .ref 133] (rx_hp L t hi271 hl271 v271) Q
                      obtain ⟨j286, ej286, hj286, k⟩ := k
                      refine rx_aw_iast (pc := 209) (n := 3) j286 ej286 rfl rfl (by decide) rfl hj286 (by decide) ?_
                      show rx_aw 236 210 [.ref 90, .int x1, .int x2, .int x3, .int x4, .int (x5 / 5), .int ((x6 &&& 0) &&& 0), .int x7, .int (x5 - x5 / 5 * 5), .int 0, .int z271] [] (rx_hp L t (rx_u hi271 133 j286 (hi271 132 j285)) hl271 v271) Q
                      refine rx_aw_s 2 (pc := 210) rfl ?_
                      show rx_aw 236 36 [.ref 90, .int x1, .int x2, .int x3, .int x4, .int (x5 / 5), .int ((x6 &&& 0) &&& 0), .int (x7 + 1), .int (x5 - x5 / 5 * 5), .int 0, .int z271] [] (rx_hp L t (rx_u hi271 133 j286 (hi271 132 j285)) hl271 v271) Q
                      exact rx_aw_le (ls := [.ref 90, .int x1, .int x2, .int x3, .int x4, .int (x5 / 5), .int ((x6 &&& 0) &&& 0), .int (x7 + 1), rx_no, rx_no, rx_no]) ⟨Or.inr rfl, ⟨Or.inr rfl, ⟨Or.inr rfl, ⟨Or.inr rfl, ⟨Or.inr rfl, ⟨Or.inr rfl, ⟨Or.inr rfl, ⟨Or.inr rfl, ⟨Or.inl rfl, ⟨Or.inl rfl, ⟨Or.inl rfl, trivial⟩⟩⟩⟩⟩⟩⟩⟩⟩⟩⟩ k
                    · have k := k.2 c284
                      show rx_aw 236 182 [.ref 90, .int x1, .int x2, .int x3, .int x4, .int (x5 / 5), .int ((x6 &&& 0) &&& 0), .int x7, .int (x5 - x5 / 5 * 5), .int 0, .int z271] [.int x7, .ref 133] (rx_hp L t hi271 hl271 v271) Q
                      refine rx_aw_s 3 (pc := 182) rfl ?_
                      show rx_aw 236 188 [.ref 90, .int x1, .int x2, .int x3, .int x4, .int (x5 / 5), .int ((x6 &&& 0) &&& 0), .int x7, .int (x5 - x5 / 5 * 5), .int 0, .int z271] [.int z271, .ref 127, .int x7, .ref 133] (rx_hp L t hi271 hl271 v271) Q
                      obtain ⟨j287, ej287, hj287, k⟩ := k
                      refine rx_aw_iald (pc := 188) (n := 64) j287 ej287 rfl rfl rfl hj287 (by decide) ?_
                      show rx_aw 236 189 [.ref 90, .int x1, .int x2, .int x3, .int x4, .int (x5 / 5), .int ((x6 &&& 0) &&& 0), .int x7, .int (x5 - x5 / 5 * 5), .int 0, .int z271] [.int (hi271 127 j287), .int x7, .ref 133] (rx_hp L t hi271 hl271 v271) Q
                      refine rx_aw_s 1 (pc := 189) rfl ?_
                      refine rx_w_if (c := (hi271 127 j287) < 0) ⟨fun c288 => ?_, fun c288 => ?_⟩
                      · have k := k.1 c288
                        show rx_aw 236 202 [.ref 90, .int x1, .int x2, .int x3, .int x4, .int (x5 / 5), .int ((x6 &&& 0) &&& 0), .int x7, .int (x5 - x5 / 5 * 5), .int 0, .int z271] [.int x7, .ref 133] (rx_hp L t hi271 hl271 v271) Q
                        refine rx_aw_s 3 (pc := 202) rfl ?_
                        show rx_aw 236 208 [.ref 90, .int x1, .int x2, .int x3, .int x4, .int (x5 / 5), .int ((x6 &&& 0) &&& 0), .int x7, .int (x5 - x5 / 5 * 5), .int 0, .int z271] [.int x7, .ref 132, .int x7, .ref 133] (rx_hp L t hi271 hl271 v271) Q
                        obtain ⟨j289, ej289, hj289, k⟩ := k
                        refine rx_aw_iald (pc := 208) (n := 3) j289 ej289 rfl rfl rfl hj289 (by decide) ?_
                        show rx_aw 236 209 [.ref 90, .int x1, .int x2, .int x3, .int x4, .int (x5 / 5), .int ((x6 &&& 0) &&& 0), .int x7, .int (x5 - x5 / 5 * 5), .int 0, .int z271] [.int (hi271 132 j289), .int x7, .ref 133] (rx_hp L t hi271 hl271 v271) Q
                        obtain ⟨j290, ej290, hj290, k⟩ := k
                        refine rx_aw_iast (pc := 209) (n := 3) j290 ej290 rfl rfl (by decide) rfl hj290 (by decide) ?_
                        show rx_aw 236 210 [.ref 90, .int x1, .int x2, .int x3, .int x4, .int (x5 / 5), .int ((x6 &&& 0) &&& 0), .int x7, .int (x5 - x5 / 5 * 5), .int 0, .int z271] [] (rx_hp L t (rx_u hi271 133 j290 (hi271 132 j289)) hl271 v271) Q
                        refine rx_aw_s 2 (pc := 210) rfl ?_
                        show rx_aw 236 36 [.ref 90, .int x1, .int x2, .int x3, .int x4, .int (x5 / 5), .int ((x6 &&& 0) &&& 0), .int (x7 + 1), .int (x5 - x5 / 5 * 5), .int 0, .int z271] [] (rx_hp L t (rx_u hi271 133 j290 (hi271 132 j289)) hl271 v271) Q
                        exact rx_aw_le (ls := [.ref 90, .int x1, .int x2, .int x3, .int x4, .int (x5 / 5), .int ((x6 &&& 0) &&& 0), .int (x7 + 1), rx_no, rx_no, rx_no]) ⟨Or.inr rfl, ⟨Or.inr rfl, ⟨Or.inr rfl, ⟨Or.inr rfl, ⟨Or.inr rfl, ⟨Or.inr rfl, ⟨Or.inr rfl, ⟨Or.inr rfl, ⟨Or.inl rfl, ⟨Or.inl rfl, ⟨Or.inl rfl, trivial⟩⟩⟩⟩⟩⟩⟩⟩⟩⟩⟩ k
                      · have k := k.2 c288
                        show rx_aw 236 192 [.ref 90, .int x1, .int x2, .int x3, .int x4, .int (x5 / 5), .int ((x6 &&& 0) &&& 0), .int x7, .int (x5 - x5 / 5 * 5), .int 0, .int z271] [.int x7, .ref 133] (rx_hp L t hi271 hl271 v271) Q
                        refine rx_aw_s 3 (pc := 192) rfl ?_
                        show rx_aw 236 198 [.ref 90, .int x1, .int x2, .int x3, .int x4, .int (x5 / 5), .int ((x6 &&& 0) &&& 0), .int x7, .int (x5 - x5 / 5 * 5), .int 0, .int z271] [.int z271, .ref 127, .int x7, .ref 133] (rx_hp L t hi271 hl271 v271) Q
                        obtain ⟨j291, ej291, hj291, k⟩ := k
                        refine rx_aw_iald (pc := 198) (n := 64) j291 ej291 rfl rfl rfl hj291 (by decide) ?_
                        show rx_aw 236 199 [.ref 90, .int x1, .int x2, .int x3, .int x4, .int (x5 / 5), .int ((x6 &&& 0) &&& 0), .int x7, .int (x5 - x5 / 5 * 5), .int 0, .int z271] [.int (hi271 127 j291), .int x7, .ref 133] (rx_hp L t hi271 hl271 v271) Q
                        refine rx_aw_s 1 (pc := 199) rfl ?_
                        show rx_aw 236 209 [.ref 90, .int x1, .int x2, .int x3, .int x4, .int (x5 / 5), .int ((x6 &&& 0) &&& 0), .int x7, .int (x5 - x5 / 5 * 5), .int 0, .int z271] [.int (hi271 127 j291), .int x7, .ref 133] (rx_hp L t hi271 hl271 v271) Q
                        obtain ⟨j292, ej292, hj292, k⟩ := k
                        refine rx_aw_iast (pc := 209) (n := 3) j292 ej292 rfl rfl (by decide) rfl hj292 (by decide) ?_
                        show rx_aw 236 210 [.ref 90, .int x1, .int x2, .int x3, .int x4, .int (x5 / 5), .int ((x6 &&& 0) &&& 0), .int x7, .int (x5 - x5 / 5 * 5), .int 0, .int z271] [] (rx_hp L t (rx_u hi271 133 j292 (hi271 127 j291)) hl271 v271) Q
                        refine rx_aw_s 2 (pc := 210) rfl ?_
                        show rx_aw 236 36 [.ref 90, .int x1, .int x2, .int x3, .int x4, .int (x5 / 5), .int ((x6 &&& 0) &&& 0), .int (x7 + 1), .int (x5 - x5 / 5 * 5), .int 0, .int z271] [] (rx_hp L t (rx_u hi271 133 j292 (hi271 127 j291)) hl271 v271) Q
                        exact rx_aw_le (ls := [.ref 90, .int x1, .int x2, .int x3, .int x4, .int (x5 / 5), .int ((x6 &&& 0) &&& 0), .int (x7 + 1), rx_no, rx_no, rx_no]) ⟨Or.inr rfl, ⟨Or.inr rfl, ⟨Or.inr rfl, ⟨Or.inr rfl, ⟨Or.inr rfl, ⟨Or.inr rfl, ⟨Or.inr rfl, ⟨Or.inr rfl, ⟨Or.inl rfl, ⟨Or.inl rfl, ⟨Or.inl rfl, trivial⟩⟩⟩⟩⟩⟩⟩⟩⟩⟩⟩ k
                  · have k := k.2 c283
                    show rx_aw 236 163 [.ref 90, .int x1, .int x2, .int x3, .int x4, .int (x5 / 5), .int (x6 &&& 0), .int x7, .int (x5 - x5 / 5 * 5), .int 0, .int z271] [.int (x6 &&& 0)] (rx_hp L t hi271 hl271 v271) Q
                    refine rx_aw_s 9 (pc := 163) rfl ?_
                    refine rx_w_if (c := z271 < 0) ⟨fun c293 => ?_, fun c293 => ?_⟩
                    · have k := k.1 c293
                      show rx_aw 236 202 [.ref 90, .int x1, .int x2, .int x3, .int x4, .int (x5 / 5), .int ((x6 &&& 0) &&& 1), .int x7, .int (x5 - x5 / 5 * 5), .int 0, .int z271] [.int x7, .ref 133] (rx_hp L t hi271 hl271 v271) Q
                      refine rx_aw_s 3 (pc := 202) rfl ?_
                      show rx_aw 236 208 [.ref 90, .int x1, .int x2, .int x3, .int x4, .int (x5 / 5), .int ((x6 &&& 0) &&& 1), .int x7, .int (x5 - x5 / 5 * 5), .int 0, .int z271] [.int x7, .ref 132, .int x7, .ref 133] (rx_hp L t hi271 hl271 v271) Q
                      obtain ⟨j294, ej294, hj294, k⟩ := k
                      refine rx_aw_iald (pc := 208) (n := 3) j294 ej294 rfl rfl rfl hj294 (by decide) ?_
                      show rx_aw 236 209 [.ref 90, .int x1, .int x2, .int x3, .int x4, .int (x5 / 5), .int ((x6 &&& 0) &&& 1), .int x7, .int (x5 - x5 / 5 * 5), .int 0, .int z271] [.int (hi271 132 j294), .int x7, .ref 133] (rx_hp L t hi271 hl271 v271) Q
                      obtain ⟨j295, ej295, hj295, k⟩ := k
                      refine rx_aw_iast (pc := 209) (n := 3) j295 ej295 rfl rfl (by decide) rfl hj295 (by decide) ?_
                      show rx_aw 236 210 [.ref 90, .int x1, .int x2, .int x3, .int x4, .int (x5 / 5), .int ((x6 &&& 0) &&& 1), .int x7, .int (x5 - x5 / 5 * 5), .int 0, .int z271] [] (rx_hp L t (rx_u hi271 133 j295 (hi271 132 j294)) hl271 v271) Q
                      refine rx_aw_s 2 (pc := 210) rfl ?_
                      show rx_aw 236 36 [.ref 90, .int x1, .int x2, .int x3, .int x4, .int (x5 / 5), .int ((x6 &&& 0) &&& 1), .int (x7 + 1), .int (x5 - x5 / 5 * 5), .int 0, .int z271] [] (rx_hp L t (rx_u hi271 133 j295 (hi271 132 j294)) hl271 v271) Q
                      exact rx_aw_le (ls := [.ref 90, .int x1, .int x2, .int x3, .int x4, .int (x5 / 5), .int ((x6 &&& 0) &&& 1), .int (x7 + 1), rx_no, rx_no, rx_no]) ⟨Or.inr rfl, ⟨Or.inr rfl, ⟨Or.inr rfl, ⟨Or.inr rfl, ⟨Or.inr rfl, ⟨Or.inr rfl, ⟨Or.inr rfl, ⟨Or.inr rfl, ⟨Or.inl rfl, ⟨Or.inl rfl, ⟨Or.inl rfl, trivial⟩⟩⟩⟩⟩⟩⟩⟩⟩⟩⟩ k
                    · have k := k.2 c293
                      show rx_aw 236 182 [.ref 90, .int x1, .int x2, .int x3, .int x4, .int (x5 / 5), .int ((x6 &&& 0) &&& 1), .int x7, .int (x5 - x5 / 5 * 5), .int 0, .int z271] [.int x7, .ref 133] (rx_hp L t hi271 hl271 v271) Q
                      refine rx_aw_s 3 (pc := 182) rfl ?_
                      show rx_aw 236 188 [.ref 90, .int x1, .int x2, .int x3, .int x4, .int (x5 / 5), .int ((x6 &&& 0) &&& 1), .int x7, .int (x5 - x5 / 5 * 5), .int 0, .int z271] [.int z271, .ref 127, .int x7, .ref 133] (rx_hp L t hi271 hl271 v271) Q
                      obtain ⟨j296, ej296, hj296, k⟩ := k
                      refine rx_aw_iald (pc := 188) (n := 64) j296 ej296 rfl rfl rfl hj296 (by decide) ?_
                      show rx_aw 236 189 [.ref 90, .int x1, .int x2, .int x3, .int x4, .int (x5 / 5), .int ((x6 &&& 0) &&& 1), .int x7, .int (x5 - x5 / 5 * 5), .int 0, .int z271] [.int (hi271 127 j296), .int x7, .ref 133] (rx_hp L t hi271 hl271 v271) Q
                      refine rx_aw_s 1 (pc := 189) rfl ?_
                      refine rx_w_if (c := (hi271 127 j296) < 0) ⟨fun c297 => ?_, fun c297 => ?_⟩
                      · have k := k.1 c297
                        show rx_aw 236 202 [.ref 90, .int x1, .int x2, .int x3, .int x4, .int (x5 / 5), .int ((x6 &&& 0) &&& 1), .int x7, .int (x5 - x5 / 5 * 5), .int 0, .int z271] [.int x7, .ref 133] (rx_hp L t hi271 hl271 v271) Q
                        refine rx_aw_s 3 (pc := 202) rfl ?_
                        show rx_aw 236 208 [.ref 90, .int x1, .int x2, .int x3, .int x4, .int (x5 / 5), .int ((x6 &&& 0) &&& 1), .int x7, .int (x5 - x5 / 5 * 5), .int 0, .int z271] [.int x7, .ref 132, .int x7, .ref 133] (rx_hp L t hi271 hl271 v271) Q
                        obtain ⟨j298, ej298, hj298, k⟩ := k
                        refine rx_aw_iald (pc := 208) (n := 3) j298 ej298 rfl rfl rfl hj298 (by decide) ?_
                        show rx_aw 236 209 [.ref 90, .int x1, .int x2, .int x3, .int x4, .int (x5 / 5), .int ((x6 &&& 0) &&& 1), .int x7, .int (x5 - x5 / 5 * 5), .int 0, .int z271] [.int (hi271 132 j298), .int x7, .ref 133] (rx_hp L t hi271 hl271 v271) Q
                        obtain ⟨j299, ej299, hj299, k⟩ := k
                        refine rx_aw_iast (pc := 209) (n := 3) j299 ej299 rfl rfl (by decide) rfl hj299 (by decide) ?_
                        show rx_aw 236 210 [.ref 90, .int x1, .int x2, .int x3, .int x4, .int (x5 / 5), .int ((x6 &&& 0) &&& 1), .int x7, .int (x5 - x5 / 5 * 5), .int 0, .int z271] [] (rx_hp L t (rx_u hi271 133 j299 (hi271 132 j298)) hl271 v271) Q
                        refine rx_aw_s 2 (pc := 210) rfl ?_
                        show rx_aw 236 36 [.ref 90, .int x1, .int x2, .int x3, .int x4, .int (x5 / 5), .int ((x6 &&& 0) &&& 1), .int (x7 + 1), .int (x5 - x5 / 5 * 5), .int 0, .int z271] [] (rx_hp L t (rx_u hi271 133 j299 (hi271 132 j298)) hl271 v271) Q
                        exact rx_aw_le (ls := [.ref 90, .int x1, .int x2, .int x3, .int x4, .int (x5 / 5), .int ((x6 &&& 0) &&& 1), .int (x7 + 1), rx_no, rx_no, rx_no]) ⟨Or.inr rfl, ⟨Or.inr rfl, ⟨Or.inr rfl, ⟨Or.inr rfl, ⟨Or.inr rfl, ⟨Or.inr rfl, ⟨Or.inr rfl, ⟨Or.inr rfl, ⟨Or.inl rfl, ⟨Or.inl rfl, ⟨Or.inl rfl, trivial⟩⟩⟩⟩⟩⟩⟩⟩⟩⟩⟩ k
                      · have k := k.2 c297
                        show rx_aw 236 192 [.ref 90, .int x1, .int x2, .int x3, .int x4, .int (x5 / 5), .int ((x6 &&& 0) &&& 1), .int x7, .int (x5 - x5 / 5 * 5), .int 0, .int z271] [.int x7, .ref 133] (rx_hp L t hi271 hl271 v271) Q
                        refine rx_aw_s 3 (pc := 192) rfl ?_
                        show rx_aw 236 198 [.ref 90, .int x1, .int x2, .int x3, .int x4, .int (x5 / 5), .int ((x6 &&& 0) &&& 1), .int x7, .int (x5 - x5 / 5 * 5), .int 0, .int z271] [.int z271, .ref 127, .int x7, .ref 133] (rx_hp L t hi271 hl271 v271) Q
                        obtain ⟨j300, ej300, hj300, k⟩ := k
                        refine rx_aw_iald (pc := 198) (n := 64) j300 ej300 rfl rfl rfl hj300 (by decide) ?_
                        show rx_aw 236 199 [.ref 90, .int x1, .int x2, .int x3, .int x4, .int (x5 / 5), .int ((x6 &&& 0) &&& 1), .int x7, .int (x5 - x5 / 5 * 5), .int 0, .int z271] [.int (hi271 127 j300), .int x7, .ref 133] (rx_hp L t hi271 hl271 v271) Q
                        refine rx_aw_s 1 (pc := 199) rfl ?_
                        show rx_aw 236 209 [.ref 90, .int x1, .int x2, .int x3, .int x4, .int (x5 / 5), .int ((x6 &&& 0) &&& 1), .int x7, .int (x5 - x5 / 5 * 5), .int 0, .int z271] [.int (hi271 127 j300), .int x7, .ref 133] (rx_hp L t hi271 hl271 v271) Q
                        obtain ⟨j301, ej301, hj301, k⟩ := k
                        refine rx_aw_iast (pc := 209) (n := 3) j301 ej301 rfl rfl (by decide) rfl hj301 (by decide) ?_
                        show rx_aw 236 210 [.ref 90, .int x1, .int x2, .int x3, .int x4, .int (x5 / 5), .int ((x6 &&& 0) &&& 1), .int x7, .int (x5 - x5 / 5 * 5), .int 0, .int z271] [] (rx_hp L t (rx_u hi271 133 j301 (hi271 127 j300)) hl271 v271) Q
                        refine rx_aw_s 2 (pc := 210) rfl ?_
                        show rx_aw 236 36 [.ref 90, .int x1, .int x2, .int x3, .int x4, .int (x5 / 5), .int ((x6 &&& 0) &&& 1), .int (x7 + 1), .int (x5 - x5 / 5 * 5), .int 0, .int z271] [] (rx_hp L t (rx_u hi271 133 j301 (hi271 127 j300)) hl271 v271) Q
                        exact rx_aw_le (ls := [.ref 90, .int x1, .int x2, .int x3, .int x4, .int (x5 / 5), .int ((x6 &&& 0) &&& 1), .int (x7 + 1), rx_no, rx_no, rx_no]) ⟨Or.inr rfl, ⟨Or.inr rfl, ⟨Or.inr rfl, ⟨Or.inr rfl, ⟨Or.inr rfl, ⟨Or.inr rfl, ⟨Or.inr rfl, ⟨Or.inr rfl, ⟨Or.inl rfl, ⟨Or.inl rfl, ⟨Or.inl rfl, trivial⟩⟩⟩⟩⟩⟩⟩⟩⟩⟩⟩ k
        · have k := k.2 c230
          show rx_aw 236 106 [.ref 90, .int x1, .int x2, .int x3, .int x4, .int (x5 / 5), .int x6, .int x7, .int (x5 - x5 / 5 * 5), .int 0, rx_no] [.int x6] (rx_hp L t (rx_u hi 133 j229 (hi 132 j228)) hl v) Q
          refine rx_aw_s 6 (pc := 106) rfl ?_
          refine rx_w_if (c := 0 = 0) ⟨fun c302 => ?_, fun c302 => ?_⟩
          · have k := k.1 c302
            show rx_aw 236 210 [.ref 90, .int x1, .int x2, .int x3, .int x4, .int (x5 / 5), .int (x6 &&& 1), .int x7, .int (x5 - x5 / 5 * 5), .int 0, rx_no] [] (rx_hp L t (rx_u hi 133 j229 (hi 132 j228)) hl v) Q
            refine rx_aw_s 2 (pc := 210) rfl ?_
            show rx_aw 236 36 [.ref 90, .int x1, .int x2, .int x3, .int x4, .int (x5 / 5), .int (x6 &&& 1), .int (x7 + 1), .int (x5 - x5 / 5 * 5), .int 0, rx_no] [] (rx_hp L t (rx_u hi 133 j229 (hi 132 j228)) hl v) Q
            exact rx_aw_le (ls := [.ref 90, .int x1, .int x2, .int x3, .int x4, .int (x5 / 5), .int (x6 &&& 1), .int (x7 + 1), rx_no, rx_no, rx_no]) ⟨Or.inr rfl, ⟨Or.inr rfl, ⟨Or.inr rfl, ⟨Or.inr rfl, ⟨Or.inr rfl, ⟨Or.inr rfl, ⟨Or.inr rfl, ⟨Or.inr rfl, ⟨Or.inl rfl, ⟨Or.inl rfl, ⟨Or.inl rfl, trivial⟩⟩⟩⟩⟩⟩⟩⟩⟩⟩⟩ k
          · have k := k.2 c302
            show rx_aw 236 119 [.ref 90, .int x1, .int x2, .int x3, .int x4, .int (x5 / 5), .int (x6 &&& 1), .int x7, .int (x5 - x5 / 5 * 5), .int 0, rx_no] [] (rx_hp L t (rx_u hi 133 j229 (hi 132 j228)) hl v) Q
            refine rx_aw_s 2 (pc := 119) rfl ?_
            refine rx_w_if (c := (x5 - x5 / 5 * 5) ≤ 0) ⟨fun c303 => ?_, fun c303 => ?_⟩
            · have k := k.1 c303
              show rx_aw 236 210 [.ref 90, .int x1, .int x2, .int x3, .int x4, .int (x5 / 5), .int (x6 &&& 1), .int x7, .int (x5 - x5 / 5 * 5), .int 0, rx_no] [] (rx_hp L t (rx_u hi 133 j229 (hi 132 j228)) hl v) Q
              refine rx_aw_s 2 (pc := 210) rfl ?_
              show rx_aw 236 36 [.ref 90, .int x1, .int x2, .int x3, .int x4, .int (x5 / 5), .int (x6 &&& 1), .int (x7 + 1), .int (x5 - x5 / 5 * 5), .int 0, rx_no] [] (rx_hp L t (rx_u hi 133 j229 (hi 132 j228)) hl v) Q
              exact rx_aw_le (ls := [.ref 90, .int x1, .int x2, .int x3, .int x4, .int (x5 / 5), .int (x6 &&& 1), .int (x7 + 1), rx_no, rx_no, rx_no]) ⟨Or.inr rfl, ⟨Or.inr rfl, ⟨Or.inr rfl, ⟨Or.inr rfl, ⟨Or.inr rfl, ⟨Or.inr rfl, ⟨Or.inr rfl, ⟨Or.inr rfl, ⟨Or.inl rfl, ⟨Or.inl rfl, ⟨Or.inl rfl, trivial⟩⟩⟩⟩⟩⟩⟩⟩⟩⟩⟩ k
            · have k := k.2 c303
              show rx_aw 236 124 [.ref 90, .int x1, .int x2, .int x3, .int x4, .int (x5 / 5), .int (x6 &&& 1), .int x7, .int (x5 - x5 / 5 * 5), .int 0, rx_no] [] (rx_hp L t (rx_u hi 133 j229 (hi 132 j228)) hl v) Q
              refine rx_aw_s 6 (pc := 124) rfl ?_
              show rx_aw 236 135 [.ref 90, .int x1, .int x2, .int x3, .int x4, .int (x5 / 5), .int (x6 &&& 1), .int x7, .int (x5 - x5 / 5 * 5), .int 0, rx_no] [.int x7, .ref 132, .ref 126, .ref 90] (rx_hp L t (rx_u hi 133 j229 (hi 132 j228)) hl v) Q
              obtain ⟨j304, ej304, hj304, k⟩ := k
              refine rx_aw_iald (pc := 135) (n := 3) j304 ej304 rfl rfl rfl hj304 (by decide) ?_
              show rx_aw 236 136 [.ref 90, .int x1, .int x2, .int x3, .int x4, .int (x5 / 5), .int (x6 &&& 1), .int x7, .int (x5 - x5 / 5 * 5), .int 0, rx_no] [.int ((rx_u hi 133 j229 (hi 132 j228)) 132 j304), .ref 126, .ref 90] (rx_hp L t (rx_u hi 133 j229 (hi 132 j228)) hl v) Q
              obtain ⟨j305, ej305, hj305, k⟩ := k
              refine rx_aw_iald (pc := 136) (n := 20) j305 ej305 rfl rfl rfl hj305 (by decide) ?_
              show rx_aw 236 137 [.ref 90, .int x1, .int x2, .int x3, .int x4, .int (x5 / 5), .int (x6 &&& 1), .int x7, .int (x5 - x5 / 5 * 5), .int 0, rx_no] [.int ((rx_u hi 133 j229 (hi 132 j228)) 126 j305), .ref 90] (rx_hp L t (rx_u hi 133 j229 (hi 132 j228)) hl v) Q
              refine rx_aw_s 3 (pc := 137) rfl ?_
              show rx_aw 236 141 [.ref 90, .int x1, .int x2, .int x3, .int x4, .int (x5 / 5), .int (x6 &&& 1), .int x7, .int (x5 - x5 / 5 * 5), .int 0, rx_no] [.int ((x5 - x5 / 5 * 5) - 1), .int ((rx_u hi 133 j229 (hi 132 j228)) 126 j305), .ref 90] (rx_hp L t (rx_u hi 133 j229 (hi 132 j228)) hl v) Q
              refine rx_w_callI (j := 181) (pc := 141) rfl rfl rfl rfl rfl ?_
              refine rx_aw.mono k (fun r h2 k => ?_)
              obtain ⟨z306, rfl, hi306, hl306, v306, rfl, k⟩ := k
              refine ⟨z306, rfl, ?_⟩
              show rx_aw 236 144 [.ref 90, .int x1, .int x2, .int x3, .int x4, .int (x5 / 5), .int (x6 &&& 1), .int x7, .int (x5 - x5 / 5 * 5), .int 0, rx_no] [.int z306] (rx_hp L t hi306 hl306 v306) Q
              refine rx_aw_s 4 (pc := 144) rfl ?_
              refine rx_w_if (c := z306 < 0) ⟨fun c307 => ?_, fun c307 => ?_⟩
              · have k := k.1 c307
                show rx_aw 236 167 [.ref 90, .int x1, .int x2, .int x3, .int x4, .int (x5 / 5), .int (x6 &&& 1), .int x7, .int (x5 - x5 / 5 * 5), .int 0, .int z306] [.int (x6 &&& 1)] (rx_hp L t hi306 hl306 v306) Q
                refine rx_aw_s 8 (pc := 167) rfl ?_
                refine rx_w_if (c := z306 < 0) ⟨fun c308 => ?_, fun c308 => ?_⟩
                · have k := k.1 c308
                  show rx_aw 236 202 [.ref 90, .int x1, .int x2, .int x3, .int x4, .int (x5 / 5), .int ((x6 &&& 1) &&& 0), .int x7, .int (x5 - x5 / 5 * 5), .int 0, .int z306] [.int x7, .ref 133] (rx_hp L t hi306 hl306 v306) Q
                  refine rx_aw_s 3 (pc := 202) rfl ?_
                  show rx_aw 236 208 [.ref 90, .int x1, .int x2, .int x3, .int x4, .int (x5 / 5), .int ((x6 &&& 1) &&& 0), .int x7, .int (x5 - x5 / 5 * 5), .int 0, .int z306] [.int x7, .ref 132, .int x7, .ref 133] (rx_hp L t hi306 hl306 v306) Q
                  obtain ⟨j309, ej309, hj309, k⟩ := k
                  refine rx_aw_iald (pc := 208) (n := 3) j309 ej309 rfl rfl rfl hj309 (by decide) ?_
                  show rx_aw 236 209 [.ref 90, .int x1, .int x2, .int x3, .int x4, .int (x5 / 5), .int ((x6 &&& 1) &&& 0), .int x7, .int (x5 - x5 / 5 * 5), .int 0, .int z306] [.int (hi306 132 j309), .int x7, .ref 133] (rx_hp L t hi306 hl306 v306) Q
                  obtain ⟨j310, ej310, hj310, k⟩ := k
                  refine rx_aw_iast (pc := 209) (n := 3) j310 ej310 rfl rfl (by decide) rfl hj310 (by decide) ?_
                  show rx_aw 236 210 [.ref 90, .int x1, .int x2, .int x3, .int x4, .int (x5 / 5), .int ((x6 &&& 1) &&& 0), .int x7, .int (x5 - x5 / 5 * 5), .int 0, .int z306] [] (rx_hp L t (rx_u hi306 133 j310 (hi306 132 j309)) hl306 v306) Q
                  refine rx_aw_s 2 (pc := 210) rfl ?_
                  show rx_aw 236 36 [.ref 90, .int x1, .int x2, .int x3, .int x4, .int (x5 / 5), .int ((x6 &&& 1) &&& 0), .int (x7 + 1), .int (x5 - x5 / 5 * 5), .int 0, .int z306] [] (rx_hp L t (rx_u hi306 133 j310 (hi306 132 j309)) hl306 v306) Q
                  exact rx_aw_le (ls := [.ref 90, .int x1, .int x2, .int x3, .int x4, .int (x5 / 5), .int ((x6 &&& 1) &&& 0), .int (x7 + 1), rx_no, rx_no, rx_no]) ⟨Or.inr rfl, ⟨Or.inr rfl, ⟨Or.inr rfl, ⟨Or.inr rfl, ⟨Or.inr rfl, ⟨Or.inr rfl, ⟨Or.inr rfl, ⟨Or.inr rfl, ⟨Or.inl rfl, ⟨Or.inl rfl, ⟨Or.inl rfl, trivial⟩⟩⟩⟩⟩⟩⟩⟩⟩⟩⟩ k
                · have k := k.2 c308
                  show rx_aw 236 182 [.ref 90, .int x1, .int x2, .int x3, .int x4, .int (x5 / 5), .int ((x6 &&& 1) &&& 0), .int x7, .int (x5 - x5 / 5 * 5), .int 0, .int z306] [.int x7, .ref 133] (rx_hp L t hi306 hl306 v306) Q
                  refine rx_aw_s 3 (pc := 182) rfl ?_
                  show rx_aw 236 188 [.ref 90, .int x1, .int x2, .int x3, .int x4, .int (x5 / 5), .int ((x6 &&& 1) &&& 0), .int x7, .int (x5 - x5 / 5 * 5), .int 0, .int z306] [.int z306, .ref 127, .int x7, .ref 133] (rx_hp L t hi306 hl306 v306) Q
                  obtain ⟨j311, ej311, hj311, k⟩ := k
                  refine rx_aw_iald (pc := 188) (n := 64) j311 ej311 rfl rfl rfl hj311 (by decide) ?_
                  show rx_aw 236 189 [.ref 90, .int x1, .int x2, .int x3, .int x4, .int (x5 / 5), .int ((x6 &&& 1) &&& 0), .int x7, .int (x5 - x5 / 5 * 5), .int 0, .int z306] [.int (hi306 127 j311), .int x7, .ref 133] (rx_hp L t hi306 hl306 v306) Q
                  refine rx_aw_s 1 (pc := 189) rfl ?_
                  refine rx_w_if (c := (hi306 127 j311) < 0) ⟨fun c312 => ?_, fun c312 => ?_⟩
                  · have k := k.1 c312
                    show rx_aw 236 202 [.ref 90, .int x1, .int x2, .int x3, .int x4, .int (x5 / 5), .int ((x6 &&& 1) &&& 0), .int x7, .int (x5 - x5 / 5 * 5), .int 0, .int z306] [.int x7, .ref 133] (rx_hp L t hi306 hl306 v306) Q
                    refine rx_aw_s 3 (pc := 202) rfl ?_
                    show rx_aw 236 208 [.ref 90, .int x1, .int x2, .int x3, .int x4, .int (x5 / 5), .int ((x6 &&& 1) &&& 0), .int x7, .int (x5 - x5 / 5 * 5), .int 0, .int z306] [.int x7, .ref 132, .int x7, .ref 133] (rx_hp L t hi306 hl306 v306) Q
                    obtain ⟨j313, ej313, hj313, k⟩ := k
                    refine rx_aw_iald (pc := 208) (n := 3) j313 ej313 rfl rfl rfl hj313 (by decide) ?_
                    show rx_aw 236 209 [.ref 90, .int x1, .int x2, .int x3, .int x4, .int (x5 / 5), .int ((x6 &&& 1) &&& 0), .int x7, .int (x5 - x5 / 5 * 5), .int 0, .int z306] [.int (hi306 132 j313), .int x7, .ref 133] (rx_hp L t hi306 hl306 v306) Q
                    obtain ⟨j314, ej314, hj314, k⟩ := k
                    refine rx_aw_iast (pc := 209) (n := 3) j314 ej314 rfl rfl (by decide) rfl hj314 (by decide) ?_
                    show rx_aw 236 210 [.ref 90, .int x1, .int x2, .int x3, .int x4, .int (x5 / 5), .int ((x6 &&& 1) &&& 0), .int x7, .int (x5 - x5 / 5 * 5), .int 0, .int z306] [] (rx_hp L t (rx_u hi306 133 j314 (hi306 132 j313)) hl306 v306) Q
                    refine rx_aw_s 2 (pc := 210) rfl ?_
                    show rx_aw 236 36 [.ref 90, .int x1, .int x2, .int x3, .int x4, .int (x5 / 5), .int ((x6 &&& 1) &&& 0), .int (x7 + 1), .int (x5 - x5 / 5 * 5), .int 0, .int z306] [] (rx_hp L t (rx_u hi306 133 j314 (hi306 132 j313)) hl306 v306) Q
                    exact rx_aw_le (ls := [.ref 90, .int x1, .int x2, .int x3, .int x4, .int (x5 / 5), .int ((x6 &&& 1) &&& 0), .int (x7 + 1), rx_no, rx_no, rx_no]) ⟨Or.inr rfl, ⟨Or.inr rfl, ⟨Or.inr rfl, ⟨Or.inr rfl, ⟨Or.inr rfl, ⟨Or.inr rfl, ⟨Or.inr rfl, ⟨Or.inr rfl, ⟨Or.inl rfl, ⟨Or.inl rfl, ⟨Or.inl rfl, trivial⟩⟩⟩⟩⟩⟩⟩⟩⟩⟩⟩ k
                  · have k := k.2 c312
                    show rx_aw 236 192 [.ref 90, .int x1, .int x2, .int x3, .int x4, .int (x5 / 5), .int ((x6 &&& 1) &&& 0), .int x7, .int (x5 - x5 / 5 * 5), .int 0, .int z306] [.int x7, .ref 133] (rx_hp L t hi306 hl306 v306) Q
                    refine rx_aw_s 3 (pc := 192) rfl ?_
                    show rx_aw 236 198 [.ref 90, .int x1, .int x2, .int x3, .int x4, .int (x5 / 5), .int ((x6 &&& 1) &&& 0), .int x7, .int (x5 - x5 / 5 * 5), .int 0, .int z306] [.int z306, .ref 127, .int x7, .ref 133] (rx_hp L t hi306 hl306 v306) Q
                    obtain ⟨j315, ej315, hj315, k⟩ := k
                    refine rx_aw_iald (pc := 198) (n := 64) j315 ej315 rfl rfl rfl hj315 (by decide) ?_
                    show rx_aw 236 199 [.ref 90, .int x1, .int x2, .int x3, .int x4, .int (x5 / 5), .int ((x6 &&& 1) &&& 0), .int x7, .int (x5 - x5 / 5 * 5), .int 0, .int z306] [.int (hi306 127 j315), .int x7, .ref 133] (rx_hp L t hi306 hl306 v306) Q
                    refine rx_aw_s 1 (pc := 199) rfl ?_
                    show rx_aw 236 209 [.ref 90, .int x1, .int x2, .int x3, .int x4, .int (x5 / 5), .int ((x6 &&& 1) &&& 0), .int x7, .int (x5 - x5 / 5 * 5), .int 0, .int z306] [.int (hi306 127 j315), .int x7, .ref 133] (rx_hp L t hi306 hl306 v306) Q
                    obtain ⟨j316, ej316, hj316, k⟩ := k
                    refine rx_aw_iast (pc := 209) (n := 3) j316 ej316 rfl rfl (by decide) rfl hj316 (by decide) ?_
                    show rx_aw 236 210 [.ref 90, .int x1, .int x2, .int x3, .int x4, .int (x5 / 5), .int ((x6 &&& 1) &&& 0), .int x7, .int (x5 - x5 / 5 * 5), .int 0, .int z306] [] (rx_hp L t (rx_u hi306 133 j316 (hi306 127 j315)) hl306 v306) Q
                    refine rx_aw_s 2 (pc := 210) rfl ?_
                    show rx_aw 236 36 [.ref 90, .int x1, .int x2, .int x3, .int x4, .int (x5 / 5), .int ((x6 &&& 1) &&& 0), .int (x7 + 1), .int (x5 - x5 / 5 * 5), .int 0, .int z306] [] (rx_hp L t (rx_u hi306 133 j316 (hi306 127 j315)) hl306 v306) Q
                    exact rx_aw_le (ls := [.ref 90, .int x1, .int x2, .int x3, .int x4, .int (x5 / 5), .int ((x6 &&& 1) &&& 0), .int (x7 + 1), rx_no, rx_no, rx_no]) ⟨Or.inr rfl, ⟨Or.inr rfl, ⟨Or.inr rfl, ⟨Or.inr rfl, ⟨Or.inr rfl, ⟨Or.inr rfl, ⟨Or.inr rfl, ⟨Or.inr rfl, ⟨Or.inl rfl, ⟨Or.inl rfl, ⟨Or.inl rfl, trivial⟩⟩⟩⟩⟩⟩⟩⟩⟩⟩⟩ k
              · have k := k.2 c307
                show rx_aw 236 153 [.ref 90, .int x1, .int x2, .int x3, .int x4, .int (x5 / 5), .int (x6 &&& 1), .int x7, .int (x5 - x5 / 5 * 5), .int 0, .int z306] [.int (x6 &&& 1)] (rx_hp L t hi306 hl306 v306) Q
                refine rx_aw_s 3 (pc := 153) rfl ?_
                show rx_aw 236 159 [.ref 90, .int x1, .int x2, .int x3, .int x4, .int (x5 / 5), .int (x6 &&& 1), .int x7, .int (x5 - x5 / 5 * 5), .int 0, .int z306] [.int z306, .ref 127, .int (x6 &&& 1)] (rx_hp L t hi306 hl306 v306) Q
                obtain ⟨j317, ej317, hj317, k⟩ := k
                refine rx_aw_iald (pc := 159) (n := 64) j317 ej317 rfl rfl rfl hj317 (by decide) ?_
                show rx_aw 236 160 [.ref 90, .int x1, .int x2, .int x3, .int x4, .int (x5 / 5), .int (x6 &&& 1), .int x7, .int (x5 - x5 / 5 * 5), .int 0, .int z306] [.int (hi306 127 j317), .int (x6 &&& 1)] (rx_hp L t hi306 hl306 v306) Q
                refine rx_aw_s 1 (pc := 160) rfl ?_
                refine rx_w_if (c := (hi306 127 j317) < 0) ⟨fun c318 => ?_, fun c318 => ?_⟩
                · have k := k.1 c318
                  show rx_aw 236 167 [.ref 90, .int x1, .int x2, .int x3, .int x4, .int (x5 / 5), .int (x6 &&& 1), .int x7, .int (x5 - x5 / 5 * 5), .int 0, .int z306] [.int (x6 &&& 1)] (rx_hp L t hi306 hl306 v306) Q
                  refine rx_aw_s 8 (pc := 167) rfl ?_
                  refine rx_w_if (c := z306 < 0) ⟨fun c319 => ?_, fun c319 => ?_⟩
                  · have k := k.1 c319
                    show rx_aw 236 202 [.ref 90, .int x1, .int x2, .int x3, .int x4, .int (x5 / 5), .int ((x6 &&& 1) &&& 0), .int x7, .int (x5 - x5 / 5 * 5), .int 0, .int z306] [.int x7, .ref 133] (rx_hp L t hi306 hl306 v306) Q
                    refine rx_aw_s 3 (pc := 202) rfl ?_
                    show rx_aw 236 208 [.ref 90, .int x1, .int x2, .int x3, .int x4, .int (x5 / 5), .int ((x6 &&& 1) &&& 0), .int x7, .int (x5 - x5 / 5 * 5), .int 0, .int z306] [.int x7, .ref 132, .int x7, .ref 133] (rx_hp L t hi306 hl306 v306) Q
                    obtain ⟨j320, ej320, hj320, k⟩ := k
                    refine rx_aw_iald (pc := 208) (n := 3) j320 ej320 rfl rfl rfl hj320 (by decide) ?_
                    show rx_aw 236 209 [.ref 90, .int x1, .int x2, .int x3, .int x4, .int (x5 / 5), .int ((x6 &&& 1) &&& 0), .int x7, .int (x5 - x5 / 5 * 5), .int 0, .int z306] [.int (hi306 132 j320), .int x7, .ref 133] (rx_hp L t hi306 hl306 v306) Q
                    obtain ⟨j321, ej321, hj321, k⟩ := k
                    refine rx_aw_iast (pc := 209) (n := 3) j321 ej321 rfl rfl (by decide) rfl hj321 (by decide) ?_
                    show rx_aw 236 210 [.ref 90, .int x1, .int x2, .int x3, .int x4, .int (x5 / 5), .int ((x6 &&& 1) &&& 0), .int x7, .int (x5 - x5 / 5 * 5), .int 0, .int z306] [] (rx_hp L t (rx_u hi306 133 j321 (hi306 132 j320)) hl306 v306) Q
                    refine rx_aw_s 2 (pc := 210) rfl ?_
                    show rx_aw 236 36 [.ref 90, .int x1, .int x2, .int x3, .int x4, .int (x5 / 5), .int ((x6 &&& 1) &&& 0), .int (x7 + 1), .int (x5 - x5 / 5 * 5), .int 0, .int z306] [] (rx_hp L t (rx_u hi306 133 j321 (hi306 132 j320)) hl306 v306) Q
                    exact rx_aw_le (ls := [.ref 90, .int x1, .int x2, .int x3, .int x4, .int (x5 / 5), .int ((x6 &&& 1) &&& 0), .int (x7 + 1), rx_no, rx_no, rx_no]) ⟨Or.inr rfl, ⟨Or.inr rfl, ⟨Or.inr rfl, ⟨Or.inr rfl, ⟨Or.inr rfl, ⟨Or.inr rfl, ⟨Or.inr rfl, ⟨Or.inr rfl, ⟨Or.inl rfl, ⟨Or.inl rfl, ⟨Or.inl rfl, trivial⟩⟩⟩⟩⟩⟩⟩⟩⟩⟩⟩ k
                  · have k := k.2 c319
                    show rx_aw 236 182 [.ref 90, .int x1, .int x2, .int x3, .int x4, .int (x5 / 5), .int ((x6 &&& 1) &&& 0), .int x7, .int (x5 - x5 / 5 * 5), .int 0, .int z306] [.int x7, .ref 133] (rx_hp L t hi306 hl306 v306) Q
                    refine rx_aw_s 3 (pc := 182) rfl ?_
                    show rx_aw 236 188 [.ref 90, .int x1, .int x2, .int x3, .int x4, .int (x5 / 5), .int ((x6 &&& 1) &&& 0), .int x7, .int (x5 - x5 / 5 * 5), .int 0, .int z306] [.int z306, .ref 127, .int x7, .ref 133] (rx_hp L t hi306 hl306 v306) Q
                    obtain ⟨j322, ej322, hj322, k⟩ := k
                    refine rx_aw_iald (pc := 188) (n := 64) j322 ej322 rfl rfl rfl hj322 (by decide) ?_
                    show rx_aw 236 189 [.ref 90, .int x1, .int x2, .int x3, .int x4, .int (x5 / 5), .int ((x6 &&& 1) &&& 0), .int x7, .int (x5 - x5 / 5 * 5), .int 0, .int z306] [.int (hi306 127 j322), .int x7, .ref 133] (rx_hp L t hi306 hl306 v306) Q
                    refine rx_aw_s 1 (pc := 189) rfl ?_
                    refine rx_w_if (c := (hi306 127 j322) < 0) ⟨fun c323 => ?_, fun c323 => ?_⟩
                    · have k := k.1 c323
                      show rx_aw 236 202 [.ref 90, .int x1, .int x2, .int x3, .int x4, .int (x5 / 5), .int ((x6 &&& 1) &&& 0), .int x7, .int (x5 - x5 / 5 * 5), .int 0, .int z306] [.int x7, .ref 133] (rx_hp L t hi306 hl306 v306) Q
                      refine rx_aw_s 3 (pc := 202) rfl ?_
                      show rx_aw 236 208 [.ref 90, .int x1, .int x2, .int x3, .int x4, .int (x5 / 5), .int ((x6 &&& 1) &&& 0), .int x7, .int (x5 - x5 / 5 * 5), .int 0, .int z306] [.int x7, .ref 132, .int x7, .ref 133] (rx_hp L t hi306 hl306 v306) Q
                      obtain ⟨j324, ej324, hj324, k⟩ := k
                      refine rx_aw_iald (pc := 208) (n := 3) j324 ej324 rfl rfl rfl hj324 (by decide) ?_
                      show rx_aw 236 209 [.ref 90, .int x1, .int x2, .int x3, .int x4, .int (x5 / 5), .int ((x6 &&& 1) &&& 0), .int x7, .int (x5 - x5 / 5 * 5), .int 0, .int z306] [.int (hi306 132 j324), .int x7, .ref 133] (rx_hp L t hi306 hl306 v306) Q
                      obtain ⟨j325, ej325, hj325, k⟩ := k
                      refine rx_aw_iast (pc := 209) (n := 3) j325 ej325 rfl rfl (by decide) rfl hj325 (by decide) ?_
                      show rx_aw 236 210 [.ref 90, .int x1, .int x2, .int x3, .int x4, .int (x5 / 5), .int ((x6 &&& 1) &&& 0), .int x7, .int (x5 - x5 / 5 * 5), .int 0, .int z306] [] (rx_hp L t (rx_u hi306 133 j325 (hi306 132 j324)) hl306 v306) Q
                      refine rx_aw_s 2 (pc := 210) rfl ?_
                      show rx_aw 236 36 [.ref 90, .int x1, .int x2, .int x3, .int x4, .int (x5 / 5), .int ((x6 &&& 1) &&& 0), .int (x7 + 1), .int (x5 - x5 / 5 * 5), .int 0, .int z306] [] (rx_hp L t (rx_u hi306 133 j325 (hi306 132 j324)) hl306 v306) Q
                      exact rx_aw_le (ls := [.ref 90, .int x1, .int x2, .int x3, .int x4, .int (x5 / 5), .int ((x6 &&& 1) &&& 0), .int (x7 + 1), rx_no, rx_no, rx_no]) ⟨Or.inr rfl, ⟨Or.inr rfl, ⟨Or.inr rfl, ⟨Or.inr rfl, ⟨Or.inr rfl, ⟨Or.inr rfl, ⟨Or.inr rfl, ⟨Or.inr rfl, ⟨Or.inl rfl, ⟨Or.inl rfl, ⟨Or.inl rfl, trivial⟩⟩⟩⟩⟩⟩⟩⟩⟩⟩⟩ k
                    · have k := k.2 c323
                      show rx_aw 236 192 [.ref 90, .int x1, .int x2, .int x3, .int x4, .int (x5 / 5), .int ((x6 &&& 1) &&& 0), .int x7, .int (x5 - x5 / 5 * 5), .int 0, .int z306] [.int x7, .ref 133] (rx_hp L t hi306 hl306 v306) Q
                      refine rx_aw_s 3 (pc := 192) rfl ?_
                      show rx_aw 236 198 [.ref 90, .int x1, .int x2, .int x3, .int x4, .int (x5 / 5), .int ((x6 &&& 1) &&& 0), .int x7, .int (x5 - x5 / 5 * 5), .int 0, .int z306] [.int z306, .ref 127, .int x7, .ref 133] (rx_hp L t hi306 hl306 v306) Q
                      obtain ⟨j326, ej326, hj326, k⟩ := k
                      refine rx_aw_iald (pc := 198) (n := 64) j326 ej326 rfl rfl rfl hj326 (by decide) ?_
                      show rx_aw 236 199 [.ref 90, .int x1, .int x2, .int x3, .int x4, .int (x5 / 5), .int ((x6 &&& 1) &&& 0), .int x7, .int (x5 - x5 / 5 * 5), .int 0, .int z306] [.int (hi306 127 j326), .int x7, .ref 133] (rx_hp L t hi306 hl306 v306) Q
                      refine rx_aw_s 1 (pc := 199) rfl ?_
                      show rx_aw 236 209 [.ref 90, .int x1, .int x2, .int x3, .int x4, .int (x5 / 5), .int ((x6 &&& 1) &&& 0), .int x7, .int (x5 - x5 / 5 * 5), .int 0, .int z306] [.int (hi306 127 j326), .int x7, .ref 133] (rx_hp L t hi306 hl306 v306) Q
                      obtain ⟨j327, ej327, hj327, k⟩ := k
                      refine rx_aw_iast (pc := 209) (n := 3) j327 ej327 rfl rfl (by decide) rfl hj327 (by decide) ?_
                      show rx_aw 236 210 [.ref 90, .int x1, .int x2, .int x3, .int x4, .int (x5 / 5), .int ((x6 &&& 1) &&& 0), .int x7, .int (x5 - x5 / 5 * 5), .int 0, .int z306] [] (rx_hp L t (rx_u hi306 133 j327 (hi306 127 j326)) hl306 v306) Q
                      refine rx_aw_s 2 (pc := 210) rfl ?_
                      show rx_aw 236 36 [.ref 90, .int x1, .int x2, .int x3, .int x4, .int (x5 / 5), .int ((x6 &&& 1) &&& 0), .int (x7 + 1), .int (x5 - x5 / 5 * 5), .int 0, .int z306] [] (rx_hp L t (rx_u hi306 133 j327 (hi306 127 j326)) hl306 v306) Q
                      exact rx_aw_le (ls := [.ref 90, .int x1, .int x2, .int x3, .int x4, .int (x5 / 5), .int ((x6 &&& 1) &&& 0), .int (x7 + 1), rx_no, rx_no, rx_no]) ⟨Or.inr rfl, ⟨Or.inr rfl, ⟨Or.inr rfl, ⟨Or.inr rfl, ⟨Or.inr rfl, ⟨Or.inr rfl, ⟨Or.inr rfl, ⟨Or.inr rfl, ⟨Or.inl rfl, ⟨Or.inl rfl, ⟨Or.inl rfl, trivial⟩⟩⟩⟩⟩⟩⟩⟩⟩⟩⟩ k
                · have k := k.2 c318
                  show rx_aw 236 163 [.ref 90, .int x1, .int x2, .int x3, .int x4, .int (x5 / 5), .int (x6 &&& 1), .int x7, .int (x5 - x5 / 5 * 5), .int 0, .int z306] [.int (x6 &&& 1)] (rx_hp L t hi306 hl306 v306) Q
                  refine rx_aw_s 9 (pc := 163) rfl ?_
                  refine rx_w_if (c := z306 < 0) ⟨fun c328 => ?_, fun c328 => ?_⟩
                  · have k := k.1 c328
                    show rx_aw 236 202 [.ref 90, .int x1, .int x2, .int x3, .int x4, .int (x5 / 5), .int ((x6 &&& 1) &&& 1), .int x7, .int (x5 - x5 / 5 * 5), .int 0, .int z306] [.int x7, .ref 133] (rx_hp L t hi306 hl306 v306) Q
                    refine rx_aw_s 3 (pc := 202) rfl ?_
                    show rx_aw 236 208 [.ref 90, .int x1, .int x2, .int x3, .int x4, .int (x5 / 5), .int ((x6 &&& 1) &&& 1), .int x7, .int (x5 - x5 / 5 * 5), .int 0, .int z306] [.int x7, .ref 132, .int x7, .ref 133] (rx_hp L t hi306 hl306 v306) Q
                    obtain ⟨j329, ej329, hj329, k⟩ := k
                    refine rx_aw_iald (pc := 208) (n := 3) j329 ej329 rfl rfl rfl hj329 (by decide) ?_
                    show rx_aw 236 209 [.ref 90, .int x1, .int x2, .int x3, .int x4, .int (x5 / 5), .int ((x6 &&& 1) &&& 1), .int x7, .int (x5 - x5 / 5 * 5), .int 0, .int z306] [.int (hi306 132 j329), .int x7, .ref 133] (rx_hp L t hi306 hl306 v306) Q
                    obtain ⟨j330, ej330, hj330, k⟩ := k
                    refine rx_aw_iast (pc := 209) (n := 3) j330 ej330 rfl rfl (by decide) rfl hj330 (by decide) ?_
                    show rx_aw 236 210 [.ref 90, .int x1, .int x2, .int x3, .int x4, .int (x5 / 5), .int ((x6 &&& 1) &&& 1), .int x7, .int (x5 - x5 / 5 * 5), .int 0, .int z306] [] (rx_hp L t (rx_u hi306 133 j330 (hi306 132 j329)) hl306 v306) Q
                    refine rx_aw_s 2 (pc := 210) rfl ?_
                    show rx_aw 236 36 [.ref 90, .int x1, .int x2, .int x3, .int x4, .int (x5 / 5), .int ((x6 &&& 1) &&& 1), .int (x7 + 1), .int (x5 - x5 / 5 * 5), .int 0, .int z306] [] (rx_hp L t (rx_u hi306 133 j330 (hi306 132 j329)) hl306 v306) Q
                    exact rx_aw_le (ls := [.ref 90, .int x1, .int x2, .int x3, .int x4, .int (x5 / 5), .int ((x6 &&& 1) &&& 1), .int (x7 + 1), rx_no, rx_no, rx_no]) ⟨Or.inr rfl, ⟨Or.inr rfl, ⟨Or.inr rfl, ⟨Or.inr rfl, ⟨Or.inr rfl, ⟨Or.inr rfl, ⟨Or.inr rfl, ⟨Or.inr rfl, ⟨Or.inl rfl, ⟨Or.inl rfl, ⟨Or.inl rfl, trivial⟩⟩⟩⟩⟩⟩⟩⟩⟩⟩⟩ k
                  · have k := k.2 c328
                    show rx_aw 236 182 [.ref 90, .int x1, .int x2, .int x3, .int x4, .int (x5 / 5), .int ((x6 &&& 1) &&& 1), .int x7, .int (x5 - x5 / 5 * 5), .int 0, .int z306] [.int x7, .ref 133] (rx_hp L t hi306 hl306 v306) Q
                    refine rx_aw_s 3 (pc := 182) rfl ?_
                    show rx_aw 236 188 [.ref 90, .int x1, .int x2, .int x3, .int x4, .int (x5 / 5), .int ((x6 &&& 1) &&& 1), .int x7, .int (x5 - x5 / 5 * 5), .int 0, .int z306] [.int z306, .ref 127, .int x7, .ref 133] (rx_hp L t hi306 hl306 v306) Q
                    obtain ⟨j331, ej331, hj331, k⟩ := k
                    refine rx_aw_iald (pc := 188) (n := 64) j331 ej331 rfl rfl rfl hj331 (by decide) ?_
                    show rx_aw 236 189 [.ref 90, .int x1, .int x2, .int x3, .int x4, .int (x5 / 5), .int ((x6 &&& 1) &&& 1), .int x7, .int (x5 - x5 / 5 * 5), .int 0, .int z306] [.int (hi306 127 j331), .int x7, .ref 133] (rx_hp L t hi306 hl306 v306) Q
                    refine rx_aw_s 1 (pc := 189) rfl ?_
                    refine rx_w_if (c := (hi306 127 j331) < 0) ⟨fun c332 => ?_, fun c332 => ?_⟩
                    · have k := k.1 c332
                      show rx_aw 236 202 [.ref 90, .int x1, .int x2, .int x3, .int x4, .int (x5 / 5), .int ((x6 &&& 1) &&& 1), .int x7, .int (x5 - x5 / 5 * 5), .int 0, .int z306] [.int x7, .ref 133] (rx_hp L t hi306 hl306 v306) Q
                      refine rx_aw_s 3 (pc := 202) rfl ?_
                      show rx_aw 236 208 [.ref 90, .int x1, .int x2, .int x3, .int x4, .int (x5 / 5), .int ((x6 &&& 1) &&& 1), .int x7, .int (x5 - x5 / 5 * 5), .int 0, .int z306] [.int x7, .ref 132, .int x7, .ref 133] (rx_hp L t hi306 hl306 v306) Q
                      obtain ⟨j333, ej333, hj333, k⟩ := k
                      refine rx_aw_iald (pc := 208) (n := 3) j333 ej333 rfl rfl rfl hj333 (by decide) ?_
                      show rx_aw 236 209 [.ref 90, .int x1, .int x2, .int x3, .int x4, .int (x5 / 5), .int ((x6 &&& 1) &&& 1), .int x7, .int (x5 - x5 / 5 * 5), .int 0, .int z306] [.int (hi306 132 j333), .int x7, .ref 133] (rx_hp L t hi306 hl306 v306) Q
                      obtain ⟨j334, ej334, hj334, k⟩ := k
                      refine rx_aw_iast (pc := 209) (n := 3) j334 ej334 rfl rfl (by decide) rfl hj334 (by decide) ?_
                      show rx_aw 236 210 [.ref 90, .int x1, .int x2, .int x3, .int x4, .int (x5 / 5), .int ((x6 &&& 1) &&& 1), .int x7, .int (x5 - x5 / 5 * 5), .int 0, .int z306] [] (rx_hp L t (rx_u hi306 133 j334 (hi306 132 j333)) hl306 v306) Q
                      refine rx_aw_s 2 (pc := 210) rfl ?_
                      show rx_aw 236 36 [.ref 90, .int x1, .int x2, .int x3, .int x4, .int (x5 / 5), .int ((x6 &&& 1) &&& 1), .int (x7 + 1), .int (x5 - x5 / 5 * 5), .int 0, .int z306] [] (rx_hp L t (rx_u hi306 133 j334 (hi306 132 j333)) hl306 v306) Q
                      exact rx_aw_le (ls := [.ref 90, .int x1, .int x2, .int x3, .int x4, .int (x5 / 5), .int ((x6 &&& 1) &&& 1), .int (x7 + 1), rx_no, rx_no, rx_no]) ⟨Or.inr rfl, ⟨Or.inr rfl, ⟨Or.inr rfl, ⟨Or.inr rfl, ⟨Or.inr rfl, ⟨Or.inr rfl, ⟨Or.inr rfl, ⟨Or.inr rfl, ⟨Or.inl rfl, ⟨Or.inl rfl, ⟨Or.inl rfl, trivial⟩⟩⟩⟩⟩⟩⟩⟩⟩⟩⟩ k
                    · have k := k.2 c332
                      show rx_aw 236 192 [.ref 90, .int x1, .int x2, .int x3, .int x4, .int (x5 / 5), .int ((x6 &&& 1) &&& 1), .int x7, .int (x5 - x5 / 5 * 5), .int 0, .int z306] [.int x7, .ref 133] (rx_hp L t hi306 hl306 v306) Q
                      refine rx_aw_s 3 (pc := 192) rfl ?_
                      show rx_aw 236 198 [.ref 90, .int x1, .int x2, .int x3, .int x4, .int (x5 / 5), .int ((x6 &&& 1) &&& 1), .int x7, .int (x5 - x5 / 5 * 5), .int 0, .int z306] [.int z306, .ref 127, .int x7, .ref 133] (rx_hp L t hi306 hl306 v306) Q
                      obtain ⟨j335, ej335, hj335, k⟩ := k
                      refine rx_aw_iald (pc := 198) (n := 64) j335 ej335 rfl rfl rfl hj335 (by decide) ?_
                      show rx_aw 236 199 [.ref 90, .int x1, .int x2, .int x3, .int x4, .int (x5 / 5), .int ((x6 &&& 1) &&& 1), .int x7, .int (x5 - x5 / 5 * 5), .int 0, .int z306] [.int (hi306 127 j335), .int x7, .ref 133] (rx_hp L t hi306 hl306 v306) Q
                      refine rx_aw_s 1 (pc := 199) rfl ?_
                      show rx_aw 236 209 [.ref 90, .int x1, .int x2, .int x3, .int x4, .int (x5 / 5), .int ((x6 &&& 1) &&& 1), .int x7, .int (x5 - x5 / 5 * 5), .int 0, .int z306] [.int (hi306 127 j335), .int x7, .ref 133] (rx_hp L t hi306 hl306 v306) Q
                      obtain ⟨j336, ej336, hj336, k⟩ := k
                      refine rx_aw_iast (pc := 209) (n := 3) j336 ej336 rfl rfl (by decide) rfl hj336 (by decide) ?_
                      show rx_aw 236 210 [.ref 90, .int x1, .int x2, .int x3, .int x4, .int (x5 / 5), .int ((x6 &&& 1) &&& 1), .int x7, .int (x5 - x5 / 5 * 5), .int 0, .int z306] [] (rx_hp L t (rx_u hi306 133 j336 (hi306 127 j335)) hl306 v306) Q
                      refine rx_aw_s 2 (pc := 210) rfl ?_
                      show rx_aw 236 36 [.ref 90, .int x1, .int x2, .int x3, .int x4, .int (x5 / 5), .int ((x6 &&& 1) &&& 1), .int (x7 + 1), .int (x5 - x5 / 5 * 5), .int 0, .int z306] [] (rx_hp L t (rx_u hi306 133 j336 (hi306 127 j335)) hl306 v306) Q
                      exact rx_aw_le (ls := [.ref 90, .int x1, .int x2, .int x3, .int x4, .int (x5 / 5), .int ((x6 &&& 1) &&& 1), .int (x7 + 1), rx_no, rx_no, rx_no]) ⟨Or.inr rfl, ⟨Or.inr rfl, ⟨Or.inr rfl, ⟨Or.inr rfl, ⟨Or.inr rfl, ⟨Or.inr rfl, ⟨Or.inr rfl, ⟨Or.inr rfl, ⟨Or.inl rfl, ⟨Or.inl rfl, ⟨Or.inl rfl, trivial⟩⟩⟩⟩⟩⟩⟩⟩⟩⟩⟩ k
