/-! Methods walked by program (gen/wp.py): what is left to show of each. -/
set_option maxRecDepth 100000 in
/-- CartFloorModel.moveAt(II)I -/
theorem w194_moveAt_r {L : Nat} {t : List (Nat × Nat)} {hi : Nat → Nat → Int32} {hl : Nat → Nat → Int64} {v : Nat → Nat → Option Nat} {Q : Option Value → rx_H → Prop} {a0 : Int32} {a1 : Int32} (k : (∃ j1 : Nat, a0 = nI j1 ∧ j1 < 6 ∧ (((hi 94 j1) ≤ a1 → Q (some (.int (0 : Int32))) (rx_hp L t hi hl v)) ∧ (¬ ((hi 94 j1) ≤ a1) → (∃ j3 : Nat, (((400 : Int32) * a0) + a1) = nI j3 ∧ j3 < 2400 ∧ Q (some (.int (hi 95 j3))) (rx_hp L t hi hl v)))))) : rx_me 194 [.ref 90, .int a0, .int a1] (rx_hp L t hi hl v) Q := by
  show rx_aw 194 0 [.ref 90, .int a0, .int a1] [] (rx_hp L t hi hl v) Q
  refine rx_aw_s 4 (pc := 0) rfl ?_
  show rx_aw 194 6 [.ref 90, .int a0, .int a1] [.int a0, .ref 94, .int a1] (rx_hp L t hi hl v) Q
  obtain ⟨j1, ej1, hj1, k⟩ := k
  refine rx_aw_iald (pc := 6) (n := 6) j1 ej1 rfl rfl rfl hj1 (by decide) ?_
  show rx_aw 194 7 [.ref 90, .int a0, .int a1] [.int (hi 94 j1), .int a1] (rx_hp L t hi hl v) Q
  refine rx_aw_s 1 (pc := 7) rfl ?_
  refine rx_w_if (c := (hi 94 j1) ≤ a1) ⟨fun c2 => ?_, fun c2 => ?_⟩
  · have k := k.1 c2
    show rx_aw 194 25 [.ref 90, .int a0, .int a1] [] (rx_hp L t hi hl v) Q
    refine rx_aw_s 1 (pc := 25) rfl ?_
    show rx_aw 194 26 [.ref 90, .int a0, .int a1] [.int (0 : Int32)] (rx_hp L t hi hl v) Q
    exact rx_aw_ret (pc := 26) rfl k
  · have k := k.2 c2
    show rx_aw 194 10 [.ref 90, .int a0, .int a1] [] (rx_hp L t hi hl v) Q
    refine rx_aw_s 7 (pc := 10) rfl ?_
    show rx_aw 194 21 [.ref 90, .int a0, .int a1] [.int (((400 : Int32) * a0) + a1), .ref 95] (rx_hp L t hi hl v) Q
    obtain ⟨j3, ej3, hj3, k⟩ := k
    refine rx_aw_iald (pc := 21) (n := 2400) j3 ej3 rfl rfl rfl hj3 (by decide) ?_
    show rx_aw 194 22 [.ref 90, .int a0, .int a1] [.int (hi 95 j3)] (rx_hp L t hi hl v) Q
    refine rx_aw_s 1 (pc := 22) rfl ?_
    show rx_aw 194 26 [.ref 90, .int a0, .int a1] [.int (hi 95 j3)] (rx_hp L t hi hl v) Q
    exact rx_aw_ret (pc := 26) rfl k
set_option maxRecDepth 100000 in
/-- CartFloorModel.looseShelf(II)I -/
theorem w195_looseShelf_r {L : Nat} {t : List (Nat × Nat)} {hi : Nat → Nat → Int32} {hl : Nat → Nat → Int64} {v : Nat → Nat → Option Nat} {Q : Option Value → rx_H → Prop} {a0 : Int32} {a1 : Int32} (k : rx_aw 195 2 [.ref 90, .int a0, .int a1, .int (0 : Int32)] [] (rx_hp L t hi hl v) Q) : rx_me 195 [.ref 90, .int a0, .int a1] (rx_hp L t hi hl v) Q := by
  show rx_aw 195 0 [.ref 90, .int a0, .int a1, rx_no] [] (rx_hp L t hi hl v) Q
  refine rx_aw_s 2 (pc := 0) rfl ?_
  show rx_aw 195 2 [.ref 90, .int a0, .int a1, .int (0 : Int32)] [] (rx_hp L t hi hl v) Q
  exact k
set_option maxRecDepth 100000 in
theorem w195_looseShelf_r_2 {L : Nat} {t : List (Nat × Nat)} {hi : Nat → Nat → Int32} {hl : Nat → Nat → Int64} {v : Nat → Nat → Option Nat} {Q : Option Value → rx_H → Prop} {x1 : Int32} {x2 : Int32} {x3 : Int32} (k : (((hi 90 21) ≤ x3 → Q (some (.int (-1 : Int32))) (rx_hp L t hi hl v)) ∧ (¬ ((hi 90 21) ≤ x3) → (∃ j2 : Nat, (((402 : Int32) * x3) + x2) = nI j2 ∧ j2 < 4824 ∧ (((hi 108 j2) = x1 → rx_me 178 [.ref 90, .int x3, .int x2] (rx_hp L t hi hl v) (fun r h2 => ∃ z4 : Int32, r = some (.int z4) ∧ rx_ok2 L t h2 (fun hi4 hl4 v4 => ((z4 = 0 → Q (some (.int x3)) (rx_hp L t hi4 hl4 v4)) ∧ (¬ (z4 = 0) → rx_aw 195 2 [.ref 90, .int x1, .int x2, .int (x3 + (1 : Int32))] [] (rx_hp L t hi4 hl4 v4) Q))))) ∧ (¬ ((hi 108 j2) = x1) → rx_aw 195 2 [.ref 90, .int x1, .int x2, .int (x3 + (1 : Int32))] [] (rx_hp L t hi hl v) Q)))))) : rx_aw 195 2 [.ref 90, .int x1, .int x2, .int x3] [] (rx_hp L t hi hl v) Q := by
  refine rx_aw_s 4 (pc := 2) rfl ?_
  refine rx_w_if (c := (hi 90 21) ≤ x3) ⟨fun c1 => ?_, fun c1 => ?_⟩
  · have k := k.1 c1
    show rx_aw 195 43 [.ref 90, .int x1, .int x2, .int x3] [] (rx_hp L t hi hl v) Q
    refine rx_aw_s 1 (pc := 43) rfl ?_
    show rx_aw 195 44 [.ref 90, .int x1, .int x2, .int x3] [.int (-1 : Int32)] (rx_hp L t hi hl v) Q
    exact rx_aw_ret (pc := 44) rfl k
  · have k := k.2 c1
    show rx_aw 195 10 [.ref 90, .int x1, .int x2, .int x3] [] (rx_hp L t hi hl v) Q
    refine rx_aw_s 7 (pc := 10) rfl ?_
    show rx_aw 195 21 [.ref 90, .int x1, .int x2, .int x3] [.int (((402 : Int32) * x3) + x2), .ref 108] (rx_hp L t hi hl v) Q
    obtain ⟨j2, ej2, hj2, k⟩ := k
    refine rx_aw_iald (pc := 21) (n := 4824) j2 ej2 rfl rfl rfl hj2 (by decide) ?_
    show rx_aw 195 22 [.ref 90, .int x1, .int x2, .int x3] [.int (hi 108 j2)] (rx_hp L t hi hl v) Q
    refine rx_aw_s 2 (pc := 22) rfl ?_
    refine rx_w_ifn (c := (hi 108 j2) = x1) ⟨fun c3 => ?_, fun c3 => ?_⟩
    · have k := k.1 c3
      show rx_aw 195 26 [.ref 90, .int x1, .int x2, .int x3] [] (rx_hp L t hi hl v) Q
      refine rx_aw_s 3 (pc := 26) rfl ?_
      show rx_aw 195 29 [.ref 90, .int x1, .int x2, .int x3] [.int x2, .int x3, .ref 90] (rx_hp L t hi hl v) Q
      refine rx_w_callI (j := 178) (pc := 29) rfl rfl rfl rfl rfl ?_
      refine rx_aw.mono k (fun r h2 k => ?_)
      obtain ⟨z4, rfl, hi4, hl4, v4, rfl, k⟩ := k
      refine ⟨z4, rfl, ?_⟩
      show rx_aw 195 32 [.ref 90, .int x1, .int x2, .int x3] [.int z4] (rx_hp L t hi4 hl4 v4) Q
      refine rx_aw_s 1 (pc := 32) rfl ?_
      refine rx_w_ifn (c := z4 = 0) ⟨fun c5 => ?_, fun c5 => ?_⟩
      · have k := k.1 c5
        show rx_aw 195 35 [.ref 90, .int x1, .int x2, .int x3] [] (rx_hp L t hi4 hl4 v4) Q
        refine rx_aw_s 1 (pc := 35) rfl ?_
        show rx_aw 195 36 [.ref 90, .int x1, .int x2, .int x3] [.int x3] (rx_hp L t hi4 hl4 v4) Q
        exact rx_aw_ret (pc := 36) rfl k
      · have k := k.2 c5
        show rx_aw 195 37 [.ref 90, .int x1, .int x2, .int x3] [] (rx_hp L t hi4 hl4 v4) Q
        refine rx_aw_s 2 (pc := 37) rfl ?_
        show rx_aw 195 2 [.ref 90, .int x1, .int x2, .int (x3 + (1 : Int32))] [] (rx_hp L t hi4 hl4 v4) Q
        exact k
    · have k := k.2 c3
      show rx_aw 195 37 [.ref 90, .int x1, .int x2, .int x3] [] (rx_hp L t hi hl v) Q
      refine rx_aw_s 2 (pc := 37) rfl ?_
      show rx_aw 195 2 [.ref 90, .int x1, .int x2, .int (x3 + (1 : Int32))] [] (rx_hp L t hi hl v) Q
      exact k
set_option maxRecDepth 100000 in
/-- CartFloorModel.turned(II)J -/
theorem w196_turned_r {L : Nat} {t : List (Nat × Nat)} {hi : Nat → Nat → Int32} {hl : Nat → Nat → Int64} {v : Nat → Nat → Option Nat} {Q : Option Value → rx_H → Prop} {a0 : Int32} {a1 : Int32} (k : rx_me 194 [.ref 90, .int a0, .int a1] (rx_hp L t hi hl v) (fun r h2 => ∃ z1 : Int32, r = some (.int z1) ∧ rx_ok2 L t h2 (fun hi1 hl1 v1 => (((402 : Int32) ≤ (a1 + (1 : Int32)) → Q (some (.long (0 : Int64))) (rx_hp L t hi1 hl1 v1)) ∧ (¬ ((402 : Int32) ≤ (a1 + (1 : Int32))) → (∃ j3 : Nat, a0 = nI j3 ∧ j3 < 6 ∧ rx_me 186 [.ref 90, .int (hi1 93 j3), .int z1] (rx_hp L t hi1 hl1 v1) (fun r h2 => ∃ z4 : Int32, r = some (.int z4) ∧ rx_ok2 L t h2 (fun hi4 hl4 v4 => ((z4 = 0 → Q (some (.long (0 : Int64))) (rx_hp L t hi4 hl4 v4)) ∧ (¬ (z4 = 0) → (∃ j6 : Nat, (((402 : Int32) * a0) + a1) = nI j6 ∧ j6 < 2412 ∧ (((hi4 104 j6) = 0 → Q (some (.long (0 : Int64))) (rx_hp L t hi4 hl4 v4)) ∧ (¬ ((hi4 104 j6) = 0) → (∃ j8 : Nat, (((402 : Int32) * a0) + a1) = nI j8 ∧ j8 < 2412 ∧ (∃ j9 : Nat, (((402 : Int32) * a0) + a1) = nI j9 ∧ j9 < 2412 ∧ rx_me 185 [.ref 90, .int (hi4 101 j8), .int (hi4 102 j9), .int z1] (rx_hp L t hi4 hl4 v4) (fun r h2 => ∃ z10 : Int64, r = some (.long z10) ∧ rx_ok2 L t h2 (fun hi10 hl10 v10 => Q (some (.long z10)) (rx_hp L t hi10 hl10 v10)))))))))))))))))) : rx_me 196 [.ref 90, .int a0, .int a1] (rx_hp L t hi hl v) Q := by
  show rx_aw 196 0 [.ref 90, .int a0, .int a1, rx_no, rx_no] [] (rx_hp L t hi hl v) Q
  refine rx_aw_s 9 (pc := 0) rfl ?_
  show rx_aw 196 11 [.ref 90, .int a0, .int a1, .int (((402 : Int32) * a0) + a1), rx_no] [.int a1, .int a0, .ref 90] (rx_hp L t hi hl v) Q
  refine rx_w_callI (j := 194) (pc := 11) rfl rfl rfl rfl rfl ?_
  refine rx_aw.mono k (fun r h2 k => ?_)
  obtain ⟨z1, rfl, hi1, hl1, v1, rfl, k⟩ := k
  refine ⟨z1, rfl, ?_⟩
  show rx_aw 196 14 [.ref 90, .int a0, .int a1, .int (((402 : Int32) * a0) + a1), rx_no] [.int z1] (rx_hp L t hi1 hl1 v1) Q
  refine rx_aw_s 6 (pc := 14) rfl ?_
  refine rx_w_if (c := (402 : Int32) ≤ (a1 + (1 : Int32))) ⟨fun c2 => ?_, fun c2 => ?_⟩
  · have k := k.1 c2
    show rx_aw 196 70 [.ref 90, .int a0, .int a1, .int (((402 : Int32) * a0) + a1), .int z1] [] (rx_hp L t hi1 hl1 v1) Q
    refine rx_aw_s 1 (pc := 70) rfl ?_
    show rx_aw 196 71 [.ref 90, .int a0, .int a1, .int (((402 : Int32) * a0) + a1), .int z1] [.long (0 : Int64)] (rx_hp L t hi1 hl1 v1) Q
    exact rx_aw_ret (pc := 71) rfl k
  · have k := k.2 c2
    show rx_aw 196 25 [.ref 90, .int a0, .int a1, .int (((402 : Int32) * a0) + a1), .int z1] [] (rx_hp L t hi1 hl1 v1) Q
    refine rx_aw_s 4 (pc := 25) rfl ?_
    show rx_aw 196 31 [.ref 90, .int a0, .int a1, .int (((402 : Int32) * a0) + a1), .int z1] [.int a0, .ref 93, .ref 90] (rx_hp L t hi1 hl1 v1) Q
    obtain ⟨j3, ej3, hj3, k⟩ := k
    refine rx_aw_iald (pc := 31) (n := 6) j3 ej3 rfl rfl rfl hj3 (by decide) ?_
    show rx_aw 196 32 [.ref 90, .int a0, .int a1, .int (((402 : Int32) * a0) + a1), .int z1] [.int (hi1 93 j3), .ref 90] (rx_hp L t hi1 hl1 v1) Q
    refine rx_aw_s 1 (pc := 32) rfl ?_
    show rx_aw 196 34 [.ref 90, .int a0, .int a1, .int (((402 : Int32) * a0) + a1), .int z1] [.int z1, .int (hi1 93 j3), .ref 90] (rx_hp L t hi1 hl1 v1) Q
    refine rx_w_callI (j := 186) (pc := 34) rfl rfl rfl rfl rfl ?_
    refine rx_aw.mono k (fun r h2 k => ?_)
    obtain ⟨z4, rfl, hi4, hl4, v4, rfl, k⟩ := k
    refine ⟨z4, rfl, ?_⟩
    show rx_aw 196 37 [.ref 90, .int a0, .int a1, .int (((402 : Int32) * a0) + a1), .int z1] [.int z4] (rx_hp L t hi4 hl4 v4) Q
    refine rx_aw_s 1 (pc := 37) rfl ?_
    refine rx_w_if (c := z4 = 0) ⟨fun c5 => ?_, fun c5 => ?_⟩
    · have k := k.1 c5
      show rx_aw 196 70 [.ref 90, .int a0, .int a1, .int (((402 : Int32) * a0) + a1), .int z1] [] (rx_hp L t hi4 hl4 v4) Q
      refine rx_aw_s 1 (pc := 70) rfl ?_
      show rx_aw 196 71 [.ref 90, .int a0, .int a1, .int (((402 : Int32) * a0) + a1), .int z1] [.long (0 : Int64)] (rx_hp L t hi4 hl4 v4) Q
      exact rx_aw_ret (pc := 71) rfl k
    · have k := k.2 c5
      show rx_aw 196 40 [.ref 90, .int a0, .int a1, .int (((402 : Int32) * a0) + a1), .int z1] [] (rx_hp L t hi4 hl4 v4) Q
      refine rx_aw_s 3 (pc := 40) rfl ?_
      show rx_aw 196 45 [.ref 90, .int a0, .int a1, .int (((402 : Int32) * a0) + a1), .int z1] [.int (((402 : Int32) * a0) + a1), .ref 104] (rx_hp L t hi4 hl4 v4) Q
      obtain ⟨j6, ej6, hj6, k⟩ := k
      refine rx_aw_bald (pc := 45) (n := 2412) j6 ej6 rfl (Or.inr rfl) (by decide) rfl hj6 (by decide) ?_
      show rx_aw 196 46 [.ref 90, .int a0, .int a1, .int (((402 : Int32) * a0) + a1), .int z1] [.int (hi4 104 j6)] (rx_hp L t hi4 hl4 v4) Q
      refine rx_aw_s 1 (pc := 46) rfl ?_
      refine rx_w_if (c := (hi4 104 j6) = 0) ⟨fun c7 => ?_, fun c7 => ?_⟩
      · have k := k.1 c7
        show rx_aw 196 70 [.ref 90, .int a0, .int a1, .int (((402 : Int32) * a0) + a1), .int z1] [] (rx_hp L t hi4 hl4 v4) Q
        refine rx_aw_s 1 (pc := 70) rfl ?_
        show rx_aw 196 71 [.ref 90, .int a0, .int a1, .int (((402 : Int32) * a0) + a1), .int z1] [.long (0 : Int64)] (rx_hp L t hi4 hl4 v4) Q
        exact rx_aw_ret (pc := 71) rfl k
      · have k := k.2 c7
        show rx_aw 196 49 [.ref 90, .int a0, .int a1, .int (((402 : Int32) * a0) + a1), .int z1] [] (rx_hp L t hi4 hl4 v4) Q
        refine rx_aw_s 4 (pc := 49) rfl ?_
        show rx_aw 196 55 [.ref 90, .int a0, .int a1, .int (((402 : Int32) * a0) + a1), .int z1] [.int (((402 : Int32) * a0) + a1), .ref 101, .ref 90] (rx_hp L t hi4 hl4 v4) Q
        obtain ⟨j8, ej8, hj8, k⟩ := k
        refine rx_aw_iald (pc := 55) (n := 2412) j8 ej8 rfl rfl rfl hj8 (by decide) ?_
        show rx_aw 196 56 [.ref 90, .int a0, .int a1, .int (((402 : Int32) * a0) + a1), .int z1] [.int (hi4 101 j8), .ref 90] (rx_hp L t hi4 hl4 v4) Q
        refine rx_aw_s 3 (pc := 56) rfl ?_
        show rx_aw 196 61 [.ref 90, .int a0, .int a1, .int (((402 : Int32) * a0) + a1), .int z1] [.int (((402 : Int32) * a0) + a1), .ref 102, .int (hi4 101 j8), .ref 90] (rx_hp L t hi4 hl4 v4) Q
        obtain ⟨j9, ej9, hj9, k⟩ := k
        refine rx_aw_iald (pc := 61) (n := 2412) j9 ej9 rfl rfl rfl hj9 (by decide) ?_
        show rx_aw 196 62 [.ref 90, .int a0, .int a1, .int (((402 : Int32) * a0) + a1), .int z1] [.int (hi4 102 j9), .int (hi4 101 j8), .ref 90] (rx_hp L t hi4 hl4 v4) Q
        refine rx_aw_s 1 (pc := 62) rfl ?_
        show rx_aw 196 64 [.ref 90, .int a0, .int a1, .int (((402 : Int32) * a0) + a1), .int z1] [.int z1, .int (hi4 102 j9), .int (hi4 101 j8), .ref 90] (rx_hp L t hi4 hl4 v4) Q
        refine rx_w_callL (j := 185) (pc := 64) rfl rfl rfl rfl rfl ?_
        refine rx_aw.mono k (fun r h2 k => ?_)
        obtain ⟨z10, rfl, hi10, hl10, v10, rfl, k⟩ := k
        refine ⟨z10, rfl, ?_⟩
        show rx_aw 196 67 [.ref 90, .int a0, .int a1, .int (((402 : Int32) * a0) + a1), .int z1] [.long z10] (rx_hp L t hi10 hl10 v10) Q
        refine rx_aw_s 1 (pc := 67) rfl ?_
        show rx_aw 196 71 [.ref 90, .int a0, .int a1, .int (((402 : Int32) * a0) + a1), .int z1] [.long z10] (rx_hp L t hi10 hl10 v10) Q
        exact rx_aw_ret (pc := 71) rfl k
set_option maxRecDepth 100000 in
/-- CartFloorModel.does(II)Z -/
theorem w197_does_r {L : Nat} {t : List (Nat × Nat)} {hi : Nat → Nat → Int32} {hl : Nat → Nat → Int64} {v : Nat → Nat → Option Nat} {Q : Option Value → rx_H → Prop} {a0 : Int32} {a1 : Int32} (k : (∃ j1 : Nat, a0 = nI j1 ∧ j1 < 6 ∧ (((hi 94 j1) = (400 : Int32) → Q (some (.int (0 : Int32))) (rx_hp L t hi hl v)) ∧ (¬ ((hi 94 j1) = (400 : Int32)) → (∃ j3 : Nat, a0 = nI j3 ∧ j3 < 6 ∧ (∃ j4 : Nat, (((400 : Int32) * a0) + (hi 94 j3)) = nI j4 ∧ j4 < 2400 ∧ (∃ j5 : Nat, a0 = nI j5 ∧ j5 < 6 ∧ (∃ j6 : Nat, a0 = nI j6 ∧ j6 < 6 ∧ rx_me 191 [.ref 90] (rx_hp L t (rx_u (rx_u hi 95 j4 a1) 94 j6 (((rx_u hi 95 j4 a1) 94 j5) + (1 : Int32))) hl v) (fun r h2 => r = none ∧ rx_ok2 L t h2 (fun hi7 hl7 v7 => (∃ j8 : Nat, (((402 : Int32) * a0) + (hi 94 j3)) = nI j8 ∧ j8 < 2412 ∧ (((hi7 104 j8) = 0 → Q (some (.int (0 : Int32))) (rx_hp L t hi7 hl7 v7)) ∧ (¬ ((hi7 104 j8) = 0) → rx_me 173 [.ref 90, .int a0, .int ((hi 94 j3) + (1 : Int32))] (rx_hp L t hi7 hl7 v7) (fun r h2 => ∃ z10 : Int32, r = some (.int z10) ∧ rx_ok2 L t h2 (fun hi10 hl10 v10 => ((z10 = 0 → Q (some (.int (0 : Int32))) (rx_hp L t hi10 hl10 v10)) ∧ (¬ (z10 = 0) → rx_me 174 [.ref 90, .int a0, .int ((hi 94 j3) + (1 : Int32))] (rx_hp L t hi10 hl10 v10) (fun r h2 => ∃ z12 : Int32, r = some (.int z12) ∧ rx_ok2 L t h2 (fun hi12 hl12 v12 => ((z12 = 0 → Q (some (.int (1 : Int32))) (rx_hp L t hi12 hl12 v12)) ∧ (¬ (z12 = 0) → Q (some (.int (0 : Int32))) (rx_hp L t hi12 hl12 v12)))))))))))))))))))))) : rx_me 197 [.ref 90, .int a0, .int a1] (rx_hp L t hi hl v) Q := by
  show rx_aw 197 0 [.ref 90, .int a0, .int a1, rx_no] [] (rx_hp L t hi hl v) Q
  refine rx_aw_s 3 (pc := 0) rfl ?_
  show rx_aw 197 5 [.ref 90, .int a0, .int a1, rx_no] [.int a0, .ref 94] (rx_hp L t hi hl v) Q
  obtain ⟨j1, ej1, hj1, k⟩ := k
  refine rx_aw_iald (pc := 5) (n := 6) j1 ej1 rfl rfl rfl hj1 (by decide) ?_
  show rx_aw 197 6 [.ref 90, .int a0, .int a1, rx_no] [.int (hi 94 j1)] (rx_hp L t hi hl v) Q
  refine rx_aw_s 2 (pc := 6) rfl ?_
  refine rx_w_ifn (c := (hi 94 j1) = (400 : Int32)) ⟨fun c2 => ?_, fun c2 => ?_⟩
  · have k := k.1 c2
    show rx_aw 197 12 [.ref 90, .int a0, .int a1, rx_no] [] (rx_hp L t hi hl v) Q
    refine rx_aw_s 1 (pc := 12) rfl ?_
    show rx_aw 197 13 [.ref 90, .int a0, .int a1, rx_no] [.int (0 : Int32)] (rx_hp L t hi hl v) Q
    exact rx_aw_ret (pc := 13) rfl k
  · have k := k.2 c2
    show rx_aw 197 14 [.ref 90, .int a0, .int a1, rx_no] [] (rx_hp L t hi hl v) Q
    refine rx_aw_s 3 (pc := 14) rfl ?_
    show rx_aw 197 19 [.ref 90, .int a0, .int a1, rx_no] [.int a0, .ref 94] (rx_hp L t hi hl v) Q
    obtain ⟨j3, ej3, hj3, k⟩ := k
    refine rx_aw_iald (pc := 19) (n := 6) j3 ej3 rfl rfl rfl hj3 (by decide) ?_
    show rx_aw 197 20 [.ref 90, .int a0, .int a1, rx_no] [.int (hi 94 j3)] (rx_hp L t hi hl v) Q
    refine rx_aw_s 9 (pc := 20) rfl ?_
    show rx_aw 197 33 [.ref 90, .int a0, .int a1, .int (hi 94 j3)] [.int a1, .int (((400 : Int32) * a0) + (hi 94 j3)), .ref 95] (rx_hp L t hi hl v) Q
    obtain ⟨j4, ej4, hj4, k⟩ := k
    refine rx_aw_iast (pc := 33) (n := 2400) j4 ej4 rfl rfl (by decide) rfl hj4 (by decide) ?_
    show rx_aw 197 34 [.ref 90, .int a0, .int a1, .int (hi 94 j3)] [] (rx_hp L t (rx_u hi 95 j4 a1) hl v) Q
    refine rx_aw_s 4 (pc := 34) rfl ?_
    show rx_aw 197 40 [.ref 90, .int a0, .int a1, .int (hi 94 j3)] [.int a0, .ref 94, .int a0, .ref 94] (rx_hp L t (rx_u hi 95 j4 a1) hl v) Q
    obtain ⟨j5, ej5, hj5, k⟩ := k
    refine rx_aw_iald (pc := 40) (n := 6) j5 ej5 rfl rfl rfl hj5 (by decide) ?_
    show rx_aw 197 41 [.ref 90, .int a0, .int a1, .int (hi 94 j3)] [.int ((rx_u hi 95 j4 a1) 94 j5), .int a0, .ref 94] (rx_hp L t (rx_u hi 95 j4 a1) hl v) Q
    refine rx_aw_s 2 (pc := 41) rfl ?_
    show rx_aw 197 43 [.ref 90, .int a0, .int a1, .int (hi 94 j3)] [.int (((rx_u hi 95 j4 a1) 94 j5) + (1 : Int32)), .int a0, .ref 94] (rx_hp L t (rx_u hi 95 j4 a1) hl v) Q
    obtain ⟨j6, ej6, hj6, k⟩ := k
    refine rx_aw_iast (pc := 43) (n := 6) j6 ej6 rfl rfl (by decide) rfl hj6 (by decide) ?_
    show rx_aw 197 44 [.ref 90, .int a0, .int a1, .int (hi 94 j3)] [] (rx_hp L t (rx_u (rx_u hi 95 j4 a1) 94 j6 (((rx_u hi 95 j4 a1) 94 j5) + (1 : Int32))) hl v) Q
    refine rx_aw_s 1 (pc := 44) rfl ?_
    show rx_aw 197 45 [.ref 90, .int a0, .int a1, .int (hi 94 j3)] [.ref 90] (rx_hp L t (rx_u (rx_u hi 95 j4 a1) 94 j6 (((rx_u hi 95 j4 a1) 94 j5) + (1 : Int32))) hl v) Q
    refine rx_w_callV (j := 191) (pc := 45) rfl rfl rfl rfl rfl ?_
    refine rx_aw.mono k (fun r h2 k => ?_)
    obtain ⟨rfl, hi7, hl7, v7, rfl, k⟩ := k
    refine ⟨rfl, ?_⟩
    show rx_aw 197 48 [.ref 90, .int a0, .int a1, .int (hi 94 j3)] [] (rx_hp L t hi7 hl7 v7) Q
    refine rx_aw_s 7 (pc := 48) rfl ?_
    show rx_aw 197 59 [.ref 90, .int a0, .int a1, .int (hi 94 j3)] [.int (((402 : Int32) * a0) + (hi 94 j3)), .ref 104] (rx_hp L t hi7 hl7 v7) Q
    obtain ⟨j8, ej8, hj8, k⟩ := k
    refine rx_aw_bald (pc := 59) (n := 2412) j8 ej8 rfl (Or.inr rfl) (by decide) rfl hj8 (by decide) ?_
    show rx_aw 197 60 [.ref 90, .int a0, .int a1, .int (hi 94 j3)] [.int (hi7 104 j8)] (rx_hp L t hi7 hl7 v7) Q
    refine rx_aw_s 1 (pc := 60) rfl ?_
    refine rx_w_if (c := (hi7 104 j8) = 0) ⟨fun c9 => ?_, fun c9 => ?_⟩
    · have k := k.1 c9
      show rx_aw 197 89 [.ref 90, .int a0, .int a1, .int (hi 94 j3)] [] (rx_hp L t hi7 hl7 v7) Q
      refine rx_aw_s 1 (pc := 89) rfl ?_
      show rx_aw 197 90 [.ref 90, .int a0, .int a1, .int (hi 94 j3)] [.int (0 : Int32)] (rx_hp L t hi7 hl7 v7) Q
      exact rx_aw_ret (pc := 90) rfl k
    · have k := k.2 c9
      show rx_aw 197 63 [.ref 90, .int a0, .int a1, .int (hi 94 j3)] [] (rx_hp L t hi7 hl7 v7) Q
      refine rx_aw_s 5 (pc := 63) rfl ?_
      show rx_aw 197 68 [.ref 90, .int a0, .int a1, .int (hi 94 j3)] [.int ((hi 94 j3) + (1 : Int32)), .int a0, .ref 90] (rx_hp L t hi7 hl7 v7) Q
      refine rx_w_callI (j := 173) (pc := 68) rfl rfl rfl rfl rfl ?_
      refine rx_aw.mono k (fun r h2 k => ?_)
      obtain ⟨z10, rfl, hi10, hl10, v10, rfl, k⟩ := k
      refine ⟨z10, rfl, ?_⟩
      show rx_aw 197 71 [.ref 90, .int a0, .int a1, .int (hi 94 j3)] [.int z10] (rx_hp L t hi10 hl10 v10) Q
      refine rx_aw_s 1 (pc := 71) rfl ?_
      refine rx_w_if (c := z10 = 0) ⟨fun c11 => ?_, fun c11 => ?_⟩
      · have k := k.1 c11
        show rx_aw 197 89 [.ref 90, .int a0, .int a1, .int (hi 94 j3)] [] (rx_hp L t hi10 hl10 v10) Q
        refine rx_aw_s 1 (pc := 89) rfl ?_
        show rx_aw 197 90 [.ref 90, .int a0, .int a1, .int (hi 94 j3)] [.int (0 : Int32)] (rx_hp L t hi10 hl10 v10) Q
        exact rx_aw_ret (pc := 90) rfl k
      · have k := k.2 c11
        show rx_aw 197 74 [.ref 90, .int a0, .int a1, .int (hi 94 j3)] [] (rx_hp L t hi10 hl10 v10) Q
        refine rx_aw_s 5 (pc := 74) rfl ?_
        show rx_aw 197 79 [.ref 90, .int a0, .int a1, .int (hi 94 j3)] [.int ((hi 94 j3) + (1 : Int32)), .int a0, .ref 90] (rx_hp L t hi10 hl10 v10) Q
        refine rx_w_callI (j := 174) (pc := 79) rfl rfl rfl rfl rfl ?_
        refine rx_aw.mono k (fun r h2 k => ?_)
        obtain ⟨z12, rfl, hi12, hl12, v12, rfl, k⟩ := k
        refine ⟨z12, rfl, ?_⟩
        show rx_aw 197 82 [.ref 90, .int a0, .int a1, .int (hi 94 j3)] [.int z12] (rx_hp L t hi12 hl12 v12) Q
        refine rx_aw_s 1 (pc := 82) rfl ?_
        refine rx_w_ifn (c := z12 = 0) ⟨fun c13 => ?_, fun c13 => ?_⟩
        · have k := k.1 c13
          show rx_aw 197 85 [.ref 90, .int a0, .int a1, .int (hi 94 j3)] [] (rx_hp L t hi12 hl12 v12) Q
          refine rx_aw_s 2 (pc := 85) rfl ?_
          show rx_aw 197 90 [.ref 90, .int a0, .int a1, .int (hi 94 j3)] [.int (1 : Int32)] (rx_hp L t hi12 hl12 v12) Q
          exact rx_aw_ret (pc := 90) rfl k
        · have k := k.2 c13
          show rx_aw 197 89 [.ref 90, .int a0, .int a1, .int (hi 94 j3)] [] (rx_hp L t hi12 hl12 v12) Q
          refine rx_aw_s 1 (pc := 89) rfl ?_
          show rx_aw 197 90 [.ref 90, .int a0, .int a1, .int (hi 94 j3)] [.int (0 : Int32)] (rx_hp L t hi12 hl12 v12) Q
          exact rx_aw_ret (pc := 90) rfl k
set_option maxRecDepth 100000 in
/-- CartFloorModel.many()I -/
theorem w198_many_r {L : Nat} {t : List (Nat × Nat)} {hi : Nat → Nat → Int32} {hl : Nat → Nat → Int64} {v : Nat → Nat → Option Nat} {Q : Option Value → rx_H → Prop}  (k : rx_aw 198 4 [.ref 90, .int (0 : Int32), .int (0 : Int32)] [] (rx_hp L t hi hl v) Q) : rx_me 198 [.ref 90] (rx_hp L t hi hl v) Q := by
  show rx_aw 198 0 [.ref 90, rx_no, rx_no] [] (rx_hp L t hi hl v) Q
  refine rx_aw_s 4 (pc := 0) rfl ?_
  show rx_aw 198 4 [.ref 90, .int (0 : Int32), .int (0 : Int32)] [] (rx_hp L t hi hl v) Q
  exact k
set_option maxRecDepth 100000 in
theorem w198_many_r_4 {L : Nat} {t : List (Nat × Nat)} {hi : Nat → Nat → Int32} {hl : Nat → Nat → Int64} {v : Nat → Nat → Option Nat} {Q : Option Value → rx_H → Prop} {x1 : Int32} {x2 : Int32} (k : (((hi 90 6) ≤ x2 → Q (some (.int x1)) (rx_hp L t hi hl v)) ∧ (¬ ((hi 90 6) ≤ x2) → rx_me 162 [.ref 90, .int x2] (rx_hp L t hi hl v) (fun r h2 => ∃ z2 : Int32, r = some (.int z2) ∧ rx_ok2 L t h2 (fun hi2 hl2 v2 => ((z2 = 0 → rx_aw 198 4 [.ref 90, .int (x1 + (0 : Int32)), .int (x2 + (1 : Int32))] [] (rx_hp L t hi2 hl2 v2) Q) ∧ (¬ (z2 = 0) → rx_me 163 [.ref 90, .int x2] (rx_hp L t hi2 hl2 v2) (fun r h2 => ∃ z4 : Int32, r = some (.int z4) ∧ rx_ok2 L t h2 (fun hi4 hl4 v4 => ((z4 = 0 → rx_aw 198 4 [.ref 90, .int (x1 + (0 : Int32)), .int (x2 + (1 : Int32))] [] (rx_hp L t hi4 hl4 v4) Q) ∧ (¬ (z4 = 0) → rx_aw 198 4 [.ref 90, .int (x1 + (1 : Int32)), .int (x2 + (1 : Int32))] [] (rx_hp L t hi4 hl4 v4) Q))))))))))) : rx_aw 198 4 [.ref 90, .int x1, .int x2] [] (rx_hp L t hi hl v) Q := by
  refine rx_aw_s 4 (pc := 4) rfl ?_
  refine rx_w_if (c := (hi 90 6) ≤ x2) ⟨fun c1 => ?_, fun c1 => ?_⟩
  · have k := k.1 c1
    show rx_aw 198 42 [.ref 90, .int x1, .int x2] [] (rx_hp L t hi hl v) Q
    refine rx_aw_s 1 (pc := 42) rfl ?_
    show rx_aw 198 43 [.ref 90, .int x1, .int x2] [.int x1] (rx_hp L t hi hl v) Q
    exact rx_aw_ret (pc := 43) rfl k
  · have k := k.2 c1
    show rx_aw 198 12 [.ref 90, .int x1, .int x2] [] (rx_hp L t hi hl v) Q
    refine rx_aw_s 3 (pc := 12) rfl ?_
    show rx_aw 198 15 [.ref 90, .int x1, .int x2] [.int x2, .ref 90, .int x1] (rx_hp L t hi hl v) Q
    refine rx_w_callI (j := 162) (pc := 15) rfl rfl rfl rfl rfl ?_
    refine rx_aw.mono k (fun r h2 k => ?_)
    obtain ⟨z2, rfl, hi2, hl2, v2, rfl, k⟩ := k
    refine ⟨z2, rfl, ?_⟩
    show rx_aw 198 18 [.ref 90, .int x1, .int x2] [.int z2, .int x1] (rx_hp L t hi2 hl2 v2) Q
    refine rx_aw_s 1 (pc := 18) rfl ?_
    refine rx_w_if (c := z2 = 0) ⟨fun c3 => ?_, fun c3 => ?_⟩
    · have k := k.1 c3
      show rx_aw 198 33 [.ref 90, .int x1, .int x2] [.int x1] (rx_hp L t hi2 hl2 v2) Q
      refine rx_aw_s 5 (pc := 33) rfl ?_
      show rx_aw 198 4 [.ref 90, .int (x1 + (0 : Int32)), .int (x2 + (1 : Int32))] [] (rx_hp L t hi2 hl2 v2) Q
      exact k
    · have k := k.2 c3
      show rx_aw 198 21 [.ref 90, .int x1, .int x2] [.int x1] (rx_hp L t hi2 hl2 v2) Q
      refine rx_aw_s 2 (pc := 21) rfl ?_
      show rx_aw 198 23 [.ref 90, .int x1, .int x2] [.int x2, .ref 90, .int x1] (rx_hp L t hi2 hl2 v2) Q
      refine rx_w_callI (j := 163) (pc := 23) rfl rfl rfl rfl rfl ?_
      refine rx_aw.mono k (fun r h2 k => ?_)
      obtain ⟨z4, rfl, hi4, hl4, v4, rfl, k⟩ := k
      refine ⟨z4, rfl, ?_⟩
      show rx_aw 198 26 [.ref 90, .int x1, .int x2] [.int z4, .int x1] (rx_hp L t hi4 hl4 v4) Q
      refine rx_aw_s 1 (pc := 26) rfl ?_
      refine rx_w_if (c := z4 = 0) ⟨fun c5 => ?_, fun c5 => ?_⟩
      · have k := k.1 c5
        show rx_aw 198 33 [.ref 90, .int x1, .int x2] [.int x1] (rx_hp L t hi4 hl4 v4) Q
        refine rx_aw_s 5 (pc := 33) rfl ?_
        show rx_aw 198 4 [.ref 90, .int (x1 + (0 : Int32)), .int (x2 + (1 : Int32))] [] (rx_hp L t hi4 hl4 v4) Q
        exact k
      · have k := k.2 c5
        show rx_aw 198 29 [.ref 90, .int x1, .int x2] [.int x1] (rx_hp L t hi4 hl4 v4) Q
        refine rx_aw_s 6 (pc := 29) rfl ?_
        show rx_aw 198 4 [.ref 90, .int (x1 + (1 : Int32)), .int (x2 + (1 : Int32))] [] (rx_hp L t hi4 hl4 v4) Q
        exact k
set_option maxRecDepth 100000 in
/-- CartFloorModel.stop(II)I -/
theorem w199_stop_r {L : Nat} {t : List (Nat × Nat)} {hi : Nat → Nat → Int32} {hl : Nat → Nat → Int64} {v : Nat → Nat → Option Nat} {Q : Option Value → rx_H → Prop} {a0 : Int32} {a1 : Int32} (k : rx_me 161 [.ref 90, .int a0] (rx_hp L t hi hl v) (fun r h2 => ∃ z1 : Int32, r = some (.int z1) ∧ rx_ok2 L t h2 (fun hi1 hl1 v1 => ((z1 = 0 → Q (some (.int (-2 : Int32))) (rx_hp L t hi1 hl1 v1)) ∧ (¬ (z1 = 0) → (∃ j3 : Nat, a0 = nI j3 ∧ j3 < 6 ∧ (((hi1 93 j3) = (3 : Int32) → Q (some (.int (-2 : Int32))) (rx_hp L t hi1 hl1 v1)) ∧ (¬ ((hi1 93 j3) = (3 : Int32)) → (∃ j5 : Nat, a0 = nI j5 ∧ j5 < 6 ∧ (((hi1 100 j5) = 0 → ((a1 < (hi1 90 48) → Q (some (.int (-2 : Int32))) (rx_hp L t hi1 hl1 v1)) ∧ (¬ (a1 < (hi1 90 48)) → ((a1 ≤ (400 : Int32) → rx_me 200 [.ref 90, .int (0 : Int32)] (rx_hp L t hi1 hl1 v1) (fun r h2 => r = none ∧ rx_ok2 L t h2 (fun hi9 hl9 v9 => (∃ j10 : Nat, a0 = nI j10 ∧ j10 < 6 ∧ (∃ j11 : Nat, a0 = nI j11 ∧ j11 < 6 ∧ ((((rx_u hi9 100 j10 (1 : Int32)) 94 j11) ≤ a1 → (∃ j13 : Nat, a0 = nI j13 ∧ j13 < 6 ∧ (∃ j14 : Nat, a0 = nI j14 ∧ j14 < 6 ∧ rx_me 191 [.ref 90] (rx_hp L t (rx_u (rx_u hi9 100 j10 (1 : Int32)) 94 j14 ((rx_u hi9 100 j10 (1 : Int32)) 94 j13)) hl9 v9) (fun r h2 => r = none ∧ rx_ok2 L t h2 (fun hi15 hl15 v15 => rx_me 201 [.ref 90, .int a1, .int (0 : Int32)] (rx_hp L t hi15 hl15 v15) (fun r h2 => ∃ z16 : Int32, r = some (.int z16) ∧ rx_ok2 L t h2 (fun hi16 hl16 v16 => rx_aw 199 97 [.ref 90, .int a0, .int a1, .int (0 : Int32), .int z16] [] (rx_hp L t hi16 hl16 v16) Q))))))) ∧ (¬ (((rx_u hi9 100 j10 (1 : Int32)) 94 j11) ≤ a1) → (∃ j17 : Nat, a0 = nI j17 ∧ j17 < 6 ∧ rx_me 191 [.ref 90] (rx_hp L t (rx_u (rx_u hi9 100 j10 (1 : Int32)) 94 j17 a1) hl9 v9) (fun r h2 => r = none ∧ rx_ok2 L t h2 (fun hi18 hl18 v18 => rx_me 201 [.ref 90, .int a1, .int (0 : Int32)] (rx_hp L t hi18 hl18 v18) (fun r h2 => ∃ z19 : Int32, r = some (.int z19) ∧ rx_ok2 L t h2 (fun hi19 hl19 v19 => rx_aw 199 97 [.ref 90, .int a0, .int a1, .int (0 : Int32), .int z19] [] (rx_hp L t hi19 hl19 v19) Q)))))))))))) ∧ (¬ (a1 ≤ (400 : Int32)) → Q (some (.int (-2 : Int32))) (rx_hp L t hi1 hl1 v1)))))) ∧ (¬ ((hi1 100 j5) = 0) → Q (some (.int (-2 : Int32))) (rx_hp L t hi1 hl1 v1)))))))))))) : rx_me 199 [.ref 90, .int a0, .int a1] (rx_hp L t hi hl v) Q := by
  show rx_aw 199 0 [.ref 90, .int a0, .int a1, rx_no, rx_no] [] (rx_hp L t hi hl v) Q
  refine rx_aw_s 2 (pc := 0) rfl ?_
  show rx_aw 199 2 [.ref 90, .int a0, .int a1, rx_no, rx_no] [.int a0, .ref 90] (rx_hp L t hi hl v) Q
  refine rx_w_callI (j := 161) (pc := 2) rfl rfl rfl rfl rfl ?_
  refine rx_aw.mono k (fun r h2 k => ?_)
  obtain ⟨z1, rfl, hi1, hl1, v1, rfl, k⟩ := k
  refine ⟨z1, rfl, ?_⟩
  show rx_aw 199 5 [.ref 90, .int a0, .int a1, rx_no, rx_no] [.int z1] (rx_hp L t hi1 hl1 v1) Q
  refine rx_aw_s 1 (pc := 5) rfl ?_
  refine rx_w_if (c := z1 = 0) ⟨fun c2 => ?_, fun c2 => ?_⟩
  · have k := k.1 c2
    show rx_aw 199 42 [.ref 90, .int a0, .int a1, rx_no, rx_no] [] (rx_hp L t hi1 hl1 v1) Q
    refine rx_aw_s 1 (pc := 42) rfl ?_
    show rx_aw 199 44 [.ref 90, .int a0, .int a1, rx_no, rx_no] [.int (-2 : Int32)] (rx_hp L t hi1 hl1 v1) Q
    exact rx_aw_ret (pc := 44) rfl k
  · have k := k.2 c2
    show rx_aw 199 8 [.ref 90, .int a0, .int a1, rx_no, rx_no] [] (rx_hp L t hi1 hl1 v1) Q
    refine rx_aw_s 3 (pc := 8) rfl ?_
    show rx_aw 199 13 [.ref 90, .int a0, .int a1, rx_no, rx_no] [.int a0, .ref 93] (rx_hp L t hi1 hl1 v1) Q
    obtain ⟨j3, ej3, hj3, k⟩ := k
    refine rx_aw_iald (pc := 13) (n := 6) j3 ej3 rfl rfl rfl hj3 (by decide) ?_
    show rx_aw 199 14 [.ref 90, .int a0, .int a1, rx_no, rx_no] [.int (hi1 93 j3)] (rx_hp L t hi1 hl1 v1) Q
    refine rx_aw_s 2 (pc := 14) rfl ?_
    refine rx_w_if (c := (hi1 93 j3) = (3 : Int32)) ⟨fun c4 => ?_, fun c4 => ?_⟩
    · have k := k.1 c4
      show rx_aw 199 42 [.ref 90, .int a0, .int a1, rx_no, rx_no] [] (rx_hp L t hi1 hl1 v1) Q
      refine rx_aw_s 1 (pc := 42) rfl ?_
      show rx_aw 199 44 [.ref 90, .int a0, .int a1, rx_no, rx_no] [.int (-2 : Int32)] (rx_hp L t hi1 hl1 v1) Q
      exact rx_aw_ret (pc := 44) rfl k
    · have k := k.2 c4
      show rx_aw 199 18 [.ref 90, .int a0, .int a1, rx_no, rx_no] [] (rx_hp L t hi1 hl1 v1) Q
      refine rx_aw_s 3 (pc := 18) rfl ?_
      show rx_aw 199 23 [.ref 90, .int a0, .int a1, rx_no, rx_no] [.int a0, .ref 100] (rx_hp L t hi1 hl1 v1) Q
      obtain ⟨j5, ej5, hj5, k⟩ := k
      refine rx_aw_iald (pc := 23) (n := 6) j5 ej5 rfl rfl rfl hj5 (by decide) ?_
      show rx_aw 199 24 [.ref 90, .int a0, .int a1, rx_no, rx_no] [.int (hi1 100 j5)] (rx_hp L t hi1 hl1 v1) Q
      refine rx_aw_s 1 (pc := 24) rfl ?_
      refine rx_w_ifn (c := (hi1 100 j5) = 0) ⟨fun c6 => ?_, fun c6 => ?_⟩
      · have k := k.1 c6
        show rx_aw 199 27 [.ref 90, .int a0, .int a1, rx_no, rx_no] [] (rx_hp L t hi1 hl1 v1) Q
        refine rx_aw_s 4 (pc := 27) rfl ?_
        refine rx_w_if (c := a1 < (hi1 90 48)) ⟨fun c7 => ?_, fun c7 => ?_⟩
        · have k := k.1 c7
          show rx_aw 199 42 [.ref 90, .int a0, .int a1, rx_no, rx_no] [] (rx_hp L t hi1 hl1 v1) Q
          refine rx_aw_s 1 (pc := 42) rfl ?_
          show rx_aw 199 44 [.ref 90, .int a0, .int a1, rx_no, rx_no] [.int (-2 : Int32)] (rx_hp L t hi1 hl1 v1) Q
          exact rx_aw_ret (pc := 44) rfl k
        · have k := k.2 c7
          show rx_aw 199 35 [.ref 90, .int a0, .int a1, rx_no, rx_no] [] (rx_hp L t hi1 hl1 v1) Q
          refine rx_aw_s 3 (pc := 35) rfl ?_
          refine rx_w_if (c := a1 ≤ (400 : Int32)) ⟨fun c8 => ?_, fun c8 => ?_⟩
          · have k := k.1 c8
            show rx_aw 199 45 [.ref 90, .int a0, .int a1, rx_no, rx_no] [] (rx_hp L t hi1 hl1 v1) Q
            refine rx_aw_s 2 (pc := 45) rfl ?_
            show rx_aw 199 47 [.ref 90, .int a0, .int a1, rx_no, rx_no] [.int (0 : Int32), .ref 90] (rx_hp L t hi1 hl1 v1) Q
            refine rx_w_callV (j := 200) (pc := 47) rfl rfl rfl rfl rfl ?_
            refine rx_aw.mono k (fun r h2 k => ?_)
            obtain ⟨rfl, hi9, hl9, v9, rfl, k⟩ := k
            refine ⟨rfl, ?_⟩
            show rx_aw 199 50 [.ref 90, .int a0, .int a1, rx_no, rx_no] [] (rx_hp L t hi9 hl9 v9) Q
            refine rx_aw_s 4 (pc := 50) rfl ?_
            show rx_aw 199 56 [.ref 90, .int a0, .int a1, rx_no, rx_no] [.int (1 : Int32), .int a0, .ref 100] (rx_hp L t hi9 hl9 v9) Q
            obtain ⟨j10, ej10, hj10, k⟩ := k
            refine rx_aw_iast (pc := 56) (n := 6) j10 ej10 rfl rfl (by decide) rfl hj10 (by decide) ?_
            show rx_aw 199 57 [.ref 90, .int a0, .int a1, rx_no, rx_no] [] (rx_hp L t (rx_u hi9 100 j10 (1 : Int32)) hl9 v9) Q
            refine rx_aw_s 6 (pc := 57) rfl ?_
            show rx_aw 199 67 [.ref 90, .int a0, .int a1, rx_no, rx_no] [.int a0, .ref 94, .int a0, .ref 94] (rx_hp L t (rx_u hi9 100 j10 (1 : Int32)) hl9 v9) Q
            obtain ⟨j11, ej11, hj11, k⟩ := k
            refine rx_aw_iald (pc := 67) (n := 6) j11 ej11 rfl rfl rfl hj11 (by decide) ?_
            show rx_aw 199 68 [.ref 90, .int a0, .int a1, rx_no, rx_no] [.int ((rx_u hi9 100 j10 (1 : Int32)) 94 j11), .int a0, .ref 94] (rx_hp L t (rx_u hi9 100 j10 (1 : Int32)) hl9 v9) Q
            refine rx_aw_s 2 (pc := 68) rfl ?_
            refine rx_w_if (c := ((rx_u hi9 100 j10 (1 : Int32)) 94 j11) ≤ a1) ⟨fun c12 => ?_, fun c12 => ?_⟩
            · have k := k.1 c12
              show rx_aw 199 76 [.ref 90, .int a0, .int a1, rx_no, rx_no] [.int a0, .ref 94] (rx_hp L t (rx_u hi9 100 j10 (1 : Int32)) hl9 v9) Q
              refine rx_aw_s 3 (pc := 76) rfl ?_
              show rx_aw 199 81 [.ref 90, .int a0, .int a1, rx_no, rx_no] [.int a0, .ref 94, .int a0, .ref 94] (rx_hp L t (rx_u hi9 100 j10 (1 : Int32)) hl9 v9) Q
              obtain ⟨j13, ej13, hj13, k⟩ := k
              refine rx_aw_iald (pc := 81) (n := 6) j13 ej13 rfl rfl rfl hj13 (by decide) ?_
              show rx_aw 199 82 [.ref 90, .int a0, .int a1, rx_no, rx_no] [.int ((rx_u hi9 100 j10 (1 : Int32)) 94 j13), .int a0, .ref 94] (rx_hp L t (rx_u hi9 100 j10 (1 : Int32)) hl9 v9) Q
              obtain ⟨j14, ej14, hj14, k⟩ := k
              refine rx_aw_iast (pc := 82) (n := 6) j14 ej14 rfl rfl (by decide) rfl hj14 (by decide) ?_
              show rx_aw 199 83 [.ref 90, .int a0, .int a1, rx_no, rx_no] [] (rx_hp L t (rx_u (rx_u hi9 100 j10 (1 : Int32)) 94 j14 ((rx_u hi9 100 j10 (1 : Int32)) 94 j13)) hl9 v9) Q
              refine rx_aw_s 1 (pc := 83) rfl ?_
              show rx_aw 199 84 [.ref 90, .int a0, .int a1, rx_no, rx_no] [.ref 90] (rx_hp L t (rx_u (rx_u hi9 100 j10 (1 : Int32)) 94 j14 ((rx_u hi9 100 j10 (1 : Int32)) 94 j13)) hl9 v9) Q
              refine rx_w_callV (j := 191) (pc := 84) rfl rfl rfl rfl rfl ?_
              refine rx_aw.mono k (fun r h2 k => ?_)
              obtain ⟨rfl, hi15, hl15, v15, rfl, k⟩ := k
              refine ⟨rfl, ?_⟩
              show rx_aw 199 87 [.ref 90, .int a0, .int a1, rx_no, rx_no] [] (rx_hp L t hi15 hl15 v15) Q
              refine rx_aw_s 5 (pc := 87) rfl ?_
              show rx_aw 199 92 [.ref 90, .int a0, .int a1, .int (0 : Int32), rx_no] [.int (0 : Int32), .int a1, .ref 90] (rx_hp L t hi15 hl15 v15) Q
              refine rx_w_callI (j := 201) (pc := 92) rfl rfl rfl rfl rfl ?_
              refine rx_aw.mono k (fun r h2 k => ?_)
              obtain ⟨z16, rfl, hi16, hl16, v16, rfl, k⟩ := k
              refine ⟨z16, rfl, ?_⟩
              show rx_aw 199 95 [.ref 90, .int a0, .int a1, .int (0 : Int32), rx_no] [.int z16] (rx_hp L t hi16 hl16 v16) Q
              refine rx_aw_s 1 (pc := 95) rfl ?_
              show rx_aw 199 97 [.ref 90, .int a0, .int a1, .int (0 : Int32), .int z16] [] (rx_hp L t hi16 hl16 v16) Q
              exact k
            · have k := k.2 c12
              show rx_aw 199 72 [.ref 90, .int a0, .int a1, rx_no, rx_no] [.int a0, .ref 94] (rx_hp L t (rx_u hi9 100 j10 (1 : Int32)) hl9 v9) Q
              refine rx_aw_s 2 (pc := 72) rfl ?_
              show rx_aw 199 82 [.ref 90, .int a0, .int a1, rx_no, rx_no] [.int a1, .int a0, .ref 94] (rx_hp L t (rx_u hi9 100 j10 (1 : Int32)) hl9 v9) Q
              obtain ⟨j17, ej17, hj17, k⟩ := k
              refine rx_aw_iast (pc := 82) (n := 6) j17 ej17 rfl rfl (by decide) rfl hj17 (by decide) ?_
              show rx_aw 199 83 [.ref 90, .int a0, .int a1, rx_no, rx_no] [] (rx_hp L t (rx_u (rx_u hi9 100 j10 (1 : Int32)) 94 j17 a1) hl9 v9) Q
              refine rx_aw_s 1 (pc := 83) rfl ?_
              show rx_aw 199 84 [.ref 90, .int a0, .int a1, rx_no, rx_no] [.ref 90] (rx_hp L t (rx_u (rx_u hi9 100 j10 (1 : Int32)) 94 j17 a1) hl9 v9) Q
              refine rx_w_callV (j := 191) (pc := 84) rfl rfl rfl rfl rfl ?_
              refine rx_aw.mono k (fun r h2 k => ?_)
              obtain ⟨rfl, hi18, hl18, v18, rfl, k⟩ := k
              refine ⟨rfl, ?_⟩
              show rx_aw 199 87 [.ref 90, .int a0, .int a1, rx_no, rx_no] [] (rx_hp L t hi18 hl18 v18) Q
              refine rx_aw_s 5 (pc := 87) rfl ?_
              show rx_aw 199 92 [.ref 90, .int a0, .int a1, .int (0 : Int32), rx_no] [.int (0 : Int32), .int a1, .ref 90] (rx_hp L t hi18 hl18 v18) Q
              refine rx_w_callI (j := 201) (pc := 92) rfl rfl rfl rfl rfl ?_
              refine rx_aw.mono k (fun r h2 k => ?_)
              obtain ⟨z19, rfl, hi19, hl19, v19, rfl, k⟩ := k
              refine ⟨z19, rfl, ?_⟩
              show rx_aw 199 95 [.ref 90, .int a0, .int a1, .int (0 : Int32), rx_no] [.int z19] (rx_hp L t hi19 hl19 v19) Q
              refine rx_aw_s 1 (pc := 95) rfl ?_
              show rx_aw 199 97 [.ref 90, .int a0, .int a1, .int (0 : Int32), .int z19] [] (rx_hp L t hi19 hl19 v19) Q
              exact k
          · have k := k.2 c8
            show rx_aw 199 42 [.ref 90, .int a0, .int a1, rx_no, rx_no] [] (rx_hp L t hi1 hl1 v1) Q
            refine rx_aw_s 1 (pc := 42) rfl ?_
            show rx_aw 199 44 [.ref 90, .int a0, .int a1, rx_no, rx_no] [.int (-2 : Int32)] (rx_hp L t hi1 hl1 v1) Q
            exact rx_aw_ret (pc := 44) rfl k
      · have k := k.2 c6
        show rx_aw 199 42 [.ref 90, .int a0, .int a1, rx_no, rx_no] [] (rx_hp L t hi1 hl1 v1) Q
        refine rx_aw_s 1 (pc := 42) rfl ?_
        show rx_aw 199 44 [.ref 90, .int a0, .int a1, rx_no, rx_no] [.int (-2 : Int32)] (rx_hp L t hi1 hl1 v1) Q
        exact rx_aw_ret (pc := 44) rfl k
set_option maxRecDepth 100000 in
theorem w199_stop_r_97 {L : Nat} {t : List (Nat × Nat)} {hi : Nat → Nat → Int32} {hl : Nat → Nat → Int64} {v : Nat → Nat → Option Nat} {Q : Option Value → rx_H → Prop} {x1 : Int32} {x2 : Int32} {x3 : Int32} {x4 : Int32} (k : ((x4 < 0 → rx_me 201 [.ref 90, .int x2, .int (1 : Int32)] (rx_hp L t hi hl v) (fun r h2 => ∃ z21 : Int32, r = some (.int z21) ∧ rx_ok2 L t h2 (fun hi21 hl21 v21 => ((z21 < 0 → Q (some (.int x3)) (rx_hp L t (rx_u hi21 90 48 x2) hl21 v21)) ∧ (¬ (z21 < 0) → rx_me 200 [.ref 90, .int (1 : Int32)] (rx_hp L t hi21 hl21 v21) (fun r h2 => r = none ∧ rx_ok2 L t h2 (fun hi23 hl23 v23 => Q (some (.int (-3 : Int32))) (rx_hp L t hi23 hl23 v23)))))))) ∧ (¬ (x4 < 0) → (∃ j24 : Nat, x4 = nI j24 ∧ j24 < 6 ∧ rx_me 191 [.ref 90] (rx_hp L t (rx_u hi 94 j24 x2) hl v) (fun r h2 => r = none ∧ rx_ok2 L t h2 (fun hi25 hl25 v25 => rx_me 163 [.ref 90, .int x4] (rx_hp L t hi25 hl25 v25) (fun r h2 => ∃ z26 : Int32, r = some (.int z26) ∧ rx_ok2 L t h2 (fun hi26 hl26 v26 => ((z26 = 0 → (∃ j28 : Nat, x4 = nI j28 ∧ j28 < 6 ∧ rx_me 201 [.ref 90, .int x2, .int (0 : Int32)] (rx_hp L t (rx_u hi26 100 j28 (2 : Int32)) hl26 v26) (fun r h2 => ∃ z29 : Int32, r = some (.int z29) ∧ rx_ok2 L t h2 (fun hi29 hl29 v29 => rx_aw 199 97 [.ref 90, .int x1, .int x2, .int x3, .int z29] [] (rx_hp L t hi29 hl29 v29) Q)))) ∧ (¬ (z26 = 0) → rx_me 201 [.ref 90, .int x2, .int (0 : Int32)] (rx_hp L t hi26 hl26 v26) (fun r h2 => ∃ z30 : Int32, r = some (.int z30) ∧ rx_ok2 L t h2 (fun hi30 hl30 v30 => rx_aw 199 97 [.ref 90, .int x1, .int x2, .int (x3 + (1 : Int32)), .int z30] [] (rx_hp L t hi30 hl30 v30) Q)))))))))))) : rx_aw 199 97 [.ref 90, .int x1, .int x2, .int x3, .int x4] [] (rx_hp L t hi hl v) Q := by
  refine rx_aw_s 2 (pc := 97) rfl ?_
  refine rx_w_if (c := x4 < 0) ⟨fun c20 => ?_, fun c20 => ?_⟩
  · have k := k.1 c20
    show rx_aw 199 148 [.ref 90, .int x1, .int x2, .int x3, .int x4] [] (rx_hp L t hi hl v) Q
    refine rx_aw_s 3 (pc := 148) rfl ?_
    show rx_aw 199 151 [.ref 90, .int x1, .int x2, .int x3, .int x4] [.int (1 : Int32), .int x2, .ref 90] (rx_hp L t hi hl v) Q
    refine rx_w_callI (j := 201) (pc := 151) rfl rfl rfl rfl rfl ?_
    refine rx_aw.mono k (fun r h2 k => ?_)
    obtain ⟨z21, rfl, hi21, hl21, v21, rfl, k⟩ := k
    refine ⟨z21, rfl, ?_⟩
    show rx_aw 199 154 [.ref 90, .int x1, .int x2, .int x3, .int x4] [.int z21] (rx_hp L t hi21 hl21 v21) Q
    refine rx_aw_s 1 (pc := 154) rfl ?_
    refine rx_w_if (c := z21 < 0) ⟨fun c22 => ?_, fun c22 => ?_⟩
    · have k := k.1 c22
      show rx_aw 199 165 [.ref 90, .int x1, .int x2, .int x3, .int x4] [] (rx_hp L t hi21 hl21 v21) Q
      refine rx_aw_s 4 (pc := 165) rfl ?_
      show rx_aw 199 171 [.ref 90, .int x1, .int x2, .int x3, .int x4] [.int x3] (rx_hp L t (rx_u hi21 90 48 x2) hl21 v21) Q
      exact rx_aw_ret (pc := 171) rfl k
    · have k := k.2 c22
      show rx_aw 199 157 [.ref 90, .int x1, .int x2, .int x3, .int x4] [] (rx_hp L t hi21 hl21 v21) Q
      refine rx_aw_s 2 (pc := 157) rfl ?_
      show rx_aw 199 159 [.ref 90, .int x1, .int x2, .int x3, .int x4] [.int (1 : Int32), .ref 90] (rx_hp L t hi21 hl21 v21) Q
      refine rx_w_callV (j := 200) (pc := 159) rfl rfl rfl rfl rfl ?_
      refine rx_aw.mono k (fun r h2 k => ?_)
      obtain ⟨rfl, hi23, hl23, v23, rfl, k⟩ := k
      refine ⟨rfl, ?_⟩
      show rx_aw 199 162 [.ref 90, .int x1, .int x2, .int x3, .int x4] [] (rx_hp L t hi23 hl23 v23) Q
      refine rx_aw_s 1 (pc := 162) rfl ?_
      show rx_aw 199 164 [.ref 90, .int x1, .int x2, .int x3, .int x4] [.int (-3 : Int32)] (rx_hp L t hi23 hl23 v23) Q
      exact rx_aw_ret (pc := 164) rfl k
  · have k := k.2 c20
    show rx_aw 199 102 [.ref 90, .int x1, .int x2, .int x3, .int x4] [] (rx_hp L t hi hl v) Q
    refine rx_aw_s 4 (pc := 102) rfl ?_
    show rx_aw 199 109 [.ref 90, .int x1, .int x2, .int x3, .int x4] [.int x2, .int x4, .ref 94] (rx_hp L t hi hl v) Q
    obtain ⟨j24, ej24, hj24, k⟩ := k
    refine rx_aw_iast (pc := 109) (n := 6) j24 ej24 rfl rfl (by decide) rfl hj24 (by decide) ?_
    show rx_aw 199 110 [.ref 90, .int x1, .int x2, .int x3, .int x4] [] (rx_hp L t (rx_u hi 94 j24 x2) hl v) Q
    refine rx_aw_s 1 (pc := 110) rfl ?_
    show rx_aw 199 111 [.ref 90, .int x1, .int x2, .int x3, .int x4] [.ref 90] (rx_hp L t (rx_u hi 94 j24 x2) hl v) Q
    refine rx_w_callV (j := 191) (pc := 111) rfl rfl rfl rfl rfl ?_
    refine rx_aw.mono k (fun r h2 k => ?_)
    obtain ⟨rfl, hi25, hl25, v25, rfl, k⟩ := k
    refine ⟨rfl, ?_⟩
    show rx_aw 199 114 [.ref 90, .int x1, .int x2, .int x3, .int x4] [] (rx_hp L t hi25 hl25 v25) Q
    refine rx_aw_s 2 (pc := 114) rfl ?_
    show rx_aw 199 117 [.ref 90, .int x1, .int x2, .int x3, .int x4] [.int x4, .ref 90] (rx_hp L t hi25 hl25 v25) Q
    refine rx_w_callI (j := 163) (pc := 117) rfl rfl rfl rfl rfl ?_
    refine rx_aw.mono k (fun r h2 k => ?_)
    obtain ⟨z26, rfl, hi26, hl26, v26, rfl, k⟩ := k
    refine ⟨z26, rfl, ?_⟩
    show rx_aw 199 120 [.ref 90, .int x1, .int x2, .int x3, .int x4] [.int z26] (rx_hp L t hi26 hl26 v26) Q
    refine rx_aw_s 1 (pc := 120) rfl ?_
    refine rx_w_if (c := z26 = 0) ⟨fun c27 => ?_, fun c27 => ?_⟩
    · have k := k.1 c27
      show rx_aw 199 129 [.ref 90, .int x1, .int x2, .int x3, .int x4] [] (rx_hp L t hi26 hl26 v26) Q
      refine rx_aw_s 4 (pc := 129) rfl ?_
      show rx_aw 199 136 [.ref 90, .int x1, .int x2, .int x3, .int x4] [.int (2 : Int32), .int x4, .ref 100] (rx_hp L t hi26 hl26 v26) Q
      obtain ⟨j28, ej28, hj28, k⟩ := k
      refine rx_aw_iast (pc := 136) (n := 6) j28 ej28 rfl rfl (by decide) rfl hj28 (by decide) ?_
      show rx_aw 199 137 [.ref 90, .int x1, .int x2, .int x3, .int x4] [] (rx_hp L t (rx_u hi26 100 j28 (2 : Int32)) hl26 v26) Q
      refine rx_aw_s 3 (pc := 137) rfl ?_
      show rx_aw 199 140 [.ref 90, .int x1, .int x2, .int x3, .int x4] [.int (0 : Int32), .int x2, .ref 90] (rx_hp L t (rx_u hi26 100 j28 (2 : Int32)) hl26 v26) Q
      refine rx_w_callI (j := 201) (pc := 140) rfl rfl rfl rfl rfl ?_
      refine rx_aw.mono k (fun r h2 k => ?_)
      obtain ⟨z29, rfl, hi29, hl29, v29, rfl, k⟩ := k
      refine ⟨z29, rfl, ?_⟩
      show rx_aw 199 143 [.ref 90, .int x1, .int x2, .int x3, .int x4] [.int z29] (rx_hp L t hi29 hl29 v29) Q
      refine rx_aw_s 2 (pc := 143) rfl ?_
      show rx_aw 199 97 [.ref 90, .int x1, .int x2, .int x3, .int z29] [] (rx_hp L t hi29 hl29 v29) Q
      exact k
    · have k := k.2 c27
      show rx_aw 199 123 [.ref 90, .int x1, .int x2, .int x3, .int x4] [] (rx_hp L t hi26 hl26 v26) Q
      refine rx_aw_s 5 (pc := 123) rfl ?_
      show rx_aw 199 140 [.ref 90, .int x1, .int x2, .int (x3 + (1 : Int32)), .int x4] [.int (0 : Int32), .int x2, .ref 90] (rx_hp L t hi26 hl26 v26) Q
      refine rx_w_callI (j := 201) (pc := 140) rfl rfl rfl rfl rfl ?_
      refine rx_aw.mono k (fun r h2 k => ?_)
      obtain ⟨z30, rfl, hi30, hl30, v30, rfl, k⟩ := k
      refine ⟨z30, rfl, ?_⟩
      show rx_aw 199 143 [.ref 90, .int x1, .int x2, .int (x3 + (1 : Int32)), .int x4] [.int z30] (rx_hp L t hi30 hl30 v30) Q
      refine rx_aw_s 2 (pc := 143) rfl ?_
      show rx_aw 199 97 [.ref 90, .int x1, .int x2, .int (x3 + (1 : Int32)), .int z30] [] (rx_hp L t hi30 hl30 v30) Q
      exact k
set_option maxRecDepth 100000 in
/-- CartFloorModel.remember(Z)V -/
theorem w200_remember_r {L : Nat} {t : List (Nat × Nat)} {hi : Nat → Nat → Int32} {hl : Nat → Nat → Int64} {v : Nat → Nat → Option Nat} {Q : Option Value → rx_H → Prop} {a0 : Int32} (k : rx_aw 200 2 [.ref 90, .int a0, .int (0 : Int32)] [] (rx_hp L t hi hl v) Q) : rx_me 200 [.ref 90, .int a0] (rx_hp L t hi hl v) Q := by
  show rx_aw 200 0 [.ref 90, .int a0, rx_no] [] (rx_hp L t hi hl v) Q
  refine rx_aw_s 2 (pc := 0) rfl ?_
  show rx_aw 200 2 [.ref 90, .int a0, .int (0 : Int32)] [] (rx_hp L t hi hl v) Q
  exact k
set_option maxRecDepth 100000 in
theorem w200_remember_r_2 {L : Nat} {t : List (Nat × Nat)} {hi : Nat → Nat → Int32} {hl : Nat → Nat → Int64} {v : Nat → Nat → Option Nat} {Q : Option Value → rx_H → Prop} {x1 : Int32} {x2 : Int32} (k : (((6 : Int32) ≤ x2 → rx_aw 200 95 [.ref 90, .int x1, .int (0 : Int32)] [] (rx_hp L t hi hl v) Q) ∧ (¬ ((6 : Int32) ≤ x2) → ((x1 = 0 → (∃ j3 : Nat, x2 = nI j3 ∧ j3 < 6 ∧ (∃ j4 : Nat, x2 = nI j4 ∧ j4 < 6 ∧ (∃ j5 : Nat, x2 = nI j5 ∧ j5 < 6 ∧ (∃ j6 : Nat, x2 = nI j6 ∧ j6 < 6 ∧ (∃ j7 : Nat, x2 = nI j7 ∧ j7 < 6 ∧ (∃ j8 : Nat, x2 = nI j8 ∧ j8 < 6 ∧ rx_aw 200 2 [.ref 90, .int x1, .int (x2 + (1 : Int32))] [] (rx_hp L t (rx_u (rx_u (rx_u hi 121 j4 (hi 94 j3)) 122 j6 ((rx_u hi 121 j4 (hi 94 j3)) 100 j5)) 124 j8 (vp_nar .boolean ((rx_u (rx_u hi 121 j4 (hi 94 j3)) 122 j6 ((rx_u hi 121 j4 (hi 94 j3)) 100 j5)) 99 j7))) hl v) Q))))))) ∧ (¬ (x1 = 0) → (∃ j9 : Nat, x2 = nI j9 ∧ j9 < 6 ∧ (∃ j10 : Nat, x2 = nI j10 ∧ j10 < 6 ∧ (∃ j11 : Nat, x2 = nI j11 ∧ j11 < 6 ∧ (∃ j12 : Nat, x2 = nI j12 ∧ j12 < 6 ∧ (∃ j13 : Nat, x2 = nI j13 ∧ j13 < 6 ∧ (∃ j14 : Nat, x2 = nI j14 ∧ j14 < 6 ∧ rx_aw 200 2 [.ref 90, .int x1, .int (x2 + (1 : Int32))] [] (rx_hp L t (rx_u (rx_u (rx_u hi 94 j10 (hi 121 j9)) 100 j12 ((rx_u hi 94 j10 (hi 121 j9)) 122 j11)) 99 j14 (vp_nar .boolean ((rx_u (rx_u hi 94 j10 (hi 121 j9)) 100 j12 ((rx_u hi 94 j10 (hi 121 j9)) 122 j11)) 124 j13))) hl v) Q))))))))))) : rx_aw 200 2 [.ref 90, .int x1, .int x2] [] (rx_hp L t hi hl v) Q := by
  refine rx_aw_s 3 (pc := 2) rfl ?_
  refine rx_w_if (c := (6 : Int32) ≤ x2) ⟨fun c1 => ?_, fun c1 => ?_⟩
  · have k := k.1 c1
    show rx_aw 200 93 [.ref 90, .int x1, .int x2] [] (rx_hp L t hi hl v) Q
    refine rx_aw_s 2 (pc := 93) rfl ?_
    show rx_aw 200 95 [.ref 90, .int x1, .int (0 : Int32)] [] (rx_hp L t hi hl v) Q
    exact k
  · have k := k.2 c1
    show rx_aw 200 8 [.ref 90, .int x1, .int x2] [] (rx_hp L t hi hl v) Q
    refine rx_aw_s 2 (pc := 8) rfl ?_
    refine rx_w_if (c := x1 = 0) ⟨fun c2 => ?_, fun c2 => ?_⟩
    · have k := k.1 c2
      show rx_aw 200 51 [.ref 90, .int x1, .int x2] [] (rx_hp L t hi hl v) Q
      refine rx_aw_s 6 (pc := 51) rfl ?_
      show rx_aw 200 61 [.ref 90, .int x1, .int x2] [.int x2, .ref 94, .int x2, .ref 121] (rx_hp L t hi hl v) Q
      obtain ⟨j3, ej3, hj3, k⟩ := k
      refine rx_aw_iald (pc := 61) (n := 6) j3 ej3 rfl rfl rfl hj3 (by decide) ?_
      show rx_aw 200 62 [.ref 90, .int x1, .int x2] [.int (hi 94 j3), .int x2, .ref 121] (rx_hp L t hi hl v) Q
      obtain ⟨j4, ej4, hj4, k⟩ := k
      refine rx_aw_iast (pc := 62) (n := 6) j4 ej4 rfl rfl (by decide) rfl hj4 (by decide) ?_
      show rx_aw 200 63 [.ref 90, .int x1, .int x2] [] (rx_hp L t (rx_u hi 121 j4 (hi 94 j3)) hl v) Q
      refine rx_aw_s 6 (pc := 63) rfl ?_
      show rx_aw 200 73 [.ref 90, .int x1, .int x2] [.int x2, .ref 100, .int x2, .ref 122] (rx_hp L t (rx_u hi 121 j4 (hi 94 j3)) hl v) Q
      obtain ⟨j5, ej5, hj5, k⟩ := k
      refine rx_aw_iald (pc := 73) (n := 6) j5 ej5 rfl rfl rfl hj5 (by decide) ?_
      show rx_aw 200 74 [.ref 90, .int x1, .int x2] [.int ((rx_u hi 121 j4 (hi 94 j3)) 100 j5), .int x2, .ref 122] (rx_hp L t (rx_u hi 121 j4 (hi 94 j3)) hl v) Q
      obtain ⟨j6, ej6, hj6, k⟩ := k
      refine rx_aw_iast (pc := 74) (n := 6) j6 ej6 rfl rfl (by decide) rfl hj6 (by decide) ?_
      show rx_aw 200 75 [.ref 90, .int x1, .int x2] [] (rx_hp L t (rx_u (rx_u hi 121 j4 (hi 94 j3)) 122 j6 ((rx_u hi 121 j4 (hi 94 j3)) 100 j5)) hl v) Q
      refine rx_aw_s 6 (pc := 75) rfl ?_
      show rx_aw 200 85 [.ref 90, .int x1, .int x2] [.int x2, .ref 99, .int x2, .ref 124] (rx_hp L t (rx_u (rx_u hi 121 j4 (hi 94 j3)) 122 j6 ((rx_u hi 121 j4 (hi 94 j3)) 100 j5)) hl v) Q
      obtain ⟨j7, ej7, hj7, k⟩ := k
      refine rx_aw_bald (pc := 85) (n := 6) j7 ej7 rfl (Or.inr rfl) (by decide) rfl hj7 (by decide) ?_
      show rx_aw 200 86 [.ref 90, .int x1, .int x2] [.int ((rx_u (rx_u hi 121 j4 (hi 94 j3)) 122 j6 ((rx_u hi 121 j4 (hi 94 j3)) 100 j5)) 99 j7), .int x2, .ref 124] (rx_hp L t (rx_u (rx_u hi 121 j4 (hi 94 j3)) 122 j6 ((rx_u hi 121 j4 (hi 94 j3)) 100 j5)) hl v) Q
      obtain ⟨j8, ej8, hj8, k⟩ := k
      refine rx_aw_zast (pc := 86) (n := 6) j8 ej8 rfl rfl (by decide) rfl hj8 (by decide) ?_
      show rx_aw 200 87 [.ref 90, .int x1, .int x2] [] (rx_hp L t (rx_u (rx_u (rx_u hi 121 j4 (hi 94 j3)) 122 j6 ((rx_u hi 121 j4 (hi 94 j3)) 100 j5)) 124 j8 (vp_nar .boolean ((rx_u (rx_u hi 121 j4 (hi 94 j3)) 122 j6 ((rx_u hi 121 j4 (hi 94 j3)) 100 j5)) 99 j7))) hl v) Q
      refine rx_aw_s 2 (pc := 87) rfl ?_
      show rx_aw 200 2 [.ref 90, .int x1, .int (x2 + (1 : Int32))] [] (rx_hp L t (rx_u (rx_u (rx_u hi 121 j4 (hi 94 j3)) 122 j6 ((rx_u hi 121 j4 (hi 94 j3)) 100 j5)) 124 j8 (vp_nar .boolean ((rx_u (rx_u hi 121 j4 (hi 94 j3)) 122 j6 ((rx_u hi 121 j4 (hi 94 j3)) 100 j5)) 99 j7))) hl v) Q
      exact k
    · have k := k.2 c2
      show rx_aw 200 12 [.ref 90, .int x1, .int x2] [] (rx_hp L t hi hl v) Q
      refine rx_aw_s 6 (pc := 12) rfl ?_
      show rx_aw 200 22 [.ref 90, .int x1, .int x2] [.int x2, .ref 121, .int x2, .ref 94] (rx_hp L t hi hl v) Q
      obtain ⟨j9, ej9, hj9, k⟩ := k
      refine rx_aw_iald (pc := 22) (n := 6) j9 ej9 rfl rfl rfl hj9 (by decide) ?_
      show rx_aw 200 23 [.ref 90, .int x1, .int x2] [.int (hi 121 j9), .int x2, .ref 94] (rx_hp L t hi hl v) Q
      obtain ⟨j10, ej10, hj10, k⟩ := k
      refine rx_aw_iast (pc := 23) (n := 6) j10 ej10 rfl rfl (by decide) rfl hj10 (by decide) ?_
      show rx_aw 200 24 [.ref 90, .int x1, .int x2] [] (rx_hp L t (rx_u hi 94 j10 (hi 121 j9)) hl v) Q
      refine rx_aw_s 6 (pc := 24) rfl ?_
      show rx_aw 200 34 [.ref 90, .int x1, .int x2] [.int x2, .ref 122, .int x2, .ref 100] (rx_hp L t (rx_u hi 94 j10 (hi 121 j9)) hl v) Q
      obtain ⟨j11, ej11, hj11, k⟩ := k
      refine rx_aw_iald (pc := 34) (n := 6) j11 ej11 rfl rfl rfl hj11 (by decide) ?_
      show rx_aw 200 35 [.ref 90, .int x1, .int x2] [.int ((rx_u hi 94 j10 (hi 121 j9)) 122 j11), .int x2, .ref 100] (rx_hp L t (rx_u hi 94 j10 (hi 121 j9)) hl v) Q
      obtain ⟨j12, ej12, hj12, k⟩ := k
      refine rx_aw_iast (pc := 35) (n := 6) j12 ej12 rfl rfl (by decide) rfl hj12 (by decide) ?_
      show rx_aw 200 36 [.ref 90, .int x1, .int x2] [] (rx_hp L t (rx_u (rx_u hi 94 j10 (hi 121 j9)) 100 j12 ((rx_u hi 94 j10 (hi 121 j9)) 122 j11)) hl v) Q
      refine rx_aw_s 6 (pc := 36) rfl ?_
      show rx_aw 200 46 [.ref 90, .int x1, .int x2] [.int x2, .ref 124, .int x2, .ref 99] (rx_hp L t (rx_u (rx_u hi 94 j10 (hi 121 j9)) 100 j12 ((rx_u hi 94 j10 (hi 121 j9)) 122 j11)) hl v) Q
      obtain ⟨j13, ej13, hj13, k⟩ := k
      refine rx_aw_bald (pc := 46) (n := 6) j13 ej13 rfl (Or.inr rfl) (by decide) rfl hj13 (by decide) ?_
      show rx_aw 200 47 [.ref 90, .int x1, .int x2] [.int ((rx_u (rx_u hi 94 j10 (hi 121 j9)) 100 j12 ((rx_u hi 94 j10 (hi 121 j9)) 122 j11)) 124 j13), .int x2, .ref 99] (rx_hp L t (rx_u (rx_u hi 94 j10 (hi 121 j9)) 100 j12 ((rx_u hi 94 j10 (hi 121 j9)) 122 j11)) hl v) Q
      obtain ⟨j14, ej14, hj14, k⟩ := k
      refine rx_aw_zast (pc := 47) (n := 6) j14 ej14 rfl rfl (by decide) rfl hj14 (by decide) ?_
      show rx_aw 200 48 [.ref 90, .int x1, .int x2] [] (rx_hp L t (rx_u (rx_u (rx_u hi 94 j10 (hi 121 j9)) 100 j12 ((rx_u hi 94 j10 (hi 121 j9)) 122 j11)) 99 j14 (vp_nar .boolean ((rx_u (rx_u hi 94 j10 (hi 121 j9)) 100 j12 ((rx_u hi 94 j10 (hi 121 j9)) 122 j11)) 124 j13))) hl v) Q
      refine rx_aw_s 3 (pc := 48) rfl ?_
      show rx_aw 200 2 [.ref 90, .int x1, .int (x2 + (1 : Int32))] [] (rx_hp L t (rx_u (rx_u (rx_u hi 94 j10 (hi 121 j9)) 100 j12 ((rx_u hi 94 j10 (hi 121 j9)) 122 j11)) 99 j14 (vp_nar .boolean ((rx_u (rx_u hi 94 j10 (hi 121 j9)) 100 j12 ((rx_u hi 94 j10 (hi 121 j9)) 122 j11)) 124 j13))) hl v) Q
      exact k
set_option maxRecDepth 100000 in
theorem w200_remember_r_95 {L : Nat} {t : List (Nat × Nat)} {hi : Nat → Nat → Int32} {hl : Nat → Nat → Int64} {v : Nat → Nat → Option Nat} {Q : Option Value → rx_H → Prop} {x1 : Int32} {x2 : Int32} (k : (((2400 : Int32) ≤ x2 → rx_me 191 [.ref 90] (rx_hp L t hi hl v) (fun r h2 => r = none ∧ rx_ok2 L t h2 (fun hi16 hl16 v16 => Q none (rx_hp L t hi16 hl16 v16)))) ∧ (¬ ((2400 : Int32) ≤ x2) → ((x1 = 0 → (∃ j18 : Nat, x2 = nI j18 ∧ j18 < 2400 ∧ (∃ j19 : Nat, x2 = nI j19 ∧ j19 < 2400 ∧ rx_aw 200 95 [.ref 90, .int x1, .int (x2 + (1 : Int32))] [] (rx_hp L t (rx_u hi 123 j19 (hi 95 j18)) hl v) Q))) ∧ (¬ (x1 = 0) → (∃ j20 : Nat, x2 = nI j20 ∧ j20 < 2400 ∧ (∃ j21 : Nat, x2 = nI j21 ∧ j21 < 2400 ∧ rx_aw 200 95 [.ref 90, .int x1, .int (x2 + (1 : Int32))] [] (rx_hp L t (rx_u hi 95 j21 (hi 123 j20)) hl v) Q))))))) : rx_aw 200 95 [.ref 90, .int x1, .int x2] [] (rx_hp L t hi hl v) Q := by
  refine rx_aw_s 3 (pc := 95) rfl ?_
  refine rx_w_if (c := (2400 : Int32) ≤ x2) ⟨fun c15 => ?_, fun c15 => ?_⟩
  · have k := k.1 c15
    show rx_aw 200 139 [.ref 90, .int x1, .int x2] [] (rx_hp L t hi hl v) Q
    refine rx_aw_s 1 (pc := 139) rfl ?_
    show rx_aw 200 140 [.ref 90, .int x1, .int x2] [.ref 90] (rx_hp L t hi hl v) Q
    refine rx_w_callV (j := 191) (pc := 140) rfl rfl rfl rfl rfl ?_
    refine rx_aw.mono k (fun r h2 k => ?_)
    obtain ⟨rfl, hi16, hl16, v16, rfl, k⟩ := k
    refine ⟨rfl, ?_⟩
    show rx_aw 200 143 [.ref 90, .int x1, .int x2] [] (rx_hp L t hi16 hl16 v16) Q
    exact rx_aw_ret (pc := 143) rfl k
  · have k := k.2 c15
    show rx_aw 200 102 [.ref 90, .int x1, .int x2] [] (rx_hp L t hi hl v) Q
    refine rx_aw_s 2 (pc := 102) rfl ?_
    refine rx_w_if (c := x1 = 0) ⟨fun c17 => ?_, fun c17 => ?_⟩
    · have k := k.1 c17
      show rx_aw 200 121 [.ref 90, .int x1, .int x2] [] (rx_hp L t hi hl v) Q
      refine rx_aw_s 6 (pc := 121) rfl ?_
      show rx_aw 200 131 [.ref 90, .int x1, .int x2] [.int x2, .ref 95, .int x2, .ref 123] (rx_hp L t hi hl v) Q
      obtain ⟨j18, ej18, hj18, k⟩ := k
      refine rx_aw_iald (pc := 131) (n := 2400) j18 ej18 rfl rfl rfl hj18 (by decide) ?_
      show rx_aw 200 132 [.ref 90, .int x1, .int x2] [.int (hi 95 j18), .int x2, .ref 123] (rx_hp L t hi hl v) Q
      obtain ⟨j19, ej19, hj19, k⟩ := k
      refine rx_aw_iast (pc := 132) (n := 2400) j19 ej19 rfl rfl (by decide) rfl hj19 (by decide) ?_
      show rx_aw 200 133 [.ref 90, .int x1, .int x2] [] (rx_hp L t (rx_u hi 123 j19 (hi 95 j18)) hl v) Q
      refine rx_aw_s 2 (pc := 133) rfl ?_
      show rx_aw 200 95 [.ref 90, .int x1, .int (x2 + (1 : Int32))] [] (rx_hp L t (rx_u hi 123 j19 (hi 95 j18)) hl v) Q
      exact k
    · have k := k.2 c17
      show rx_aw 200 106 [.ref 90, .int x1, .int x2] [] (rx_hp L t hi hl v) Q
      refine rx_aw_s 6 (pc := 106) rfl ?_
      show rx_aw 200 116 [.ref 90, .int x1, .int x2] [.int x2, .ref 123, .int x2, .ref 95] (rx_hp L t hi hl v) Q
      obtain ⟨j20, ej20, hj20, k⟩ := k
      refine rx_aw_iald (pc := 116) (n := 2400) j20 ej20 rfl rfl rfl hj20 (by decide) ?_
      show rx_aw 200 117 [.ref 90, .int x1, .int x2] [.int (hi 123 j20), .int x2, .ref 95] (rx_hp L t hi hl v) Q
      obtain ⟨j21, ej21, hj21, k⟩ := k
      refine rx_aw_iast (pc := 117) (n := 2400) j21 ej21 rfl rfl (by decide) rfl hj21 (by decide) ?_
      show rx_aw 200 118 [.ref 90, .int x1, .int x2] [] (rx_hp L t (rx_u hi 95 j21 (hi 123 j20)) hl v) Q
      refine rx_aw_s 3 (pc := 118) rfl ?_
      show rx_aw 200 95 [.ref 90, .int x1, .int (x2 + (1 : Int32))] [] (rx_hp L t (rx_u hi 95 j21 (hi 123 j20)) hl v) Q
      exact k
set_option maxRecDepth 100000 in
/-- CartFloorModel.firstTroubled(IZ)I -/
theorem w201_firstTroubled_r {L : Nat} {t : List (Nat × Nat)} {hi : Nat → Nat → Int32} {hl : Nat → Nat → Int64} {v : Nat → Nat → Option Nat} {Q : Option Value → rx_H → Prop} {a0 : Int32} {a1 : Int32} (k : rx_aw 201 2 [.ref 90, .int a0, .int a1, .int (0 : Int32)] [] (rx_hp L t hi hl v) Q) : rx_me 201 [.ref 90, .int a0, .int a1] (rx_hp L t hi hl v) Q := by
  show rx_aw 201 0 [.ref 90, .int a0, .int a1, rx_no] [] (rx_hp L t hi hl v) Q
  refine rx_aw_s 2 (pc := 0) rfl ?_
  show rx_aw 201 2 [.ref 90, .int a0, .int a1, .int (0 : Int32)] [] (rx_hp L t hi hl v) Q
  exact k
set_option maxRecDepth 100000 in
theorem w201_firstTroubled_r_2 {L : Nat} {t : List (Nat × Nat)} {hi : Nat → Nat → Int32} {hl : Nat → Nat → Int64} {v : Nat → Nat → Option Nat} {Q : Option Value → rx_H → Prop} {x1 : Int32} {x2 : Int32} {x3 : Int32} (k : (((hi 90 6) ≤ x3 → Q (some (.int (-1 : Int32))) (rx_hp L t hi hl v)) ∧ (¬ ((hi 90 6) ≤ x3) → (∃ j2 : Nat, x3 = nI j2 ∧ j2 < 6 ∧ (((hi 93 j2) = (3 : Int32) → (((1 : Int32) = x2 → rx_me 202 [.ref 90, .int x3, .int x1] (rx_hp L t hi hl v) (fun r h2 => ∃ z5 : Int32, r = some (.int z5) ∧ rx_ok2 L t h2 (fun hi5 hl5 v5 => ((z5 = 0 → rx_aw 201 2 [.ref 90, .int x1, .int x2, .int (x3 + (1 : Int32))] [] (rx_hp L t hi5 hl5 v5) Q) ∧ (¬ (z5 = 0) → Q (some (.int x3)) (rx_hp L t hi5 hl5 v5)))))) ∧ (¬ ((1 : Int32) = x2) → rx_aw 201 2 [.ref 90, .int x1, .int x2, .int (x3 + (1 : Int32))] [] (rx_hp L t hi hl v) Q))) ∧ (¬ ((hi 93 j2) = (3 : Int32)) → (((0 : Int32) = x2 → rx_me 202 [.ref 90, .int x3, .int x1] (rx_hp L t hi hl v) (fun r h2 => ∃ z8 : Int32, r = some (.int z8) ∧ rx_ok2 L t h2 (fun hi8 hl8 v8 => ((z8 = 0 → rx_aw 201 2 [.ref 90, .int x1, .int x2, .int (x3 + (1 : Int32))] [] (rx_hp L t hi8 hl8 v8) Q) ∧ (¬ (z8 = 0) → Q (some (.int x3)) (rx_hp L t hi8 hl8 v8)))))) ∧ (¬ ((0 : Int32) = x2) → rx_aw 201 2 [.ref 90, .int x1, .int x2, .int (x3 + (1 : Int32))] [] (rx_hp L t hi hl v) Q)))))))) : rx_aw 201 2 [.ref 90, .int x1, .int x2, .int x3] [] (rx_hp L t hi hl v) Q := by
  refine rx_aw_s 4 (pc := 2) rfl ?_
  refine rx_w_if (c := (hi 90 6) ≤ x3) ⟨fun c1 => ?_, fun c1 => ?_⟩
  · have k := k.1 c1
    show rx_aw 201 46 [.ref 90, .int x1, .int x2, .int x3] [] (rx_hp L t hi hl v) Q
    refine rx_aw_s 1 (pc := 46) rfl ?_
    show rx_aw 201 47 [.ref 90, .int x1, .int x2, .int x3] [.int (-1 : Int32)] (rx_hp L t hi hl v) Q
    exact rx_aw_ret (pc := 47) rfl k
  · have k := k.2 c1
    show rx_aw 201 10 [.ref 90, .int x1, .int x2, .int x3] [] (rx_hp L t hi hl v) Q
    refine rx_aw_s 3 (pc := 10) rfl ?_
    show rx_aw 201 15 [.ref 90, .int x1, .int x2, .int x3] [.int x3, .ref 93] (rx_hp L t hi hl v) Q
    obtain ⟨j2, ej2, hj2, k⟩ := k
    refine rx_aw_iald (pc := 15) (n := 6) j2 ej2 rfl rfl rfl hj2 (by decide) ?_
    show rx_aw 201 16 [.ref 90, .int x1, .int x2, .int x3] [.int (hi 93 j2)] (rx_hp L t hi hl v) Q
    refine rx_aw_s 2 (pc := 16) rfl ?_
    refine rx_w_ifn (c := (hi 93 j2) = (3 : Int32)) ⟨fun c3 => ?_, fun c3 => ?_⟩
    · have k := k.1 c3
      show rx_aw 201 20 [.ref 90, .int x1, .int x2, .int x3] [] (rx_hp L t hi hl v) Q
      refine rx_aw_s 4 (pc := 20) rfl ?_
      refine rx_w_ifn (c := (1 : Int32) = x2) ⟨fun c4 => ?_, fun c4 => ?_⟩
      · have k := k.1 c4
        show rx_aw 201 29 [.ref 90, .int x1, .int x2, .int x3] [] (rx_hp L t hi hl v) Q
        refine rx_aw_s 3 (pc := 29) rfl ?_
        show rx_aw 201 32 [.ref 90, .int x1, .int x2, .int x3] [.int x1, .int x3, .ref 90] (rx_hp L t hi hl v) Q
        refine rx_w_callI (j := 202) (pc := 32) rfl rfl rfl rfl rfl ?_
        refine rx_aw.mono k (fun r h2 k => ?_)
        obtain ⟨z5, rfl, hi5, hl5, v5, rfl, k⟩ := k
        refine ⟨z5, rfl, ?_⟩
        show rx_aw 201 35 [.ref 90, .int x1, .int x2, .int x3] [.int z5] (rx_hp L t hi5 hl5 v5) Q
        refine rx_aw_s 1 (pc := 35) rfl ?_
        refine rx_w_if (c := z5 = 0) ⟨fun c6 => ?_, fun c6 => ?_⟩
        · have k := k.1 c6
          show rx_aw 201 40 [.ref 90, .int x1, .int x2, .int x3] [] (rx_hp L t hi5 hl5 v5) Q
          refine rx_aw_s 2 (pc := 40) rfl ?_
          show rx_aw 201 2 [.ref 90, .int x1, .int x2, .int (x3 + (1 : Int32))] [] (rx_hp L t hi5 hl5 v5) Q
          exact k
        · have k := k.2 c6
          show rx_aw 201 38 [.ref 90, .int x1, .int x2, .int x3] [] (rx_hp L t hi5 hl5 v5) Q
          refine rx_aw_s 1 (pc := 38) rfl ?_
          show rx_aw 201 39 [.ref 90, .int x1, .int x2, .int x3] [.int x3] (rx_hp L t hi5 hl5 v5) Q
          exact rx_aw_ret (pc := 39) rfl k
      · have k := k.2 c4
        show rx_aw 201 40 [.ref 90, .int x1, .int x2, .int x3] [] (rx_hp L t hi hl v) Q
        refine rx_aw_s 2 (pc := 40) rfl ?_
        show rx_aw 201 2 [.ref 90, .int x1, .int x2, .int (x3 + (1 : Int32))] [] (rx_hp L t hi hl v) Q
        exact k
    · have k := k.2 c3
      show rx_aw 201 24 [.ref 90, .int x1, .int x2, .int x3] [] (rx_hp L t hi hl v) Q
      refine rx_aw_s 3 (pc := 24) rfl ?_
      refine rx_w_ifn (c := (0 : Int32) = x2) ⟨fun c7 => ?_, fun c7 => ?_⟩
      · have k := k.1 c7
        show rx_aw 201 29 [.ref 90, .int x1, .int x2, .int x3] [] (rx_hp L t hi hl v) Q
        refine rx_aw_s 3 (pc := 29) rfl ?_
        show rx_aw 201 32 [.ref 90, .int x1, .int x2, .int x3] [.int x1, .int x3, .ref 90] (rx_hp L t hi hl v) Q
        refine rx_w_callI (j := 202) (pc := 32) rfl rfl rfl rfl rfl ?_
        refine rx_aw.mono k (fun r h2 k => ?_)
        obtain ⟨z8, rfl, hi8, hl8, v8, rfl, k⟩ := k
        refine ⟨z8, rfl, ?_⟩
        show rx_aw 201 35 [.ref 90, .int x1, .int x2, .int x3] [.int z8] (rx_hp L t hi8 hl8 v8) Q
        refine rx_aw_s 1 (pc := 35) rfl ?_
        refine rx_w_if (c := z8 = 0) ⟨fun c9 => ?_, fun c9 => ?_⟩
        · have k := k.1 c9
          show rx_aw 201 40 [.ref 90, .int x1, .int x2, .int x3] [] (rx_hp L t hi8 hl8 v8) Q
          refine rx_aw_s 2 (pc := 40) rfl ?_
          show rx_aw 201 2 [.ref 90, .int x1, .int x2, .int (x3 + (1 : Int32))] [] (rx_hp L t hi8 hl8 v8) Q
          exact k
        · have k := k.2 c9
          show rx_aw 201 38 [.ref 90, .int x1, .int x2, .int x3] [] (rx_hp L t hi8 hl8 v8) Q
          refine rx_aw_s 1 (pc := 38) rfl ?_
          show rx_aw 201 39 [.ref 90, .int x1, .int x2, .int x3] [.int x3] (rx_hp L t hi8 hl8 v8) Q
          exact rx_aw_ret (pc := 39) rfl k
      · have k := k.2 c7
        show rx_aw 201 40 [.ref 90, .int x1, .int x2, .int x3] [] (rx_hp L t hi hl v) Q
        refine rx_aw_s 2 (pc := 40) rfl ?_
        show rx_aw 201 2 [.ref 90, .int x1, .int x2, .int (x3 + (1 : Int32))] [] (rx_hp L t hi hl v) Q
        exact k
set_option maxRecDepth 100000 in
/-- CartFloorModel.isTroubled(II)Z -/
theorem w202_isTroubled_r {L : Nat} {t : List (Nat × Nat)} {hi : Nat → Nat → Int32} {hl : Nat → Nat → Int64} {v : Nat → Nat → Option Nat} {Q : Option Value → rx_H → Prop} {a0 : Int32} {a1 : Int32} (k : rx_aw 202 5 [.ref 90, .int a0, .int a1, .int (0 : Int32), .int a1] [] (rx_hp L t hi hl v) Q) : rx_me 202 [.ref 90, .int a0, .int a1] (rx_hp L t hi hl v) Q := by
  show rx_aw 202 0 [.ref 90, .int a0, .int a1, rx_no, rx_no] [] (rx_hp L t hi hl v) Q
  refine rx_aw_s 4 (pc := 0) rfl ?_
  show rx_aw 202 5 [.ref 90, .int a0, .int a1, .int (0 : Int32), .int a1] [] (rx_hp L t hi hl v) Q
  exact k
set_option maxRecDepth 100000 in
theorem w202_isTroubled_r_5 {L : Nat} {t : List (Nat × Nat)} {hi : Nat → Nat → Int32} {hl : Nat → Nat → Int64} {v : Nat → Nat → Option Nat} {Q : Option Value → rx_H → Prop} {x1 : Int32} {x2 : Int32} {x3 : Int32} {x4 : Int32} (k : (((402 : Int32) ≤ x4 → ((x3 = 0 ∨ x3 = 1) ∧ Q (some (.int x3)) (rx_hp L t hi hl v))) ∧ (¬ ((402 : Int32) ≤ x4) → (∃ j2 : Nat, x1 = nI j2 ∧ j2 < 6 ∧ (((hi 100 j2) = 0 → (∃ j4 : Nat, x1 = nI j4 ∧ j4 < 6 ∧ (((hi 94 j4) ≤ x2 → ((x3 = 0 ∨ x3 = 1) ∧ Q (some (.int x3)) (rx_hp L t hi hl v))) ∧ (¬ ((hi 94 j4) ≤ x2) → ((x3 = 0 → ((x4 ≤ x2 → (∃ j8 : Nat, x1 = nI j8 ∧ j8 < 6 ∧ (((hi 94 j8) ≤ x4 → rx_aw 202 5 [.ref 90, .int x1, .int x2, .int (0 : Int32), .int (x4 + (1 : Int32))] [] (rx_hp L t hi hl v) Q) ∧ (¬ ((hi 94 j8) ≤ x4) → (∃ j10 : Nat, (((402 : Int32) * x1) + x4) = nI j10 ∧ j10 < 2412 ∧ (((hi 104 j10) = 0 → rx_aw 202 5 [.ref 90, .int x1, .int x2, .int (1 : Int32), .int (x4 + (1 : Int32))] [] (rx_hp L t hi hl v) Q) ∧ (¬ ((hi 104 j10) = 0) → rx_aw 202 5 [.ref 90, .int x1, .int x2, .int (0 : Int32), .int (x4 + (1 : Int32))] [] (rx_hp L t hi hl v) Q))))))) ∧ (¬ (x4 ≤ x2) → rx_me 173 [.ref 90, .int x1, .int x4] (rx_hp L t hi hl v) (fun r h2 => ∃ z12 : Int32, r = some (.int z12) ∧ rx_ok2 L t h2 (fun hi12 hl12 v12 => ((z12 = 0 → rx_aw 202 5 [.ref 90, .int x1, .int x2, .int (1 : Int32), .int (x4 + (1 : Int32))] [] (rx_hp L t hi12 hl12 v12) Q) ∧ (¬ (z12 = 0) → rx_me 174 [.ref 90, .int x1, .int x4] (rx_hp L t hi12 hl12 v12) (fun r h2 => ∃ z14 : Int32, r = some (.int z14) ∧ rx_ok2 L t h2 (fun hi14 hl14 v14 => ((z14 = 0 → (∃ j16 : Nat, x1 = nI j16 ∧ j16 < 6 ∧ (((hi14 94 j16) ≤ x4 → rx_aw 202 5 [.ref 90, .int x1, .int x2, .int (0 : Int32), .int (x4 + (1 : Int32))] [] (rx_hp L t hi14 hl14 v14) Q) ∧ (¬ ((hi14 94 j16) ≤ x4) → (∃ j18 : Nat, (((402 : Int32) * x1) + x4) = nI j18 ∧ j18 < 2412 ∧ (((hi14 104 j18) = 0 → rx_aw 202 5 [.ref 90, .int x1, .int x2, .int (1 : Int32), .int (x4 + (1 : Int32))] [] (rx_hp L t hi14 hl14 v14) Q) ∧ (¬ ((hi14 104 j18) = 0) → rx_aw 202 5 [.ref 90, .int x1, .int x2, .int (0 : Int32), .int (x4 + (1 : Int32))] [] (rx_hp L t hi14 hl14 v14) Q))))))) ∧ (¬ (z14 = 0) → rx_aw 202 5 [.ref 90, .int x1, .int x2, .int (1 : Int32), .int (x4 + (1 : Int32))] [] (rx_hp L t hi14 hl14 v14) Q))))))))))) ∧ (¬ (x3 = 0) → ((x3 = 0 ∨ x3 = 1) ∧ Q (some (.int x3)) (rx_hp L t hi hl v)))))))) ∧ (¬ ((hi 100 j2) = 0) → ((x3 = 0 ∨ x3 = 1) ∧ Q (some (.int x3)) (rx_hp L t hi hl v)))))))) : rx_aw 202 5 [.ref 90, .int x1, .int x2, .int x3, .int x4] [] (rx_hp L t hi hl v) Q := by
  refine rx_aw_s 3 (pc := 5) rfl ?_
  refine rx_w_if (c := (402 : Int32) ≤ x4) ⟨fun c1 => ?_, fun c1 => ?_⟩
  · have k := k.1 c1
    show rx_aw 202 101 [.ref 90, .int x1, .int x2, .int x3, .int x4] [] (rx_hp L t hi hl v) Q
    refine rx_aw_s 1 (pc := 101) rfl ?_
    show rx_aw 202 102 [.ref 90, .int x1, .int x2, .int x3, .int x4] [.int x3] (rx_hp L t hi hl v) Q
    exact rx_w_zret (pc := 102) rfl rfl k
  · have k := k.2 c1
    show rx_aw 202 13 [.ref 90, .int x1, .int x2, .int x3, .int x4] [] (rx_hp L t hi hl v) Q
    refine rx_aw_s 3 (pc := 13) rfl ?_
    show rx_aw 202 18 [.ref 90, .int x1, .int x2, .int x3, .int x4] [.int x1, .ref 100] (rx_hp L t hi hl v) Q
    obtain ⟨j2, ej2, hj2, k⟩ := k
    refine rx_aw_iald (pc := 18) (n := 6) j2 ej2 rfl rfl rfl hj2 (by decide) ?_
    show rx_aw 202 19 [.ref 90, .int x1, .int x2, .int x3, .int x4] [.int (hi 100 j2)] (rx_hp L t hi hl v) Q
    refine rx_aw_s 1 (pc := 19) rfl ?_
    refine rx_w_ifn (c := (hi 100 j2) = 0) ⟨fun c3 => ?_, fun c3 => ?_⟩
    · have k := k.1 c3
      show rx_aw 202 22 [.ref 90, .int x1, .int x2, .int x3, .int x4] [] (rx_hp L t hi hl v) Q
      refine rx_aw_s 3 (pc := 22) rfl ?_
      show rx_aw 202 27 [.ref 90, .int x1, .int x2, .int x3, .int x4] [.int x1, .ref 94] (rx_hp L t hi hl v) Q
      obtain ⟨j4, ej4, hj4, k⟩ := k
      refine rx_aw_iald (pc := 27) (n := 6) j4 ej4 rfl rfl rfl hj4 (by decide) ?_
      show rx_aw 202 28 [.ref 90, .int x1, .int x2, .int x3, .int x4] [.int (hi 94 j4)] (rx_hp L t hi hl v) Q
      refine rx_aw_s 2 (pc := 28) rfl ?_
      refine rx_w_if (c := (hi 94 j4) ≤ x2) ⟨fun c5 => ?_, fun c5 => ?_⟩
      · have k := k.1 c5
        show rx_aw 202 101 [.ref 90, .int x1, .int x2, .int x3, .int x4] [] (rx_hp L t hi hl v) Q
        refine rx_aw_s 1 (pc := 101) rfl ?_
        show rx_aw 202 102 [.ref 90, .int x1, .int x2, .int x3, .int x4] [.int x3] (rx_hp L t hi hl v) Q
        exact rx_w_zret (pc := 102) rfl rfl k
      · have k := k.2 c5
        show rx_aw 202 32 [.ref 90, .int x1, .int x2, .int x3, .int x4] [] (rx_hp L t hi hl v) Q
        refine rx_aw_s 2 (pc := 32) rfl ?_
        refine rx_w_ifn (c := x3 = 0) ⟨fun c6 => ?_, fun c6 => ?_⟩
        · have k := k.1 c6
          show rx_aw 202 36 [.ref 90, .int x1, .int x2, .int x3, .int x4] [] (rx_hp L t hi hl v) Q
          refine rx_aw_s 3 (pc := 36) rfl ?_
          refine rx_w_if (c := x4 ≤ x2) ⟨fun c7 => ?_, fun c7 => ?_⟩
          · have k := k.1 c7
            show rx_aw 202 62 [.ref 90, .int x1, .int x2, .int x3, .int x4] [] (rx_hp L t hi hl v) Q
            refine rx_aw_s 4 (pc := 62) rfl ?_
            show rx_aw 202 69 [.ref 90, .int x1, .int x2, .int x3, .int x4] [.int x1, .ref 94, .int x4] (rx_hp L t hi hl v) Q
            obtain ⟨j8, ej8, hj8, k⟩ := k
            refine rx_aw_iald (pc := 69) (n := 6) j8 ej8 rfl rfl rfl hj8 (by decide) ?_
            show rx_aw 202 70 [.ref 90, .int x1, .int x2, .int x3, .int x4] [.int (hi 94 j8), .int x4] (rx_hp L t hi hl v) Q
            refine rx_aw_s 1 (pc := 70) rfl ?_
            refine rx_w_if (c := (hi 94 j8) ≤ x4) ⟨fun c9 => ?_, fun c9 => ?_⟩
            · have k := k.1 c9
              show rx_aw 202 93 [.ref 90, .int x1, .int x2, .int x3, .int x4] [] (rx_hp L t hi hl v) Q
              refine rx_aw_s 4 (pc := 93) rfl ?_
              show rx_aw 202 5 [.ref 90, .int x1, .int x2, .int (0 : Int32), .int (x4 + (1 : Int32))] [] (rx_hp L t hi hl v) Q
              exact k
            · have k := k.2 c9
              show rx_aw 202 73 [.ref 90, .int x1, .int x2, .int x3, .int x4] [] (rx_hp L t hi hl v) Q
              refine rx_aw_s 7 (pc := 73) rfl ?_
              show rx_aw 202 85 [.ref 90, .int x1, .int x2, .int x3, .int x4] [.int (((402 : Int32) * x1) + x4), .ref 104] (rx_hp L t hi hl v) Q
              obtain ⟨j10, ej10, hj10, k⟩ := k
              refine rx_aw_bald (pc := 85) (n := 2412) j10 ej10 rfl (Or.inr rfl) (by decide) rfl hj10 (by decide) ?_
              show rx_aw 202 86 [.ref 90, .int x1, .int x2, .int x3, .int x4] [.int (hi 104 j10)] (rx_hp L t hi hl v) Q
              refine rx_aw_s 1 (pc := 86) rfl ?_
              refine rx_w_ifn (c := (hi 104 j10) = 0) ⟨fun c11 => ?_, fun c11 => ?_⟩
              · have k := k.1 c11
                show rx_aw 202 89 [.ref 90, .int x1, .int x2, .int x3, .int x4] [] (rx_hp L t hi hl v) Q
                refine rx_aw_s 5 (pc := 89) rfl ?_
                show rx_aw 202 5 [.ref 90, .int x1, .int x2, .int (1 : Int32), .int (x4 + (1 : Int32))] [] (rx_hp L t hi hl v) Q
                exact k
              · have k := k.2 c11
                show rx_aw 202 93 [.ref 90, .int x1, .int x2, .int x3, .int x4] [] (rx_hp L t hi hl v) Q
                refine rx_aw_s 4 (pc := 93) rfl ?_
                show rx_aw 202 5 [.ref 90, .int x1, .int x2, .int (0 : Int32), .int (x4 + (1 : Int32))] [] (rx_hp L t hi hl v) Q
                exact k
          · have k := k.2 c7
            show rx_aw 202 42 [.ref 90, .int x1, .int x2, .int x3, .int x4] [] (rx_hp L t hi hl v) Q
            refine rx_aw_s 3 (pc := 42) rfl ?_
            show rx_aw 202 46 [.ref 90, .int x1, .int x2, .int x3, .int x4] [.int x4, .int x1, .ref 90] (rx_hp L t hi hl v) Q
            refine rx_w_callI (j := 173) (pc := 46) rfl rfl rfl rfl rfl ?_
            refine rx_aw.mono k (fun r h2 k => ?_)
            obtain ⟨z12, rfl, hi12, hl12, v12, rfl, k⟩ := k
            refine ⟨z12, rfl, ?_⟩
            show rx_aw 202 49 [.ref 90, .int x1, .int x2, .int x3, .int x4] [.int z12] (rx_hp L t hi12 hl12 v12) Q
            refine rx_aw_s 1 (pc := 49) rfl ?_
            refine rx_w_if (c := z12 = 0) ⟨fun c13 => ?_, fun c13 => ?_⟩
            · have k := k.1 c13
              show rx_aw 202 89 [.ref 90, .int x1, .int x2, .int x3, .int x4] [] (rx_hp L t hi12 hl12 v12) Q
              refine rx_aw_s 5 (pc := 89) rfl ?_
              show rx_aw 202 5 [.ref 90, .int x1, .int x2, .int (1 : Int32), .int (x4 + (1 : Int32))] [] (rx_hp L t hi12 hl12 v12) Q
              exact k
            · have k := k.2 c13
              show rx_aw 202 52 [.ref 90, .int x1, .int x2, .int x3, .int x4] [] (rx_hp L t hi12 hl12 v12) Q
              refine rx_aw_s 3 (pc := 52) rfl ?_
              show rx_aw 202 56 [.ref 90, .int x1, .int x2, .int x3, .int x4] [.int x4, .int x1, .ref 90] (rx_hp L t hi12 hl12 v12) Q
              refine rx_w_callI (j := 174) (pc := 56) rfl rfl rfl rfl rfl ?_
              refine rx_aw.mono k (fun r h2 k => ?_)
              obtain ⟨z14, rfl, hi14, hl14, v14, rfl, k⟩ := k
              refine ⟨z14, rfl, ?_⟩
              show rx_aw 202 59 [.ref 90, .int x1, .int x2, .int x3, .int x4] [.int z14] (rx_hp L t hi14 hl14 v14) Q
              refine rx_aw_s 1 (pc := 59) rfl ?_
              refine rx_w_ifn (c := z14 = 0) ⟨fun c15 => ?_, fun c15 => ?_⟩
              · have k := k.1 c15
                show rx_aw 202 62 [.ref 90, .int x1, .int x2, .int x3, .int x4] [] (rx_hp L t hi14 hl14 v14) Q
                refine rx_aw_s 4 (pc := 62) rfl ?_
                show rx_aw 202 69 [.ref 90, .int x1, .int x2, .int x3, .int x4] [.int x1, .ref 94, .int x4] (rx_hp L t hi14 hl14 v14) Q
                obtain ⟨j16, ej16, hj16, k⟩ := k
                refine rx_aw_iald (pc := 69) (n := 6) j16 ej16 rfl rfl rfl hj16 (by decide) ?_
                show rx_aw 202 70 [.ref 90, .int x1, .int x2, .int x3, .int x4] [.int (hi14 94 j16), .int x4] (rx_hp L t hi14 hl14 v14) Q
                refine rx_aw_s 1 (pc := 70) rfl ?_
                refine rx_w_if (c := (hi14 94 j16) ≤ x4) ⟨fun c17 => ?_, fun c17 => ?_⟩
                · have k := k.1 c17
                  show rx_aw 202 93 [.ref 90, .int x1, .int x2, .int x3, .int x4] [] (rx_hp L t hi14 hl14 v14) Q
                  refine rx_aw_s 4 (pc := 93) rfl ?_
                  show rx_aw 202 5 [.ref 90, .int x1, .int x2, .int (0 : Int32), .int (x4 + (1 : Int32))] [] (rx_hp L t hi14 hl14 v14) Q
                  exact k
                · have k := k.2 c17
                  show rx_aw 202 73 [.ref 90, .int x1, .int x2, .int x3, .int x4] [] (rx_hp L t hi14 hl14 v14) Q
                  refine rx_aw_s 7 (pc := 73) rfl ?_
                  show rx_aw 202 85 [.ref 90, .int x1, .int x2, .int x3, .int x4] [.int (((402 : Int32) * x1) + x4), .ref 104] (rx_hp L t hi14 hl14 v14) Q
                  obtain ⟨j18, ej18, hj18, k⟩ := k
                  refine rx_aw_bald (pc := 85) (n := 2412) j18 ej18 rfl (Or.inr rfl) (by decide) rfl hj18 (by decide) ?_
                  show rx_aw 202 86 [.ref 90, .int x1, .int x2, .int x3, .int x4] [.int (hi14 104 j18)] (rx_hp L t hi14 hl14 v14) Q
                  refine rx_aw_s 1 (pc := 86) rfl ?_
                  refine rx_w_ifn (c := (hi14 104 j18) = 0) ⟨fun c19 => ?_, fun c19 => ?_⟩
                  · have k := k.1 c19
                    show rx_aw 202 89 [.ref 90, .int x1, .int x2, .int x3, .int x4] [] (rx_hp L t hi14 hl14 v14) Q
                    refine rx_aw_s 5 (pc := 89) rfl ?_
                    show rx_aw 202 5 [.ref 90, .int x1, .int x2, .int (1 : Int32), .int (x4 + (1 : Int32))] [] (rx_hp L t hi14 hl14 v14) Q
                    exact k
                  · have k := k.2 c19
                    show rx_aw 202 93 [.ref 90, .int x1, .int x2, .int x3, .int x4] [] (rx_hp L t hi14 hl14 v14) Q
                    refine rx_aw_s 4 (pc := 93) rfl ?_
                    show rx_aw 202 5 [.ref 90, .int x1, .int x2, .int (0 : Int32), .int (x4 + (1 : Int32))] [] (rx_hp L t hi14 hl14 v14) Q
                    exact k
              · have k := k.2 c15
                show rx_aw 202 89 [.ref 90, .int x1, .int x2, .int x3, .int x4] [] (rx_hp L t hi14 hl14 v14) Q
                refine rx_aw_s 5 (pc := 89) rfl ?_
                show rx_aw 202 5 [.ref 90, .int x1, .int x2, .int (1 : Int32), .int (x4 + (1 : Int32))] [] (rx_hp L t hi14 hl14 v14) Q
                exact k
        · have k := k.2 c6
          show rx_aw 202 101 [.ref 90, .int x1, .int x2, .int x3, .int x4] [] (rx_hp L t hi hl v) Q
          refine rx_aw_s 1 (pc := 101) rfl ?_
          show rx_aw 202 102 [.ref 90, .int x1, .int x2, .int x3, .int x4] [.int x3] (rx_hp L t hi hl v) Q
          exact rx_w_zret (pc := 102) rfl rfl k
    · have k := k.2 c3
      show rx_aw 202 101 [.ref 90, .int x1, .int x2, .int x3, .int x4] [] (rx_hp L t hi hl v) Q
      refine rx_aw_s 1 (pc := 101) rfl ?_
      show rx_aw 202 102 [.ref 90, .int x1, .int x2, .int x3, .int x4] [.int x3] (rx_hp L t hi hl v) Q
      exact rx_w_zret (pc := 102) rfl rfl k
set_option maxRecDepth 100000 in
/-- CartFloorModel.dawn()I -/
theorem w203_dawn_r {L : Nat} {t : List (Nat × Nat)} {hi : Nat → Nat → Int32} {hl : Nat → Nat → Int64} {v : Nat → Nat → Option Nat} {Q : Option Value → rx_H → Prop}  (k : rx_aw 203 7 [.ref 90, .int (0 : Int32), rx_no] [] (rx_hp L t (rx_u hi 90 48 (0 : Int32)) hl v) Q) : rx_me 203 [.ref 90] (rx_hp L t hi hl v) Q := by
  show rx_aw 203 0 [.ref 90, rx_no, rx_no] [] (rx_hp L t hi hl v) Q
  refine rx_aw_s 5 (pc := 0) rfl ?_
  show rx_aw 203 7 [.ref 90, .int (0 : Int32), rx_no] [] (rx_hp L t (rx_u hi 90 48 (0 : Int32)) hl v) Q
  exact k
set_option maxRecDepth 100000 in
theorem w203_dawn_r_7 {L : Nat} {t : List (Nat × Nat)} {hi : Nat → Nat → Int32} {hl : Nat → Nat → Int64} {v : Nat → Nat → Option Nat} {Q : Option Value → rx_H → Prop} {x1 : Int32} (k : (((hi 90 6) ≤ x1 → rx_aw 203 111 [.ref 90, .int (0 : Int32), rx_no] [] (rx_hp L t hi hl v) Q) ∧ (¬ ((hi 90 6) ≤ x1) → (∃ j2 : Nat, ((((402 : Int32) * x1) + (402 : Int32)) - (1 : Int32)) = nI j2 ∧ j2 < 2412 ∧ (∃ j3 : Nat, ((402 : Int32) * x1) = nI j3 ∧ j3 < 2412 ∧ (∃ j4 : Nat, ((((402 : Int32) * x1) + (402 : Int32)) - (1 : Int32)) = nI j4 ∧ j4 < 2412 ∧ (∃ j5 : Nat, ((402 : Int32) * x1) = nI j5 ∧ j5 < 2412 ∧ (∃ j6 : Nat, ((((402 : Int32) * x1) + (402 : Int32)) - (1 : Int32)) = nI j6 ∧ j6 < 2412 ∧ (∃ j7 : Nat, ((402 : Int32) * x1) = nI j7 ∧ j7 < 2412 ∧ (∃ j8 : Nat, x1 = nI j8 ∧ j8 < 6 ∧ (∃ j9 : Nat, x1 = nI j9 ∧ j9 < 6 ∧ (∃ j10 : Nat, x1 = nI j10 ∧ j10 < 6 ∧ (∃ j11 : Nat, x1 = nI j11 ∧ j11 < 6 ∧ rx_aw 203 7 [.ref 90, .int (x1 + (1 : Int32)), rx_no] [] (rx_hp L t (rx_u (rx_u (rx_u (rx_u (rx_u (rx_u (rx_u hi 101 j3 (hi 101 j2)) 102 j5 ((rx_u hi 101 j3 (hi 101 j2)) 102 j4)) 103 j7 ((rx_u (rx_u hi 101 j3 (hi 101 j2)) 102 j5 ((rx_u hi 101 j3 (hi 101 j2)) 102 j4)) 103 j6)) 94 j8 (0 : Int32)) 96 j9 (vp_nar .boolean (0 : Int32))) 99 j10 (vp_nar .boolean (0 : Int32))) 100 j11 (0 : Int32)) hl v) Q))))))))))))) : rx_aw 203 7 [.ref 90, .int x1, rx_no] [] (rx_hp L t hi hl v) Q := by
  refine rx_aw_s 4 (pc := 7) rfl ?_
  refine rx_w_if (c := (hi 90 6) ≤ x1) ⟨fun c1 => ?_, fun c1 => ?_⟩
  · have k := k.1 c1
    show rx_aw 203 109 [.ref 90, .int x1, rx_no] [] (rx_hp L t hi hl v) Q
    refine rx_aw_s 2 (pc := 109) rfl ?_
    show rx_aw 203 111 [.ref 90, .int (0 : Int32), rx_no] [] (rx_hp L t hi hl v) Q
    exact k
  · have k := k.2 c1
    show rx_aw 203 15 [.ref 90, .int x1, rx_no] [] (rx_hp L t hi hl v) Q
    refine rx_aw_s 14 (pc := 15) rfl ?_
    show rx_aw 203 37 [.ref 90, .int x1, .int ((402 : Int32) * x1)] [.int ((((402 : Int32) * x1) + (402 : Int32)) - (1 : Int32)), .ref 101, .int ((402 : Int32) * x1), .ref 101] (rx_hp L t hi hl v) Q
    obtain ⟨j2, ej2, hj2, k⟩ := k
    refine rx_aw_iald (pc := 37) (n := 2412) j2 ej2 rfl rfl rfl hj2 (by decide) ?_
    show rx_aw 203 38 [.ref 90, .int x1, .int ((402 : Int32) * x1)] [.int (hi 101 j2), .int ((402 : Int32) * x1), .ref 101] (rx_hp L t hi hl v) Q
    obtain ⟨j3, ej3, hj3, k⟩ := k
    refine rx_aw_iast (pc := 38) (n := 2412) j3 ej3 rfl rfl (by decide) rfl hj3 (by decide) ?_
    show rx_aw 203 39 [.ref 90, .int x1, .int ((402 : Int32) * x1)] [] (rx_hp L t (rx_u hi 101 j3 (hi 101 j2)) hl v) Q
    refine rx_aw_s 10 (pc := 39) rfl ?_
    show rx_aw 203 55 [.ref 90, .int x1, .int ((402 : Int32) * x1)] [.int ((((402 : Int32) * x1) + (402 : Int32)) - (1 : Int32)), .ref 102, .int ((402 : Int32) * x1), .ref 102] (rx_hp L t (rx_u hi 101 j3 (hi 101 j2)) hl v) Q
    obtain ⟨j4, ej4, hj4, k⟩ := k
    refine rx_aw_iald (pc := 55) (n := 2412) j4 ej4 rfl rfl rfl hj4 (by decide) ?_
    show rx_aw 203 56 [.ref 90, .int x1, .int ((402 : Int32) * x1)] [.int ((rx_u hi 101 j3 (hi 101 j2)) 102 j4), .int ((402 : Int32) * x1), .ref 102] (rx_hp L t (rx_u hi 101 j3 (hi 101 j2)) hl v) Q
    obtain ⟨j5, ej5, hj5, k⟩ := k
    refine rx_aw_iast (pc := 56) (n := 2412) j5 ej5 rfl rfl (by decide) rfl hj5 (by decide) ?_
    show rx_aw 203 57 [.ref 90, .int x1, .int ((402 : Int32) * x1)] [] (rx_hp L t (rx_u (rx_u hi 101 j3 (hi 101 j2)) 102 j5 ((rx_u hi 101 j3 (hi 101 j2)) 102 j4)) hl v) Q
    refine rx_aw_s 10 (pc := 57) rfl ?_
    show rx_aw 203 73 [.ref 90, .int x1, .int ((402 : Int32) * x1)] [.int ((((402 : Int32) * x1) + (402 : Int32)) - (1 : Int32)), .ref 103, .int ((402 : Int32) * x1), .ref 103] (rx_hp L t (rx_u (rx_u hi 101 j3 (hi 101 j2)) 102 j5 ((rx_u hi 101 j3 (hi 101 j2)) 102 j4)) hl v) Q
    obtain ⟨j6, ej6, hj6, k⟩ := k
    refine rx_aw_iald (pc := 73) (n := 2412) j6 ej6 rfl rfl rfl hj6 (by decide) ?_
    show rx_aw 203 74 [.ref 90, .int x1, .int ((402 : Int32) * x1)] [.int ((rx_u (rx_u hi 101 j3 (hi 101 j2)) 102 j5 ((rx_u hi 101 j3 (hi 101 j2)) 102 j4)) 103 j6), .int ((402 : Int32) * x1), .ref 103] (rx_hp L t (rx_u (rx_u hi 101 j3 (hi 101 j2)) 102 j5 ((rx_u hi 101 j3 (hi 101 j2)) 102 j4)) hl v) Q
    obtain ⟨j7, ej7, hj7, k⟩ := k
    refine rx_aw_iast (pc := 74) (n := 2412) j7 ej7 rfl rfl (by decide) rfl hj7 (by decide) ?_
    show rx_aw 203 75 [.ref 90, .int x1, .int ((402 : Int32) * x1)] [] (rx_hp L t (rx_u (rx_u (rx_u hi 101 j3 (hi 101 j2)) 102 j5 ((rx_u hi 101 j3 (hi 101 j2)) 102 j4)) 103 j7 ((rx_u (rx_u hi 101 j3 (hi 101 j2)) 102 j5 ((rx_u hi 101 j3 (hi 101 j2)) 102 j4)) 103 j6)) hl v) Q
    refine rx_aw_s 4 (pc := 75) rfl ?_
    show rx_aw 203 81 [.ref 90, .int x1, .int ((402 : Int32) * x1)] [.int (0 : Int32), .int x1, .ref 94] (rx_hp L t (rx_u (rx_u (rx_u hi 101 j3 (hi 101 j2)) 102 j5 ((rx_u hi 101 j3 (hi 101 j2)) 102 j4)) 103 j7 ((rx_u (rx_u hi 101 j3 (hi 101 j2)) 102 j5 ((rx_u hi 101 j3 (hi 101 j2)) 102 j4)) 103 j6)) hl v) Q
    obtain ⟨j8, ej8, hj8, k⟩ := k
    refine rx_aw_iast (pc := 81) (n := 6) j8 ej8 rfl rfl (by decide) rfl hj8 (by decide) ?_
    show rx_aw 203 82 [.ref 90, .int x1, .int ((402 : Int32) * x1)] [] (rx_hp L t (rx_u (rx_u (rx_u (rx_u hi 101 j3 (hi 101 j2)) 102 j5 ((rx_u hi 101 j3 (hi 101 j2)) 102 j4)) 103 j7 ((rx_u (rx_u hi 101 j3 (hi 101 j2)) 102 j5 ((rx_u hi 101 j3 (hi 101 j2)) 102 j4)) 103 j6)) 94 j8 (0 : Int32)) hl v) Q
    refine rx_aw_s 4 (pc := 82) rfl ?_
    show rx_aw 203 88 [.ref 90, .int x1, .int ((402 : Int32) * x1)] [.int (0 : Int32), .int x1, .ref 96] (rx_hp L t (rx_u (rx_u (rx_u (rx_u hi 101 j3 (hi 101 j2)) 102 j5 ((rx_u hi 101 j3 (hi 101 j2)) 102 j4)) 103 j7 ((rx_u (rx_u hi 101 j3 (hi 101 j2)) 102 j5 ((rx_u hi 101 j3 (hi 101 j2)) 102 j4)) 103 j6)) 94 j8 (0 : Int32)) hl v) Q
    obtain ⟨j9, ej9, hj9, k⟩ := k
    refine rx_aw_zast (pc := 88) (n := 6) j9 ej9 rfl rfl (by decide) rfl hj9 (by decide) ?_
    show rx_aw 203 89 [.ref 90, .int x1, .int ((402 : Int32) * x1)] [] (rx_hp L t (rx_u (rx_u (rx_u (rx_u (rx_u hi 101 j3 (hi 101 j2)) 102 j5 ((rx_u hi 101 j3 (hi 101 j2)) 102 j4)) 103 j7 ((rx_u (rx_u hi 101 j3 (hi 101 j2)) 102 j5 ((rx_u hi 101 j3 (hi 101 j2)) 102 j4)) 103 j6)) 94 j8 (0 : Int32)) 96 j9 (vp_nar .boolean (0 : Int32))) hl v) Q
    refine rx_aw_s 4 (pc := 89) rfl ?_
    show rx_aw 203 95 [.ref 90, .int x1, .int ((402 : Int32) * x1)] [.int (0 : Int32), .int x1, .ref 99] (rx_hp L t (rx_u (rx_u (rx_u (rx_u (rx_u hi 101 j3 (hi 101 j2)) 102 j5 ((rx_u hi 101 j3 (hi 101 j2)) 102 j4)) 103 j7 ((rx_u (rx_u hi 101 j3 (hi 101 j2)) 102 j5 ((rx_u hi 101 j3 (hi 101 j2)) 102 j4)) 103 j6)) 94 j8 (0 : Int32)) 96 j9 (vp_nar .boolean (0 : Int32))) hl v) Q
    obtain ⟨j10, ej10, hj10, k⟩ := k
    refine rx_aw_zast (pc := 95) (n := 6) j10 ej10 rfl rfl (by decide) rfl hj10 (by decide) ?_
    show rx_aw 203 96 [.ref 90, .int x1, .int ((402 : Int32) * x1)] [] (rx_hp L t (rx_u (rx_u (rx_u (rx_u (rx_u (rx_u hi 101 j3 (hi 101 j2)) 102 j5 ((rx_u hi 101 j3 (hi 101 j2)) 102 j4)) 103 j7 ((rx_u (rx_u hi 101 j3 (hi 101 j2)) 102 j5 ((rx_u hi 101 j3 (hi 101 j2)) 102 j4)) 103 j6)) 94 j8 (0 : Int32)) 96 j9 (vp_nar .boolean (0 : Int32))) 99 j10 (vp_nar .boolean (0 : Int32))) hl v) Q
    refine rx_aw_s 4 (pc := 96) rfl ?_
    show rx_aw 203 102 [.ref 90, .int x1, .int ((402 : Int32) * x1)] [.int (0 : Int32), .int x1, .ref 100] (rx_hp L t (rx_u (rx_u (rx_u (rx_u (rx_u (rx_u hi 101 j3 (hi 101 j2)) 102 j5 ((rx_u hi 101 j3 (hi 101 j2)) 102 j4)) 103 j7 ((rx_u (rx_u hi 101 j3 (hi 101 j2)) 102 j5 ((rx_u hi 101 j3 (hi 101 j2)) 102 j4)) 103 j6)) 94 j8 (0 : Int32)) 96 j9 (vp_nar .boolean (0 : Int32))) 99 j10 (vp_nar .boolean (0 : Int32))) hl v) Q
    obtain ⟨j11, ej11, hj11, k⟩ := k
    refine rx_aw_iast (pc := 102) (n := 6) j11 ej11 rfl rfl (by decide) rfl hj11 (by decide) ?_
    show rx_aw 203 103 [.ref 90, .int x1, .int ((402 : Int32) * x1)] [] (rx_hp L t (rx_u (rx_u (rx_u (rx_u (rx_u (rx_u (rx_u hi 101 j3 (hi 101 j2)) 102 j5 ((rx_u hi 101 j3 (hi 101 j2)) 102 j4)) 103 j7 ((rx_u (rx_u hi 101 j3 (hi 101 j2)) 102 j5 ((rx_u hi 101 j3 (hi 101 j2)) 102 j4)) 103 j6)) 94 j8 (0 : Int32)) 96 j9 (vp_nar .boolean (0 : Int32))) 99 j10 (vp_nar .boolean (0 : Int32))) 100 j11 (0 : Int32)) hl v) Q
    refine rx_aw_s 2 (pc := 103) rfl ?_
    show rx_aw 203 7 [.ref 90, .int (x1 + (1 : Int32)), .int ((402 : Int32) * x1)] [] (rx_hp L t (rx_u (rx_u (rx_u (rx_u (rx_u (rx_u (rx_u hi 101 j3 (hi 101 j2)) 102 j5 ((rx_u hi 101 j3 (hi 101 j2)) 102 j4)) 103 j7 ((rx_u (rx_u hi 101 j3 (hi 101 j2)) 102 j5 ((rx_u hi 101 j3 (hi 101 j2)) 102 j4)) 103 j6)) 94 j8 (0 : Int32)) 96 j9 (vp_nar .boolean (0 : Int32))) 99 j10 (vp_nar .boolean (0 : Int32))) 100 j11 (0 : Int32)) hl v) Q
    exact rx_aw_le (ls := [.ref 90, .int (x1 + (1 : Int32)), rx_no]) ⟨Or.inr rfl, ⟨Or.inr rfl, ⟨Or.inl rfl, trivial⟩⟩⟩ k
set_option maxRecDepth 100000 in
theorem w203_dawn_r_111 {L : Nat} {t : List (Nat × Nat)} {hi : Nat → Nat → Int32} {hl : Nat → Nat → Int64} {v : Nat → Nat → Option Nat} {Q : Option Value → rx_H → Prop} {x1 : Int32} (k : (((hi 90 21) ≤ x1 → rx_me 191 [.ref 90] (rx_hp L t hi hl v) (fun r h2 => r = none ∧ rx_ok2 L t h2 (fun hi13 hl13 v13 => Q (some (.int ((rx_u hi13 90 5 ((hi13 90 5) + (1 : Int32))) 90 5))) (rx_hp L t (rx_u hi13 90 5 ((hi13 90 5) + (1 : Int32))) hl13 v13)))) ∧ (¬ ((hi 90 21) ≤ x1) → (∃ j14 : Nat, ((((402 : Int32) * x1) + (402 : Int32)) - (1 : Int32)) = nI j14 ∧ j14 < 4824 ∧ (∃ j15 : Nat, x1 = nI j15 ∧ j15 < 12 ∧ rx_aw 203 111 [.ref 90, .int (x1 + (1 : Int32)), rx_no] [] (rx_hp L t (rx_u hi 107 j15 (hi 108 j14)) hl v) Q))))) : rx_aw 203 111 [.ref 90, .int x1, rx_no] [] (rx_hp L t hi hl v) Q := by
  refine rx_aw_s 4 (pc := 111) rfl ?_
  refine rx_w_if (c := (hi 90 21) ≤ x1) ⟨fun c12 => ?_, fun c12 => ?_⟩
  · have k := k.1 c12
    show rx_aw 203 147 [.ref 90, .int x1, rx_no] [] (rx_hp L t hi hl v) Q
    refine rx_aw_s 1 (pc := 147) rfl ?_
    show rx_aw 203 148 [.ref 90, .int x1, rx_no] [.ref 90] (rx_hp L t hi hl v) Q
    refine rx_w_callV (j := 191) (pc := 148) rfl rfl rfl rfl rfl ?_
    refine rx_aw.mono k (fun r h2 k => ?_)
    obtain ⟨rfl, hi13, hl13, v13, rfl, k⟩ := k
    refine ⟨rfl, ?_⟩
    show rx_aw 203 151 [.ref 90, .int x1, rx_no] [] (rx_hp L t hi13 hl13 v13) Q
    refine rx_aw_s 8 (pc := 151) rfl ?_
    show rx_aw 203 165 [.ref 90, .int x1, rx_no] [.int ((rx_u hi13 90 5 ((hi13 90 5) + (1 : Int32))) 90 5)] (rx_hp L t (rx_u hi13 90 5 ((hi13 90 5) + (1 : Int32))) hl13 v13) Q
    exact rx_aw_ret (pc := 165) rfl k
  · have k := k.2 c12
    show rx_aw 203 119 [.ref 90, .int x1, rx_no] [] (rx_hp L t hi hl v) Q
    refine rx_aw_s 12 (pc := 119) rfl ?_
    show rx_aw 203 139 [.ref 90, .int x1, rx_no] [.int ((((402 : Int32) * x1) + (402 : Int32)) - (1 : Int32)), .ref 108, .int x1, .ref 107] (rx_hp L t hi hl v) Q
    obtain ⟨j14, ej14, hj14, k⟩ := k
    refine rx_aw_iald (pc := 139) (n := 4824) j14 ej14 rfl rfl rfl hj14 (by decide) ?_
    show rx_aw 203 140 [.ref 90, .int x1, rx_no] [.int (hi 108 j14), .int x1, .ref 107] (rx_hp L t hi hl v) Q
    obtain ⟨j15, ej15, hj15, k⟩ := k
    refine rx_aw_iast (pc := 140) (n := 12) j15 ej15 rfl rfl (by decide) rfl hj15 (by decide) ?_
    show rx_aw 203 141 [.ref 90, .int x1, rx_no] [] (rx_hp L t (rx_u hi 107 j15 (hi 108 j14)) hl v) Q
    refine rx_aw_s 2 (pc := 141) rfl ?_
    show rx_aw 203 111 [.ref 90, .int (x1 + (1 : Int32)), rx_no] [] (rx_hp L t (rx_u hi 107 j15 (hi 108 j14)) hl v) Q
    exact k
set_option maxRecDepth 100000 in
/-- CartFloorModel.lay(III)I -/
theorem w204_lay_r {L : Nat} {t : List (Nat × Nat)} {hi : Nat → Nat → Int32} {hl : Nat → Nat → Int64} {v : Nat → Nat → Option Nat} {Q : Option Value → rx_H → Prop} {a0 : Int32} {a1 : Int32} {a2 : Int32} (k : rx_me 182 [.ref 90, .int a0, .int a1] (rx_hp L t hi hl v) (fun r h2 => ∃ z1 : Int32, r = some (.int z1) ∧ rx_ok2 L t h2 (fun hi1 hl1 v1 => ((z1 = 0 → Q (some (.int (-2 : Int32))) (rx_hp L t hi1 hl1 v1)) ∧ (¬ (z1 = 0) → ((a2 < 0 → Q (some (.int (-2 : Int32))) (rx_hp L t hi1 hl1 v1)) ∧ (¬ (a2 < 0) → (((3 : Int32) < a2 → Q (some (.int (-2 : Int32))) (rx_hp L t hi1 hl1 v1)) ∧ (¬ ((3 : Int32) < a2) → ((((hi1 90 6) + (hi1 90 21)) ≤ 0 → (∃ j6 : Nat, ((a1 * (hi1 90 0)) + a0) = nI j6 ∧ j6 < 64 ∧ (∃ j7 : Nat, ((a1 * (hi1 90 0)) + a0) = nI j7 ∧ j7 < 64 ∧ Q (some (.int (hi1 91 j6))) (rx_hp L t (rx_u hi1 91 j7 a2) hl1 v1)))) ∧ (¬ (((hi1 90 6) + (hi1 90 21)) ≤ 0) → Q (some (.int (-2 : Int32))) (rx_hp L t hi1 hl1 v1)))))))))))) : rx_me 204 [.ref 90, .int a0, .int a1, .int a2] (rx_hp L t hi hl v) Q := by
  show rx_aw 204 0 [.ref 90, .int a0, .int a1, .int a2, rx_no] [] (rx_hp L t hi hl v) Q
  refine rx_aw_s 3 (pc := 0) rfl ?_
  show rx_aw 204 3 [.ref 90, .int a0, .int a1, .int a2, rx_no] [.int a1, .int a0, .ref 90] (rx_hp L t hi hl v) Q
  refine rx_w_callI (j := 182) (pc := 3) rfl rfl rfl rfl rfl ?_
  refine rx_aw.mono k (fun r h2 k => ?_)
  obtain ⟨z1, rfl, hi1, hl1, v1, rfl, k⟩ := k
  refine ⟨z1, rfl, ?_⟩
  show rx_aw 204 6 [.ref 90, .int a0, .int a1, .int a2, rx_no] [.int z1] (rx_hp L t hi1 hl1 v1) Q
  refine rx_aw_s 1 (pc := 6) rfl ?_
  refine rx_w_if (c := z1 = 0) ⟨fun c2 => ?_, fun c2 => ?_⟩
  · have k := k.1 c2
    show rx_aw 204 30 [.ref 90, .int a0, .int a1, .int a2, rx_no] [] (rx_hp L t hi1 hl1 v1) Q
    refine rx_aw_s 1 (pc := 30) rfl ?_
    show rx_aw 204 32 [.ref 90, .int a0, .int a1, .int a2, rx_no] [.int (-2 : Int32)] (rx_hp L t hi1 hl1 v1) Q
    exact rx_aw_ret (pc := 32) rfl k
  · have k := k.2 c2
    show rx_aw 204 9 [.ref 90, .int a0, .int a1, .int a2, rx_no] [] (rx_hp L t hi1 hl1 v1) Q
    refine rx_aw_s 2 (pc := 9) rfl ?_
    refine rx_w_if (c := a2 < 0) ⟨fun c3 => ?_, fun c3 => ?_⟩
    · have k := k.1 c3
      show rx_aw 204 30 [.ref 90, .int a0, .int a1, .int a2, rx_no] [] (rx_hp L t hi1 hl1 v1) Q
      refine rx_aw_s 1 (pc := 30) rfl ?_
      show rx_aw 204 32 [.ref 90, .int a0, .int a1, .int a2, rx_no] [.int (-2 : Int32)] (rx_hp L t hi1 hl1 v1) Q
      exact rx_aw_ret (pc := 32) rfl k
    · have k := k.2 c3
      show rx_aw 204 13 [.ref 90, .int a0, .int a1, .int a2, rx_no] [] (rx_hp L t hi1 hl1 v1) Q
      refine rx_aw_s 3 (pc := 13) rfl ?_
      refine rx_w_if (c := (3 : Int32) < a2) ⟨fun c4 => ?_, fun c4 => ?_⟩
      · have k := k.1 c4
        show rx_aw 204 30 [.ref 90, .int a0, .int a1, .int a2, rx_no] [] (rx_hp L t hi1 hl1 v1) Q
        refine rx_aw_s 1 (pc := 30) rfl ?_
        show rx_aw 204 32 [.ref 90, .int a0, .int a1, .int a2, rx_no] [.int (-2 : Int32)] (rx_hp L t hi1 hl1 v1) Q
        exact rx_aw_ret (pc := 32) rfl k
      · have k := k.2 c4
        show rx_aw 204 18 [.ref 90, .int a0, .int a1, .int a2, rx_no] [] (rx_hp L t hi1 hl1 v1) Q
        refine rx_aw_s 6 (pc := 18) rfl ?_
        refine rx_w_if (c := ((hi1 90 6) + (hi1 90 21)) ≤ 0) ⟨fun c5 => ?_, fun c5 => ?_⟩
        · have k := k.1 c5
          show rx_aw 204 33 [.ref 90, .int a0, .int a1, .int a2, rx_no] [] (rx_hp L t hi1 hl1 v1) Q
          refine rx_aw_s 8 (pc := 33) rfl ?_
          show rx_aw 204 45 [.ref 90, .int a0, .int a1, .int a2, rx_no] [.int ((a1 * (hi1 90 0)) + a0), .ref 91] (rx_hp L t hi1 hl1 v1) Q
          obtain ⟨j6, ej6, hj6, k⟩ := k
          refine rx_aw_iald (pc := 45) (n := 64) j6 ej6 rfl rfl rfl hj6 (by decide) ?_
          show rx_aw 204 46 [.ref 90, .int a0, .int a1, .int a2, rx_no] [.int (hi1 91 j6)] (rx_hp L t hi1 hl1 v1) Q
          refine rx_aw_s 10 (pc := 46) rfl ?_
          show rx_aw 204 61 [.ref 90, .int a0, .int a1, .int a2, .int (hi1 91 j6)] [.int a2, .int ((a1 * (hi1 90 0)) + a0), .ref 91] (rx_hp L t hi1 hl1 v1) Q
          obtain ⟨j7, ej7, hj7, k⟩ := k
          refine rx_aw_iast (pc := 61) (n := 64) j7 ej7 rfl rfl (by decide) rfl hj7 (by decide) ?_
          show rx_aw 204 62 [.ref 90, .int a0, .int a1, .int a2, .int (hi1 91 j6)] [] (rx_hp L t (rx_u hi1 91 j7 a2) hl1 v1) Q
          refine rx_aw_s 1 (pc := 62) rfl ?_
          show rx_aw 204 64 [.ref 90, .int a0, .int a1, .int a2, .int (hi1 91 j6)] [.int (hi1 91 j6)] (rx_hp L t (rx_u hi1 91 j7 a2) hl1 v1) Q
          exact rx_aw_ret (pc := 64) rfl k
        · have k := k.2 c5
          show rx_aw 204 30 [.ref 90, .int a0, .int a1, .int a2, rx_no] [] (rx_hp L t hi1 hl1 v1) Q
          refine rx_aw_s 1 (pc := 30) rfl ?_
          show rx_aw 204 32 [.ref 90, .int a0, .int a1, .int a2, rx_no] [.int (-2 : Int32)] (rx_hp L t hi1 hl1 v1) Q
          exact rx_aw_ret (pc := 32) rfl k
set_option maxRecDepth 100000 in
/-- CartFloorModel.row(IZ)I -/
theorem w205_row_r {L : Nat} {t : List (Nat × Nat)} {hi : Nat → Nat → Int32} {hl : Nat → Nat → Int64} {v : Nat → Nat → Option Nat} {Q : Option Value → rx_H → Prop} {a0 : Int32} {a1 : Int32} (k : ((a0 < 0 → Q (some (.int (-2 : Int32))) (rx_hp L t hi hl v)) ∧ (¬ (a0 < 0) → (((hi 90 1) ≤ a0 → Q (some (.int (-2 : Int32))) (rx_hp L t hi hl v)) ∧ (¬ ((hi 90 1) ≤ a0) → ((((hi 90 6) + (hi 90 21)) ≤ 0 → (∃ j4 : Nat, a0 = nI j4 ∧ j4 < 8 ∧ (((hi 92 j4) = 0 → rx_aw 205 45 [.ref 90, .int a0, .int a1, .int (0 : Int32), .int (0 : Int32)] [] (rx_hp L t hi hl v) Q) ∧ (¬ ((hi 92 j4) = 0) → rx_aw 205 45 [.ref 90, .int a0, .int a1, .int (1 : Int32), .int (0 : Int32)] [] (rx_hp L t hi hl v) Q)))) ∧ (¬ (((hi 90 6) + (hi 90 21)) ≤ 0) → Q (some (.int (-2 : Int32))) (rx_hp L t hi hl v)))))))) : rx_me 205 [.ref 90, .int a0, .int a1] (rx_hp L t hi hl v) Q := by
  show rx_aw 205 0 [.ref 90, .int a0, .int a1, rx_no, rx_no] [] (rx_hp L t hi hl v) Q
  refine rx_aw_s 2 (pc := 0) rfl ?_
  refine rx_w_if (c := a0 < 0) ⟨fun c1 => ?_, fun c1 => ?_⟩
  · have k := k.1 c1
    show rx_aw 205 24 [.ref 90, .int a0, .int a1, rx_no, rx_no] [] (rx_hp L t hi hl v) Q
    refine rx_aw_s 1 (pc := 24) rfl ?_
    show rx_aw 205 26 [.ref 90, .int a0, .int a1, rx_no, rx_no] [.int (-2 : Int32)] (rx_hp L t hi hl v) Q
    exact rx_aw_ret (pc := 26) rfl k
  · have k := k.2 c1
    show rx_aw 205 4 [.ref 90, .int a0, .int a1, rx_no, rx_no] [] (rx_hp L t hi hl v) Q
    refine rx_aw_s 4 (pc := 4) rfl ?_
    refine rx_w_if (c := (hi 90 1) ≤ a0) ⟨fun c2 => ?_, fun c2 => ?_⟩
    · have k := k.1 c2
      show rx_aw 205 24 [.ref 90, .int a0, .int a1, rx_no, rx_no] [] (rx_hp L t hi hl v) Q
      refine rx_aw_s 1 (pc := 24) rfl ?_
      show rx_aw 205 26 [.ref 90, .int a0, .int a1, rx_no, rx_no] [.int (-2 : Int32)] (rx_hp L t hi hl v) Q
      exact rx_aw_ret (pc := 26) rfl k
    · have k := k.2 c2
      show rx_aw 205 12 [.ref 90, .int a0, .int a1, rx_no, rx_no] [] (rx_hp L t hi hl v) Q
      refine rx_aw_s 6 (pc := 12) rfl ?_
      refine rx_w_if (c := ((hi 90 6) + (hi 90 21)) ≤ 0) ⟨fun c3 => ?_, fun c3 => ?_⟩
      · have k := k.1 c3
        show rx_aw 205 27 [.ref 90, .int a0, .int a1, rx_no, rx_no] [] (rx_hp L t hi hl v) Q
        refine rx_aw_s 3 (pc := 27) rfl ?_
        show rx_aw 205 32 [.ref 90, .int a0, .int a1, rx_no, rx_no] [.int a0, .ref 92] (rx_hp L t hi hl v) Q
        obtain ⟨j4, ej4, hj4, k⟩ := k
        refine rx_aw_bald (pc := 32) (n := 8) j4 ej4 rfl (Or.inr rfl) (by decide) rfl hj4 (by decide) ?_
        show rx_aw 205 33 [.ref 90, .int a0, .int a1, rx_no, rx_no] [.int (hi 92 j4)] (rx_hp L t hi hl v) Q
        refine rx_aw_s 1 (pc := 33) rfl ?_
        refine rx_w_if (c := (hi 92 j4) = 0) ⟨fun c5 => ?_, fun c5 => ?_⟩
        · have k := k.1 c5
          show rx_aw 205 40 [.ref 90, .int a0, .int a1, rx_no, rx_no] [] (rx_hp L t hi hl v) Q
          refine rx_aw_s 4 (pc := 40) rfl ?_
          show rx_aw 205 45 [.ref 90, .int a0, .int a1, .int (0 : Int32), .int (0 : Int32)] [] (rx_hp L t hi hl v) Q
          exact k
        · have k := k.2 c5
          show rx_aw 205 36 [.ref 90, .int a0, .int a1, rx_no, rx_no] [] (rx_hp L t hi hl v) Q
          refine rx_aw_s 5 (pc := 36) rfl ?_
          show rx_aw 205 45 [.ref 90, .int a0, .int a1, .int (1 : Int32), .int (0 : Int32)] [] (rx_hp L t hi hl v) Q
          exact k
      · have k := k.2 c3
        show rx_aw 205 24 [.ref 90, .int a0, .int a1, rx_no, rx_no] [] (rx_hp L t hi hl v) Q
        refine rx_aw_s 1 (pc := 24) rfl ?_
        show rx_aw 205 26 [.ref 90, .int a0, .int a1, rx_no, rx_no] [.int (-2 : Int32)] (rx_hp L t hi hl v) Q
        exact rx_aw_ret (pc := 26) rfl k
set_option maxRecDepth 100000 in
theorem w205_row_r_45 {L : Nat} {t : List (Nat × Nat)} {hi : Nat → Nat → Int32} {hl : Nat → Nat → Int64} {v : Nat → Nat → Option Nat} {Q : Option Value → rx_H → Prop} {x1 : Int32} {x2 : Int32} {x3 : Int32} {x4 : Int32} (k : (((hi 90 0) ≤ x4 → (∃ j7 : Nat, x1 = nI j7 ∧ j7 < 8 ∧ Q (some (.int x3)) (rx_hp L t (rx_u hi 92 j7 (vp_nar .boolean x2)) hl v))) ∧ (¬ ((hi 90 0) ≤ x4) → ((x2 = 0 → (∃ j9 : Nat, x1 = nI j9 ∧ j9 < 8 ∧ (((hi 92 j9) = 0 → (∃ j11 : Nat, x1 = nI j11 ∧ j11 < 8 ∧ Q (some (.int x3)) (rx_hp L t (rx_u hi 92 j11 (vp_nar .boolean x2)) hl v))) ∧ (¬ ((hi 92 j9) = 0) → (∃ j12 : Nat, (((8 : Int32) * x1) + x4) = nI j12 ∧ j12 < 64 ∧ rx_aw 205 45 [.ref 90, .int x1, .int x2, .int x3, .int (x4 + (1 : Int32))] [] (rx_hp L t (rx_u hi 112 j12 (0 : Int32)) hl v) Q))))) ∧ (¬ (x2 = 0) → (∃ j13 : Nat, (((8 : Int32) * x1) + x4) = nI j13 ∧ j13 < 64 ∧ rx_aw 205 45 [.ref 90, .int x1, .int x2, .int x3, .int (x4 + (1 : Int32))] [] (rx_hp L t (rx_u hi 112 j13 (0 : Int32)) hl v) Q)))))) : rx_aw 205 45 [.ref 90, .int x1, .int x2, .int x3, .int x4] [] (rx_hp L t hi hl v) Q := by
  refine rx_aw_s 4 (pc := 45) rfl ?_
  refine rx_w_if (c := (hi 90 0) ≤ x4) ⟨fun c6 => ?_, fun c6 => ?_⟩
  · have k := k.1 c6
    show rx_aw 205 86 [.ref 90, .int x1, .int x2, .int x3, .int x4] [] (rx_hp L t hi hl v) Q
    refine rx_aw_s 4 (pc := 86) rfl ?_
    show rx_aw 205 92 [.ref 90, .int x1, .int x2, .int x3, .int x4] [.int x2, .int x1, .ref 92] (rx_hp L t hi hl v) Q
    obtain ⟨j7, ej7, hj7, k⟩ := k
    refine rx_aw_zast (pc := 92) (n := 8) j7 ej7 rfl rfl (by decide) rfl hj7 (by decide) ?_
    show rx_aw 205 93 [.ref 90, .int x1, .int x2, .int x3, .int x4] [] (rx_hp L t (rx_u hi 92 j7 (vp_nar .boolean x2)) hl v) Q
    refine rx_aw_s 1 (pc := 93) rfl ?_
    show rx_aw 205 94 [.ref 90, .int x1, .int x2, .int x3, .int x4] [.int x3] (rx_hp L t (rx_u hi 92 j7 (vp_nar .boolean x2)) hl v) Q
    exact rx_aw_ret (pc := 94) rfl k
  · have k := k.2 c6
    show rx_aw 205 54 [.ref 90, .int x1, .int x2, .int x3, .int x4] [] (rx_hp L t hi hl v) Q
    refine rx_aw_s 2 (pc := 54) rfl ?_
    refine rx_w_ifn (c := x2 = 0) ⟨fun c8 => ?_, fun c8 => ?_⟩
    · have k := k.1 c8
      show rx_aw 205 58 [.ref 90, .int x1, .int x2, .int x3, .int x4] [] (rx_hp L t hi hl v) Q
      refine rx_aw_s 3 (pc := 58) rfl ?_
      show rx_aw 205 63 [.ref 90, .int x1, .int x2, .int x3, .int x4] [.int x1, .ref 92] (rx_hp L t hi hl v) Q
      obtain ⟨j9, ej9, hj9, k⟩ := k
      refine rx_aw_bald (pc := 63) (n := 8) j9 ej9 rfl (Or.inr rfl) (by decide) rfl hj9 (by decide) ?_
      show rx_aw 205 64 [.ref 90, .int x1, .int x2, .int x3, .int x4] [.int (hi 92 j9)] (rx_hp L t hi hl v) Q
      refine rx_aw_s 1 (pc := 64) rfl ?_
      refine rx_w_if (c := (hi 92 j9) = 0) ⟨fun c10 => ?_, fun c10 => ?_⟩
      · have k := k.1 c10
        show rx_aw 205 86 [.ref 90, .int x1, .int x2, .int x3, .int x4] [] (rx_hp L t hi hl v) Q
        refine rx_aw_s 4 (pc := 86) rfl ?_
        show rx_aw 205 92 [.ref 90, .int x1, .int x2, .int x3, .int x4] [.int x2, .int x1, .ref 92] (rx_hp L t hi hl v) Q
        obtain ⟨j11, ej11, hj11, k⟩ := k
        refine rx_aw_zast (pc := 92) (n := 8) j11 ej11 rfl rfl (by decide) rfl hj11 (by decide) ?_
        show rx_aw 205 93 [.ref 90, .int x1, .int x2, .int x3, .int x4] [] (rx_hp L t (rx_u hi 92 j11 (vp_nar .boolean x2)) hl v) Q
        refine rx_aw_s 1 (pc := 93) rfl ?_
        show rx_aw 205 94 [.ref 90, .int x1, .int x2, .int x3, .int x4] [.int x3] (rx_hp L t (rx_u hi 92 j11 (vp_nar .boolean x2)) hl v) Q
        exact rx_aw_ret (pc := 94) rfl k
      · have k := k.2 c10
        show rx_aw 205 67 [.ref 90, .int x1, .int x2, .int x3, .int x4] [] (rx_hp L t hi hl v) Q
        refine rx_aw_s 8 (pc := 67) rfl ?_
        show rx_aw 205 79 [.ref 90, .int x1, .int x2, .int x3, .int x4] [.int (0 : Int32), .int (((8 : Int32) * x1) + x4), .ref 112] (rx_hp L t hi hl v) Q
        obtain ⟨j12, ej12, hj12, k⟩ := k
        refine rx_aw_iast (pc := 79) (n := 64) j12 ej12 rfl rfl (by decide) rfl hj12 (by decide) ?_
        show rx_aw 205 80 [.ref 90, .int x1, .int x2, .int x3, .int x4] [] (rx_hp L t (rx_u hi 112 j12 (0 : Int32)) hl v) Q
        refine rx_aw_s 2 (pc := 80) rfl ?_
        show rx_aw 205 45 [.ref 90, .int x1, .int x2, .int x3, .int (x4 + (1 : Int32))] [] (rx_hp L t (rx_u hi 112 j12 (0 : Int32)) hl v) Q
        exact k
    · have k := k.2 c8
      show rx_aw 205 67 [.ref 90, .int x1, .int x2, .int x3, .int x4] [] (rx_hp L t hi hl v) Q
      refine rx_aw_s 8 (pc := 67) rfl ?_
      show rx_aw 205 79 [.ref 90, .int x1, .int x2, .int x3, .int x4] [.int (0 : Int32), .int (((8 : Int32) * x1) + x4), .ref 112] (rx_hp L t hi hl v) Q
      obtain ⟨j13, ej13, hj13, k⟩ := k
      refine rx_aw_iast (pc := 79) (n := 64) j13 ej13 rfl rfl (by decide) rfl hj13 (by decide) ?_
      show rx_aw 205 80 [.ref 90, .int x1, .int x2, .int x3, .int x4] [] (rx_hp L t (rx_u hi 112 j13 (0 : Int32)) hl v) Q
      refine rx_aw_s 2 (pc := 80) rfl ?_
      show rx_aw 205 45 [.ref 90, .int x1, .int x2, .int x3, .int (x4 + (1 : Int32))] [] (rx_hp L t (rx_u hi 112 j13 (0 : Int32)) hl v) Q
      exact k
set_option maxRecDepth 100000 in
/-- CartFloorModel.shelf(II)I -/
theorem w206_shelf_r {L : Nat} {t : List (Nat × Nat)} {hi : Nat → Nat → Int32} {hl : Nat → Nat → Int64} {v : Nat → Nat → Option Nat} {Q : Option Value → rx_H → Prop} {a0 : Int32} {a1 : Int32} (k : rx_me 182 [.ref 90, .int a0, .int a1] (rx_hp L t hi hl v) (fun r h2 => ∃ z1 : Int32, r = some (.int z1) ∧ rx_ok2 L t h2 (fun hi1 hl1 v1 => ((z1 = 0 → Q (some (.int (-2 : Int32))) (rx_hp L t hi1 hl1 v1)) ∧ (¬ (z1 = 0) → rx_me 168 [.ref 90, .int ((a1 * (hi 90 0)) + a0)] (rx_hp L t hi1 hl1 v1) (fun r h2 => ∃ z3 : Int32, r = some (.int z3) ∧ rx_ok2 L t h2 (fun hi3 hl3 v3 => ((z3 = 0 → (∃ j5 : Nat, ((a1 * (hi 90 0)) + a0) = nI j5 ∧ j5 < 64 ∧ (((hi3 91 j5) = (2 : Int32) → rx_me 207 [.ref 90, .int ((a1 * (hi 90 0)) + a0)] (rx_hp L t hi3 hl3 v3) (fun r h2 => ∃ z7 : Int32, r = some (.int z7) ∧ rx_ok2 L t h2 (fun hi7 hl7 v7 => ((z7 = 0 → rx_me 208 [.ref 90] (rx_hp L t hi7 hl7 v7) (fun r h2 => ∃ z9 : Int64, r = some (.long z9) ∧ rx_ok2 L t h2 (fun hi9 hl9 v9 => rx_me 169 [.int ((a1 * (hi 90 0)) + a0)] (rx_hp L t hi9 hl9 v9) (fun r h2 => ∃ z10 : Int64, r = some (.long z10) ∧ rx_ok2 L t h2 (fun hi10 hl10 v10 => (((lg_cmp (z9 &&& z10) (0 : Int64)) = 0 → rx_me 209 [.ref 90] (rx_hp L t hi10 hl10 v10) (fun r h2 => ∃ z12 : Int32, r = some (.int z12) ∧ rx_ok2 L t h2 (fun hi12 hl12 v12 => ((z12 = 0 → (((hi12 90 21) = (12 : Int32) → Q (some (.int (-2 : Int32))) (rx_hp L t hi12 hl12 v12)) ∧ (¬ ((hi12 90 21) = (12 : Int32)) → (∃ j15 : Nat, (hi12 90 21) = nI j15 ∧ j15 < 12 ∧ rx_me 191 [.ref 90] (rx_hp L t (rx_u (rx_u hi12 107 j15 ((a1 * (hi 90 0)) + a0)) 90 21 (((rx_u hi12 107 j15 ((a1 * (hi 90 0)) + a0)) 90 21) + (1 : Int32))) hl12 v12) (fun r h2 => r = none ∧ rx_ok2 L t h2 (fun hi16 hl16 v16 => Q (some (.int ((hi16 90 21) - (1 : Int32)))) (rx_hp L t hi16 hl16 v16))))))) ∧ (¬ (z12 = 0) → Q (some (.int (-2 : Int32))) (rx_hp L t hi12 hl12 v12)))))) ∧ (¬ ((lg_cmp (z9 &&& z10) (0 : Int64)) = 0) → Q (some (.int (-2 : Int32))) (rx_hp L t hi10 hl10 v10)))))))) ∧ (¬ (z7 = 0) → Q (some (.int (-2 : Int32))) (rx_hp L t hi7 hl7 v7)))))) ∧ (¬ ((hi3 91 j5) = (2 : Int32)) → Q (some (.int (-2 : Int32))) (rx_hp L t hi3 hl3 v3))))) ∧ (¬ (z3 = 0) → Q (some (.int (-2 : Int32))) (rx_hp L t hi3 hl3 v3)))))))))) : rx_me 206 [.ref 90, .int a0, .int a1] (rx_hp L t hi hl v) Q := by
  show rx_aw 206 0 [.ref 90, .int a0, .int a1, rx_no] [] (rx_hp L t hi hl v) Q
  refine rx_aw_s 10 (pc := 0) rfl ?_
  show rx_aw 206 12 [.ref 90, .int a0, .int a1, .int ((a1 * (hi 90 0)) + a0)] [.int a1, .int a0, .ref 90] (rx_hp L t hi hl v) Q
  refine rx_w_callI (j := 182) (pc := 12) rfl rfl rfl rfl rfl ?_
  refine rx_aw.mono k (fun r h2 k => ?_)
  obtain ⟨z1, rfl, hi1, hl1, v1, rfl, k⟩ := k
  refine ⟨z1, rfl, ?_⟩
  show rx_aw 206 15 [.ref 90, .int a0, .int a1, .int ((a1 * (hi 90 0)) + a0)] [.int z1] (rx_hp L t hi1 hl1 v1) Q
  refine rx_aw_s 1 (pc := 15) rfl ?_
  refine rx_w_if (c := z1 = 0) ⟨fun c2 => ?_, fun c2 => ?_⟩
  · have k := k.1 c2
    show rx_aw 206 74 [.ref 90, .int a0, .int a1, .int ((a1 * (hi 90 0)) + a0)] [] (rx_hp L t hi1 hl1 v1) Q
    refine rx_aw_s 1 (pc := 74) rfl ?_
    show rx_aw 206 76 [.ref 90, .int a0, .int a1, .int ((a1 * (hi 90 0)) + a0)] [.int (-2 : Int32)] (rx_hp L t hi1 hl1 v1) Q
    exact rx_aw_ret (pc := 76) rfl k
  · have k := k.2 c2
    show rx_aw 206 18 [.ref 90, .int a0, .int a1, .int ((a1 * (hi 90 0)) + a0)] [] (rx_hp L t hi1 hl1 v1) Q
    refine rx_aw_s 2 (pc := 18) rfl ?_
    show rx_aw 206 20 [.ref 90, .int a0, .int a1, .int ((a1 * (hi 90 0)) + a0)] [.int ((a1 * (hi 90 0)) + a0), .ref 90] (rx_hp L t hi1 hl1 v1) Q
    refine rx_w_callI (j := 168) (pc := 20) rfl rfl rfl rfl rfl ?_
    refine rx_aw.mono k (fun r h2 k => ?_)
    obtain ⟨z3, rfl, hi3, hl3, v3, rfl, k⟩ := k
    refine ⟨z3, rfl, ?_⟩
    show rx_aw 206 23 [.ref 90, .int a0, .int a1, .int ((a1 * (hi 90 0)) + a0)] [.int z3] (rx_hp L t hi3 hl3 v3) Q
    refine rx_aw_s 1 (pc := 23) rfl ?_
    refine rx_w_ifn (c := z3 = 0) ⟨fun c4 => ?_, fun c4 => ?_⟩
    · have k := k.1 c4
      show rx_aw 206 26 [.ref 90, .int a0, .int a1, .int ((a1 * (hi 90 0)) + a0)] [] (rx_hp L t hi3 hl3 v3) Q
      refine rx_aw_s 3 (pc := 26) rfl ?_
      show rx_aw 206 31 [.ref 90, .int a0, .int a1, .int ((a1 * (hi 90 0)) + a0)] [.int ((a1 * (hi 90 0)) + a0), .ref 91] (rx_hp L t hi3 hl3 v3) Q
      obtain ⟨j5, ej5, hj5, k⟩ := k
      refine rx_aw_iald (pc := 31) (n := 64) j5 ej5 rfl rfl rfl hj5 (by decide) ?_
      show rx_aw 206 32 [.ref 90, .int a0, .int a1, .int ((a1 * (hi 90 0)) + a0)] [.int (hi3 91 j5)] (rx_hp L t hi3 hl3 v3) Q
      refine rx_aw_s 2 (pc := 32) rfl ?_
      refine rx_w_ifn (c := (hi3 91 j5) = (2 : Int32)) ⟨fun c6 => ?_, fun c6 => ?_⟩
      · have k := k.1 c6
        show rx_aw 206 36 [.ref 90, .int a0, .int a1, .int ((a1 * (hi 90 0)) + a0)] [] (rx_hp L t hi3 hl3 v3) Q
        refine rx_aw_s 2 (pc := 36) rfl ?_
        show rx_aw 206 38 [.ref 90, .int a0, .int a1, .int ((a1 * (hi 90 0)) + a0)] [.int ((a1 * (hi 90 0)) + a0), .ref 90] (rx_hp L t hi3 hl3 v3) Q
        refine rx_w_callI (j := 207) (pc := 38) rfl rfl rfl rfl rfl ?_
        refine rx_aw.mono k (fun r h2 k => ?_)
        obtain ⟨z7, rfl, hi7, hl7, v7, rfl, k⟩ := k
        refine ⟨z7, rfl, ?_⟩
        show rx_aw 206 41 [.ref 90, .int a0, .int a1, .int ((a1 * (hi 90 0)) + a0)] [.int z7] (rx_hp L t hi7 hl7 v7) Q
        refine rx_aw_s 1 (pc := 41) rfl ?_
        refine rx_w_ifn (c := z7 = 0) ⟨fun c8 => ?_, fun c8 => ?_⟩
        · have k := k.1 c8
          show rx_aw 206 44 [.ref 90, .int a0, .int a1, .int ((a1 * (hi 90 0)) + a0)] [] (rx_hp L t hi7 hl7 v7) Q
          refine rx_aw_s 1 (pc := 44) rfl ?_
          show rx_aw 206 45 [.ref 90, .int a0, .int a1, .int ((a1 * (hi 90 0)) + a0)] [.ref 90] (rx_hp L t hi7 hl7 v7) Q
          refine rx_w_callL (j := 208) (pc := 45) rfl rfl rfl rfl rfl ?_
          refine rx_aw.mono k (fun r h2 k => ?_)
          obtain ⟨z9, rfl, hi9, hl9, v9, rfl, k⟩ := k
          refine ⟨z9, rfl, ?_⟩
          show rx_aw 206 48 [.ref 90, .int a0, .int a1, .int ((a1 * (hi 90 0)) + a0)] [.long z9] (rx_hp L t hi9 hl9 v9) Q
          refine rx_aw_s 1 (pc := 48) rfl ?_
          show rx_aw 206 49 [.ref 90, .int a0, .int a1, .int ((a1 * (hi 90 0)) + a0)] [.int ((a1 * (hi 90 0)) + a0), .long z9] (rx_hp L t hi9 hl9 v9) Q
          refine rx_w_callL (j := 169) (pc := 49) rfl rfl rfl rfl rfl ?_
          refine rx_aw.mono k (fun r h2 k => ?_)
          obtain ⟨z10, rfl, hi10, hl10, v10, rfl, k⟩ := k
          refine ⟨z10, rfl, ?_⟩
          show rx_aw 206 52 [.ref 90, .int a0, .int a1, .int ((a1 * (hi 90 0)) + a0)] [.long z10, .long z9] (rx_hp L t hi10 hl10 v10) Q
          refine rx_aw_s 4 (pc := 52) rfl ?_
          refine rx_w_ifn (c := (lg_cmp (z9 &&& z10) (0 : Int64)) = 0) ⟨fun c11 => ?_, fun c11 => ?_⟩
          · have k := k.1 c11
            show rx_aw 206 58 [.ref 90, .int a0, .int a1, .int ((a1 * (hi 90 0)) + a0)] [] (rx_hp L t hi10 hl10 v10) Q
            refine rx_aw_s 1 (pc := 58) rfl ?_
            show rx_aw 206 59 [.ref 90, .int a0, .int a1, .int ((a1 * (hi 90 0)) + a0)] [.ref 90] (rx_hp L t hi10 hl10 v10) Q
            refine rx_w_callI (j := 209) (pc := 59) rfl rfl rfl rfl rfl ?_
            refine rx_aw.mono k (fun r h2 k => ?_)
            obtain ⟨z12, rfl, hi12, hl12, v12, rfl, k⟩ := k
            refine ⟨z12, rfl, ?_⟩
            show rx_aw 206 62 [.ref 90, .int a0, .int a1, .int ((a1 * (hi 90 0)) + a0)] [.int z12] (rx_hp L t hi12 hl12 v12) Q
            refine rx_aw_s 1 (pc := 62) rfl ?_
            refine rx_w_ifn (c := z12 = 0) ⟨fun c13 => ?_, fun c13 => ?_⟩
            · have k := k.1 c13
              show rx_aw 206 65 [.ref 90, .int a0, .int a1, .int ((a1 * (hi 90 0)) + a0)] [] (rx_hp L t hi12 hl12 v12) Q
              refine rx_aw_s 4 (pc := 65) rfl ?_
              refine rx_w_ifn (c := (hi12 90 21) = (12 : Int32)) ⟨fun c14 => ?_, fun c14 => ?_⟩
              · have k := k.1 c14
                show rx_aw 206 74 [.ref 90, .int a0, .int a1, .int ((a1 * (hi 90 0)) + a0)] [] (rx_hp L t hi12 hl12 v12) Q
                refine rx_aw_s 1 (pc := 74) rfl ?_
                show rx_aw 206 76 [.ref 90, .int a0, .int a1, .int ((a1 * (hi 90 0)) + a0)] [.int (-2 : Int32)] (rx_hp L t hi12 hl12 v12) Q
                exact rx_aw_ret (pc := 76) rfl k
              · have k := k.2 c14
                show rx_aw 206 77 [.ref 90, .int a0, .int a1, .int ((a1 * (hi 90 0)) + a0)] [] (rx_hp L t hi12 hl12 v12) Q
                refine rx_aw_s 5 (pc := 77) rfl ?_
                show rx_aw 206 86 [.ref 90, .int a0, .int a1, .int ((a1 * (hi 90 0)) + a0)] [.int ((a1 * (hi 90 0)) + a0), .int (hi12 90 21), .ref 107] (rx_hp L t hi12 hl12 v12) Q
                obtain ⟨j15, ej15, hj15, k⟩ := k
                refine rx_aw_iast (pc := 86) (n := 12) j15 ej15 rfl rfl (by decide) rfl hj15 (by decide) ?_
                show rx_aw 206 87 [.ref 90, .int a0, .int a1, .int ((a1 * (hi 90 0)) + a0)] [] (rx_hp L t (rx_u hi12 107 j15 ((a1 * (hi 90 0)) + a0)) hl12 v12) Q
                refine rx_aw_s 7 (pc := 87) rfl ?_
                show rx_aw 206 98 [.ref 90, .int a0, .int a1, .int ((a1 * (hi 90 0)) + a0)] [.ref 90] (rx_hp L t (rx_u (rx_u hi12 107 j15 ((a1 * (hi 90 0)) + a0)) 90 21 (((rx_u hi12 107 j15 ((a1 * (hi 90 0)) + a0)) 90 21) + (1 : Int32))) hl12 v12) Q
                refine rx_w_callV (j := 191) (pc := 98) rfl rfl rfl rfl rfl ?_
                refine rx_aw.mono k (fun r h2 k => ?_)
                obtain ⟨rfl, hi16, hl16, v16, rfl, k⟩ := k
                refine ⟨rfl, ?_⟩
                show rx_aw 206 101 [.ref 90, .int a0, .int a1, .int ((a1 * (hi 90 0)) + a0)] [] (rx_hp L t hi16 hl16 v16) Q
                refine rx_aw_s 4 (pc := 101) rfl ?_
                show rx_aw 206 107 [.ref 90, .int a0, .int a1, .int ((a1 * (hi 90 0)) + a0)] [.int ((hi16 90 21) - (1 : Int32))] (rx_hp L t hi16 hl16 v16) Q
                exact rx_aw_ret (pc := 107) rfl k
            · have k := k.2 c13
              show rx_aw 206 74 [.ref 90, .int a0, .int a1, .int ((a1 * (hi 90 0)) + a0)] [] (rx_hp L t hi12 hl12 v12) Q
              refine rx_aw_s 1 (pc := 74) rfl ?_
              show rx_aw 206 76 [.ref 90, .int a0, .int a1, .int ((a1 * (hi 90 0)) + a0)] [.int (-2 : Int32)] (rx_hp L t hi12 hl12 v12) Q
              exact rx_aw_ret (pc := 76) rfl k
          · have k := k.2 c11
            show rx_aw 206 74 [.ref 90, .int a0, .int a1, .int ((a1 * (hi 90 0)) + a0)] [] (rx_hp L t hi10 hl10 v10) Q
            refine rx_aw_s 1 (pc := 74) rfl ?_
            show rx_aw 206 76 [.ref 90, .int a0, .int a1, .int ((a1 * (hi 90 0)) + a0)] [.int (-2 : Int32)] (rx_hp L t hi10 hl10 v10) Q
            exact rx_aw_ret (pc := 76) rfl k
        · have k := k.2 c8
          show rx_aw 206 74 [.ref 90, .int a0, .int a1, .int ((a1 * (hi 90 0)) + a0)] [] (rx_hp L t hi7 hl7 v7) Q
          refine rx_aw_s 1 (pc := 74) rfl ?_
          show rx_aw 206 76 [.ref 90, .int a0, .int a1, .int ((a1 * (hi 90 0)) + a0)] [.int (-2 : Int32)] (rx_hp L t hi7 hl7 v7) Q
          exact rx_aw_ret (pc := 76) rfl k
      · have k := k.2 c6
        show rx_aw 206 74 [.ref 90, .int a0, .int a1, .int ((a1 * (hi 90 0)) + a0)] [] (rx_hp L t hi3 hl3 v3) Q
        refine rx_aw_s 1 (pc := 74) rfl ?_
        show rx_aw 206 76 [.ref 90, .int a0, .int a1, .int ((a1 * (hi 90 0)) + a0)] [.int (-2 : Int32)] (rx_hp L t hi3 hl3 v3) Q
        exact rx_aw_ret (pc := 76) rfl k
    · have k := k.2 c4
      show rx_aw 206 74 [.ref 90, .int a0, .int a1, .int ((a1 * (hi 90 0)) + a0)] [] (rx_hp L t hi3 hl3 v3) Q
      refine rx_aw_s 1 (pc := 74) rfl ?_
      show rx_aw 206 76 [.ref 90, .int a0, .int a1, .int ((a1 * (hi 90 0)) + a0)] [.int (-2 : Int32)] (rx_hp L t hi3 hl3 v3) Q
      exact rx_aw_ret (pc := 76) rfl k
set_option maxRecDepth 100000 in
/-- CartFloorModel.isShelfOn(I)Z -/
theorem w207_isShelfOn_r {L : Nat} {t : List (Nat × Nat)} {hi : Nat → Nat → Int32} {hl : Nat → Nat → Int64} {v : Nat → Nat → Option Nat} {Q : Option Value → rx_H → Prop} {a0 : Int32} (k : rx_aw 207 4 [.ref 90, .int a0, .int (0 : Int32), .int (0 : Int32)] [] (rx_hp L t hi hl v) Q) : rx_me 207 [.ref 90, .int a0] (rx_hp L t hi hl v) Q := by
  show rx_aw 207 0 [.ref 90, .int a0, rx_no, rx_no] [] (rx_hp L t hi hl v) Q
  refine rx_aw_s 4 (pc := 0) rfl ?_
  show rx_aw 207 4 [.ref 90, .int a0, .int (0 : Int32), .int (0 : Int32)] [] (rx_hp L t hi hl v) Q
  exact k
set_option maxRecDepth 100000 in
theorem w207_isShelfOn_r_4 {L : Nat} {t : List (Nat × Nat)} {hi : Nat → Nat → Int32} {hl : Nat → Nat → Int64} {v : Nat → Nat → Option Nat} {Q : Option Value → rx_H → Prop} {x1 : Int32} {x2 : Int32} {x3 : Int32} (k : (((hi 90 21) ≤ x3 → ((x2 = 0 ∨ x2 = 1) ∧ Q (some (.int x2)) (rx_hp L t hi hl v))) ∧ (¬ ((hi 90 21) ≤ x3) → (∃ j2 : Nat, ((402 : Int32) * x3) = nI j2 ∧ j2 < 4824 ∧ (((hi 108 j2) = x1 → rx_aw 207 4 [.ref 90, .int x1, .int (x2 ||| (1 : Int32)), .int (x3 + (1 : Int32))] [] (rx_hp L t hi hl v) Q) ∧ (¬ ((hi 108 j2) = x1) → rx_aw 207 4 [.ref 90, .int x1, .int (x2 ||| (0 : Int32)), .int (x3 + (1 : Int32))] [] (rx_hp L t hi hl v) Q)))))) : rx_aw 207 4 [.ref 90, .int x1, .int x2, .int x3] [] (rx_hp L t hi hl v) Q := by
  refine rx_aw_s 4 (pc := 4) rfl ?_
  refine rx_w_if (c := (hi 90 21) ≤ x3) ⟨fun c1 => ?_, fun c1 => ?_⟩
  · have k := k.1 c1
    show rx_aw 207 40 [.ref 90, .int x1, .int x2, .int x3] [] (rx_hp L t hi hl v) Q
    refine rx_aw_s 1 (pc := 40) rfl ?_
    show rx_aw 207 41 [.ref 90, .int x1, .int x2, .int x3] [.int x2] (rx_hp L t hi hl v) Q
    exact rx_w_zret (pc := 41) rfl rfl k
  · have k := k.2 c1
    show rx_aw 207 12 [.ref 90, .int x1, .int x2, .int x3] [] (rx_hp L t hi hl v) Q
    refine rx_aw_s 6 (pc := 12) rfl ?_
    show rx_aw 207 22 [.ref 90, .int x1, .int x2, .int x3] [.int ((402 : Int32) * x3), .ref 108, .int x2] (rx_hp L t hi hl v) Q
    obtain ⟨j2, ej2, hj2, k⟩ := k
    refine rx_aw_iald (pc := 22) (n := 4824) j2 ej2 rfl rfl rfl hj2 (by decide) ?_
    show rx_aw 207 23 [.ref 90, .int x1, .int x2, .int x3] [.int (hi 108 j2), .int x2] (rx_hp L t hi hl v) Q
    refine rx_aw_s 2 (pc := 23) rfl ?_
    refine rx_w_ifn (c := (hi 108 j2) = x1) ⟨fun c3 => ?_, fun c3 => ?_⟩
    · have k := k.1 c3
      show rx_aw 207 27 [.ref 90, .int x1, .int x2, .int x3] [.int x2] (rx_hp L t hi hl v) Q
      refine rx_aw_s 6 (pc := 27) rfl ?_
      show rx_aw 207 4 [.ref 90, .int x1, .int (x2 ||| (1 : Int32)), .int (x3 + (1 : Int32))] [] (rx_hp L t hi hl v) Q
      exact k
    · have k := k.2 c3
      show rx_aw 207 31 [.ref 90, .int x1, .int x2, .int x3] [.int x2] (rx_hp L t hi hl v) Q
      refine rx_aw_s 5 (pc := 31) rfl ?_
      show rx_aw 207 4 [.ref 90, .int x1, .int (x2 ||| (0 : Int32)), .int (x3 + (1 : Int32))] [] (rx_hp L t hi hl v) Q
      exact k
set_option maxRecDepth 100000 in
/-- CartFloorModel.allStands()J -/
theorem w208_allStands_r {L : Nat} {t : List (Nat × Nat)} {hi : Nat → Nat → Int32} {hl : Nat → Nat → Int64} {v : Nat → Nat → Option Nat} {Q : Option Value → rx_H → Prop}  (k : rx_aw 208 4 [.ref 90, .long (0 : Int64), rx_no, .int (0 : Int32)] [] (rx_hp L t hi hl v) Q) : rx_me 208 [.ref 90] (rx_hp L t hi hl v) Q := by
  show rx_aw 208 0 [.ref 90, rx_no, rx_no, rx_no] [] (rx_hp L t hi hl v) Q
  refine rx_aw_s 4 (pc := 0) rfl ?_
  show rx_aw 208 4 [.ref 90, .long (0 : Int64), rx_no, .int (0 : Int32)] [] (rx_hp L t hi hl v) Q
  exact k
set_option maxRecDepth 100000 in
theorem w208_allStands_r_4 {L : Nat} {t : List (Nat × Nat)} {hi : Nat → Nat → Int32} {hl : Nat → Nat → Int64} {v : Nat → Nat → Option Nat} {Q : Option Value → rx_H → Prop} {x1 : Int64} {x3 : Int32} (k : (((hi 90 6) ≤ x3 → Q (some (.long x1)) (rx_hp L t hi hl v)) ∧ (¬ ((hi 90 6) ≤ x3) → (∃ j2 : Nat, ((402 : Int32) * x3) = nI j2 ∧ j2 < 2412 ∧ rx_aw 208 4 [.ref 90, .long (x1 ||| (hl 105 j2)), rx_no, .int (x3 + (1 : Int32))] [] (rx_hp L t hi hl v) Q)))) : rx_aw 208 4 [.ref 90, .long x1, rx_no, .int x3] [] (rx_hp L t hi hl v) Q := by
  refine rx_aw_s 4 (pc := 4) rfl ?_
  refine rx_w_if (c := (hi 90 6) ≤ x3) ⟨fun c1 => ?_, fun c1 => ?_⟩
  · have k := k.1 c1
    show rx_aw 208 31 [.ref 90, .long x1, rx_no, .int x3] [] (rx_hp L t hi hl v) Q
    refine rx_aw_s 1 (pc := 31) rfl ?_
    show rx_aw 208 32 [.ref 90, .long x1, rx_no, .int x3] [.long x1] (rx_hp L t hi hl v) Q
    exact rx_aw_ret (pc := 32) rfl k
  · have k := k.2 c1
    show rx_aw 208 12 [.ref 90, .long x1, rx_no, .int x3] [] (rx_hp L t hi hl v) Q
    refine rx_aw_s 6 (pc := 12) rfl ?_
    show rx_aw 208 22 [.ref 90, .long x1, rx_no, .int x3] [.int ((402 : Int32) * x3), .ref 105, .long x1] (rx_hp L t hi hl v) Q
    obtain ⟨j2, ej2, hj2, k⟩ := k
    refine rx_aw_lald (pc := 22) (n := 2412) j2 ej2 rfl rfl (by decide) rfl hj2 (by decide) ?_
    show rx_aw 208 23 [.ref 90, .long x1, rx_no, .int x3] [.long (hl 105 j2), .long x1] (rx_hp L t hi hl v) Q
    refine rx_aw_s 4 (pc := 23) rfl ?_
    show rx_aw 208 4 [.ref 90, .long (x1 ||| (hl 105 j2)), rx_no, .int (x3 + (1 : Int32))] [] (rx_hp L t hi hl v) Q
    exact k
set_option maxRecDepth 100000 in
/-- CartFloorModel.isAnyMove()Z -/
theorem w209_isAnyMove_r {L : Nat} {t : List (Nat × Nat)} {hi : Nat → Nat → Int32} {hl : Nat → Nat → Int64} {v : Nat → Nat → Option Nat} {Q : Option Value → rx_H → Prop}  (k : rx_aw 209 4 [.ref 90, .int (0 : Int32), .int (0 : Int32)] [] (rx_hp L t hi hl v) Q) : rx_me 209 [.ref 90] (rx_hp L t hi hl v) Q := by
  show rx_aw 209 0 [.ref 90, rx_no, rx_no] [] (rx_hp L t hi hl v) Q
  refine rx_aw_s 4 (pc := 0) rfl ?_
  show rx_aw 209 4 [.ref 90, .int (0 : Int32), .int (0 : Int32)] [] (rx_hp L t hi hl v) Q
  exact k
set_option maxRecDepth 100000 in
theorem w209_isAnyMove_r_4 {L : Nat} {t : List (Nat × Nat)} {hi : Nat → Nat → Int32} {hl : Nat → Nat → Int64} {v : Nat → Nat → Option Nat} {Q : Option Value → rx_H → Prop} {x1 : Int32} {x2 : Int32} (k : (((hi 90 6) ≤ x2 → ((x1 = 0 ∨ x1 = 1) ∧ Q (some (.int x1)) (rx_hp L t hi hl v))) ∧ (¬ ((hi 90 6) ≤ x2) → (∃ j2 : Nat, x2 = nI j2 ∧ j2 < 6 ∧ (((hi 94 j2) ≤ 0 → rx_aw 209 4 [.ref 90, .int (x1 ||| (0 : Int32)), .int (x2 + (1 : Int32))] [] (rx_hp L t hi hl v) Q) ∧ (¬ ((hi 94 j2) ≤ 0) → rx_aw 209 4 [.ref 90, .int (x1 ||| (1 : Int32)), .int (x2 + (1 : Int32))] [] (rx_hp L t hi hl v) Q)))))) : rx_aw 209 4 [.ref 90, .int x1, .int x2] [] (rx_hp L t hi hl v) Q := by
  refine rx_aw_s 4 (pc := 4) rfl ?_
  refine rx_w_if (c := (hi 90 6) ≤ x2) ⟨fun c1 => ?_, fun c1 => ?_⟩
  · have k := k.1 c1
    show rx_aw 209 35 [.ref 90, .int x1, .int x2] [] (rx_hp L t hi hl v) Q
    refine rx_aw_s 1 (pc := 35) rfl ?_
    show rx_aw 209 36 [.ref 90, .int x1, .int x2] [.int x1] (rx_hp L t hi hl v) Q
    exact rx_w_zret (pc := 36) rfl rfl k
  · have k := k.2 c1
    show rx_aw 209 12 [.ref 90, .int x1, .int x2] [] (rx_hp L t hi hl v) Q
    refine rx_aw_s 4 (pc := 12) rfl ?_
    show rx_aw 209 18 [.ref 90, .int x1, .int x2] [.int x2, .ref 94, .int x1] (rx_hp L t hi hl v) Q
    obtain ⟨j2, ej2, hj2, k⟩ := k
    refine rx_aw_iald (pc := 18) (n := 6) j2 ej2 rfl rfl rfl hj2 (by decide) ?_
    show rx_aw 209 19 [.ref 90, .int x1, .int x2] [.int (hi 94 j2), .int x1] (rx_hp L t hi hl v) Q
    refine rx_aw_s 1 (pc := 19) rfl ?_
    refine rx_w_if (c := (hi 94 j2) ≤ 0) ⟨fun c3 => ?_, fun c3 => ?_⟩
    · have k := k.1 c3
      show rx_aw 209 26 [.ref 90, .int x1, .int x2] [.int x1] (rx_hp L t hi hl v) Q
      refine rx_aw_s 5 (pc := 26) rfl ?_
      show rx_aw 209 4 [.ref 90, .int (x1 ||| (0 : Int32)), .int (x2 + (1 : Int32))] [] (rx_hp L t hi hl v) Q
      exact k
    · have k := k.2 c3
      show rx_aw 209 22 [.ref 90, .int x1, .int x2] [.int x1] (rx_hp L t hi hl v) Q
      refine rx_aw_s 6 (pc := 22) rfl ?_
      show rx_aw 209 4 [.ref 90, .int (x1 ||| (1 : Int32)), .int (x2 + (1 : Int32))] [] (rx_hp L t hi hl v) Q
      exact k
set_option maxRecDepth 100000 in
/-- CartFloorModel.cart(IIII)I -/
theorem w210_cart_r {L : Nat} {t : List (Nat × Nat)} {hi : Nat → Nat → Int32} {hl : Nat → Nat → Int64} {v : Nat → Nat → Option Nat} {Q : Option Value → rx_H → Prop} {a0 : Int32} {a1 : Int32} {a2 : Int32} {a3 : Int32} (k : ((a0 < 0 → Q (some (.int (-2 : Int32))) (rx_hp L t hi hl v)) ∧ (¬ (a0 < 0) → (((3 : Int32) < a0 → Q (some (.int (-2 : Int32))) (rx_hp L t hi hl v)) ∧ (¬ ((3 : Int32) < a0) → rx_me 182 [.ref 90, .int a1, .int a2] (rx_hp L t hi hl v) (fun r h2 => ∃ z3 : Int32, r = some (.int z3) ∧ rx_ok2 L t h2 (fun hi3 hl3 v3 => ((z3 = 0 → Q (some (.int (-2 : Int32))) (rx_hp L t hi3 hl3 v3)) ∧ (¬ (z3 = 0) → ((a3 < 0 → Q (some (.int (-2 : Int32))) (rx_hp L t hi3 hl3 v3)) ∧ (¬ (a3 < 0) → (((3 : Int32) < a3 → Q (some (.int (-2 : Int32))) (rx_hp L t hi3 hl3 v3)) ∧ (¬ ((3 : Int32) < a3) → rx_me 209 [.ref 90] (rx_hp L t hi3 hl3 v3) (fun r h2 => ∃ z7 : Int32, r = some (.int z7) ∧ rx_ok2 L t h2 (fun hi7 hl7 v7 => ((z7 = 0 → (((hi7 90 6) = (6 : Int32) → Q (some (.int (-2 : Int32))) (rx_hp L t hi7 hl7 v7)) ∧ (¬ ((hi7 90 6) = (6 : Int32)) → rx_me 179 [.ref 90, .int a0, .int ((a2 * (hi7 90 0)) + a1), .int a3] (rx_hp L t hi7 hl7 v7) (fun r h2 => ∃ z10 : Int64, r = some (.long z10) ∧ rx_ok2 L t h2 (fun hi10 hl10 v10 => (((lg_cmp z10 (0 : Int64)) = 0 → Q (some (.int (-2 : Int32))) (rx_hp L t hi10 hl10 v10)) ∧ (¬ ((lg_cmp z10 (0 : Int64)) = 0) → rx_me 208 [.ref 90] (rx_hp L t hi10 hl10 v10) (fun r h2 => ∃ z12 : Int64, r = some (.long z12) ∧ rx_ok2 L t h2 (fun hi12 hl12 v12 => rx_me 167 [.ref 90] (rx_hp L t hi12 hl12 v12) (fun r h2 => ∃ z13 : Int64, r = some (.long z13) ∧ rx_ok2 L t h2 (fun hi13 hl13 v13 => (((lg_cmp (z10 &&& (z12 ||| z13)) (0 : Int64)) = 0 → ((a0 = (1 : Int32) → (∃ j16 : Nat, (hi13 90 6) = nI j16 ∧ j16 < 6 ∧ (∃ j17 : Nat, (hi13 90 6) = nI j17 ∧ j17 < 6 ∧ (∃ j18 : Nat, ((402 : Int32) * (hi13 90 6)) = nI j18 ∧ j18 < 2412 ∧ (∃ j19 : Nat, ((402 : Int32) * (hi13 90 6)) = nI j19 ∧ j19 < 2412 ∧ (∃ j20 : Nat, ((402 : Int32) * (hi13 90 6)) = nI j20 ∧ j20 < 2412 ∧ (∃ j21 : Nat, (hi13 90 6) = nI j21 ∧ j21 < 6 ∧ (∃ j22 : Nat, (hi13 90 6) = nI j22 ∧ j22 < 6 ∧ (∃ j23 : Nat, (hi13 90 6) = nI j23 ∧ j23 < 6 ∧ rx_me 191 [.ref 90] (rx_hp L t (rx_u (rx_u (rx_u (rx_u (rx_u (rx_u (rx_u (rx_u (rx_u hi13 93 j16 a0) 94 j17 (0 : Int32)) 101 j18 ((a2 * (hi7 90 0)) + a1)) 102 j19 a3) 103 j20 (-1 : Int32)) 96 j21 (vp_nar .boolean (0 : Int32))) 99 j22 (vp_nar .boolean (0 : Int32))) 100 j23 (0 : Int32)) 90 6 (((rx_u (rx_u (rx_u (rx_u (rx_u (rx_u (rx_u (rx_u hi13 93 j16 a0) 94 j17 (0 : Int32)) 101 j18 ((a2 * (hi7 90 0)) + a1)) 102 j19 a3) 103 j20 (-1 : Int32)) 96 j21 (vp_nar .boolean (0 : Int32))) 99 j22 (vp_nar .boolean (0 : Int32))) 100 j23 (0 : Int32)) 90 6) + (1 : Int32))) hl13 v13) (fun r h2 => r = none ∧ rx_ok2 L t h2 (fun hi24 hl24 v24 => Q (some (.int (hi13 90 6))) (rx_hp L t hi24 hl24 v24)))))))))))) ∧ (¬ (a0 = (1 : Int32)) → rx_me 171 [.ref 90, .int (0 : Int32), .int (-1 : Int32)] (rx_hp L t hi13 hl13 v13) (fun r h2 => ∃ z25 : Int64, r = some (.long z25) ∧ rx_ok2 L t h2 (fun hi25 hl25 v25 => (((lg_cmp (z10 &&& z25) (0 : Int64)) = 0 → (∃ j27 : Nat, (hi25 90 6) = nI j27 ∧ j27 < 6 ∧ (∃ j28 : Nat, (hi25 90 6) = nI j28 ∧ j28 < 6 ∧ (∃ j29 : Nat, ((402 : Int32) * (hi25 90 6)) = nI j29 ∧ j29 < 2412 ∧ (∃ j30 : Nat, ((402 : Int32) * (hi25 90 6)) = nI j30 ∧ j30 < 2412 ∧ (∃ j31 : Nat, ((402 : Int32) * (hi25 90 6)) = nI j31 ∧ j31 < 2412 ∧ (∃ j32 : Nat, (hi25 90 6) = nI j32 ∧ j32 < 6 ∧ (∃ j33 : Nat, (hi25 90 6) = nI j33 ∧ j33 < 6 ∧ (∃ j34 : Nat, (hi25 90 6) = nI j34 ∧ j34 < 6 ∧ rx_me 191 [.ref 90] (rx_hp L t (rx_u (rx_u (rx_u (rx_u (rx_u (rx_u (rx_u (rx_u (rx_u hi25 93 j27 a0) 94 j28 (0 : Int32)) 101 j29 ((a2 * (hi7 90 0)) + a1)) 102 j30 a3) 103 j31 (-1 : Int32)) 96 j32 (vp_nar .boolean (0 : Int32))) 99 j33 (vp_nar .boolean (0 : Int32))) 100 j34 (0 : Int32)) 90 6 (((rx_u (rx_u (rx_u (rx_u (rx_u (rx_u (rx_u (rx_u hi25 93 j27 a0) 94 j28 (0 : Int32)) 101 j29 ((a2 * (hi7 90 0)) + a1)) 102 j30 a3) 103 j31 (-1 : Int32)) 96 j32 (vp_nar .boolean (0 : Int32))) 99 j33 (vp_nar .boolean (0 : Int32))) 100 j34 (0 : Int32)) 90 6) + (1 : Int32))) hl25 v25) (fun r h2 => r = none ∧ rx_ok2 L t h2 (fun hi35 hl35 v35 => Q (some (.int (hi25 90 6))) (rx_hp L t hi35 hl35 v35)))))))))))) ∧ (¬ ((lg_cmp (z10 &&& z25) (0 : Int64)) = 0) → Q (some (.int (-2 : Int32))) (rx_hp L t hi25 hl25 v25)))))))) ∧ (¬ ((lg_cmp (z10 &&& (z12 ||| z13)) (0 : Int64)) = 0) → Q (some (.int (-2 : Int32))) (rx_hp L t hi13 hl13 v13)))))))))))))) ∧ (¬ (z7 = 0) → Q (some (.int (-2 : Int32))) (rx_hp L t hi7 hl7 v7)))))))))))))))))) : rx_me 210 [.ref 90, .int a0, .int a1, .int a2, .int a3] (rx_hp L t hi hl v) Q := by
  show rx_aw 210 0 [.ref 90, .int a0, .int a1, .int a2, .int a3, rx_no, rx_no, rx_no, rx_no] [] (rx_hp L t hi hl v) Q
  refine rx_aw_s 2 (pc := 0) rfl ?_
  refine rx_w_if (c := a0 < 0) ⟨fun c1 => ?_, fun c1 => ?_⟩
  · have k := k.1 c1
    show rx_aw 210 45 [.ref 90, .int a0, .int a1, .int a2, .int a3, rx_no, rx_no, rx_no, rx_no] [] (rx_hp L t hi hl v) Q
    refine rx_aw_s 1 (pc := 45) rfl ?_
    show rx_aw 210 47 [.ref 90, .int a0, .int a1, .int a2, .int a3, rx_no, rx_no, rx_no, rx_no] [.int (-2 : Int32)] (rx_hp L t hi hl v) Q
    exact rx_aw_ret (pc := 47) rfl k
  · have k := k.2 c1
    show rx_aw 210 4 [.ref 90, .int a0, .int a1, .int a2, .int a3, rx_no, rx_no, rx_no, rx_no] [] (rx_hp L t hi hl v) Q
    refine rx_aw_s 3 (pc := 4) rfl ?_
    refine rx_w_if (c := (3 : Int32) < a0) ⟨fun c2 => ?_, fun c2 => ?_⟩
    · have k := k.1 c2
      show rx_aw 210 45 [.ref 90, .int a0, .int a1, .int a2, .int a3, rx_no, rx_no, rx_no, rx_no] [] (rx_hp L t hi hl v) Q
      refine rx_aw_s 1 (pc := 45) rfl ?_
      show rx_aw 210 47 [.ref 90, .int a0, .int a1, .int a2, .int a3, rx_no, rx_no, rx_no, rx_no] [.int (-2 : Int32)] (rx_hp L t hi hl v) Q
      exact rx_aw_ret (pc := 47) rfl k
    · have k := k.2 c2
      show rx_aw 210 9 [.ref 90, .int a0, .int a1, .int a2, .int a3, rx_no, rx_no, rx_no, rx_no] [] (rx_hp L t hi hl v) Q
      refine rx_aw_s 3 (pc := 9) rfl ?_
      show rx_aw 210 12 [.ref 90, .int a0, .int a1, .int a2, .int a3, rx_no, rx_no, rx_no, rx_no] [.int a2, .int a1, .ref 90] (rx_hp L t hi hl v) Q
      refine rx_w_callI (j := 182) (pc := 12) rfl rfl rfl rfl rfl ?_
      refine rx_aw.mono k (fun r h2 k => ?_)
      obtain ⟨z3, rfl, hi3, hl3, v3, rfl, k⟩ := k
      refine ⟨z3, rfl, ?_⟩
      show rx_aw 210 15 [.ref 90, .int a0, .int a1, .int a2, .int a3, rx_no, rx_no, rx_no, rx_no] [.int z3] (rx_hp L t hi3 hl3 v3) Q
      refine rx_aw_s 1 (pc := 15) rfl ?_
      refine rx_w_if (c := z3 = 0) ⟨fun c4 => ?_, fun c4 => ?_⟩
      · have k := k.1 c4
        show rx_aw 210 45 [.ref 90, .int a0, .int a1, .int a2, .int a3, rx_no, rx_no, rx_no, rx_no] [] (rx_hp L t hi3 hl3 v3) Q
        refine rx_aw_s 1 (pc := 45) rfl ?_
        show rx_aw 210 47 [.ref 90, .int a0, .int a1, .int a2, .int a3, rx_no, rx_no, rx_no, rx_no] [.int (-2 : Int32)] (rx_hp L t hi3 hl3 v3) Q
        exact rx_aw_ret (pc := 47) rfl k
      · have k := k.2 c4
        show rx_aw 210 18 [.ref 90, .int a0, .int a1, .int a2, .int a3, rx_no, rx_no, rx_no, rx_no] [] (rx_hp L t hi3 hl3 v3) Q
        refine rx_aw_s 2 (pc := 18) rfl ?_
        refine rx_w_if (c := a3 < 0) ⟨fun c5 => ?_, fun c5 => ?_⟩
        · have k := k.1 c5
          show rx_aw 210 45 [.ref 90, .int a0, .int a1, .int a2, .int a3, rx_no, rx_no, rx_no, rx_no] [] (rx_hp L t hi3 hl3 v3) Q
          refine rx_aw_s 1 (pc := 45) rfl ?_
          show rx_aw 210 47 [.ref 90, .int a0, .int a1, .int a2, .int a3, rx_no, rx_no, rx_no, rx_no] [.int (-2 : Int32)] (rx_hp L t hi3 hl3 v3) Q
          exact rx_aw_ret (pc := 47) rfl k
        · have k := k.2 c5
          show rx_aw 210 23 [.ref 90, .int a0, .int a1, .int a2, .int a3, rx_no, rx_no, rx_no, rx_no] [] (rx_hp L t hi3 hl3 v3) Q
          refine rx_aw_s 3 (pc := 23) rfl ?_
          refine rx_w_if (c := (3 : Int32) < a3) ⟨fun c6 => ?_, fun c6 => ?_⟩
          · have k := k.1 c6
            show rx_aw 210 45 [.ref 90, .int a0, .int a1, .int a2, .int a3, rx_no, rx_no, rx_no, rx_no] [] (rx_hp L t hi3 hl3 v3) Q
            refine rx_aw_s 1 (pc := 45) rfl ?_
            show rx_aw 210 47 [.ref 90, .int a0, .int a1, .int a2, .int a3, rx_no, rx_no, rx_no, rx_no] [.int (-2 : Int32)] (rx_hp L t hi3 hl3 v3) Q
            exact rx_aw_ret (pc := 47) rfl k
          · have k := k.2 c6
            show rx_aw 210 29 [.ref 90, .int a0, .int a1, .int a2, .int a3, rx_no, rx_no, rx_no, rx_no] [] (rx_hp L t hi3 hl3 v3) Q
            refine rx_aw_s 1 (pc := 29) rfl ?_
            show rx_aw 210 30 [.ref 90, .int a0, .int a1, .int a2, .int a3, rx_no, rx_no, rx_no, rx_no] [.ref 90] (rx_hp L t hi3 hl3 v3) Q
            refine rx_w_callI (j := 209) (pc := 30) rfl rfl rfl rfl rfl ?_
            refine rx_aw.mono k (fun r h2 k => ?_)
            obtain ⟨z7, rfl, hi7, hl7, v7, rfl, k⟩ := k
            refine ⟨z7, rfl, ?_⟩
            show rx_aw 210 33 [.ref 90, .int a0, .int a1, .int a2, .int a3, rx_no, rx_no, rx_no, rx_no] [.int z7] (rx_hp L t hi7 hl7 v7) Q
            refine rx_aw_s 1 (pc := 33) rfl ?_
            refine rx_w_ifn (c := z7 = 0) ⟨fun c8 => ?_, fun c8 => ?_⟩
            · have k := k.1 c8
              show rx_aw 210 36 [.ref 90, .int a0, .int a1, .int a2, .int a3, rx_no, rx_no, rx_no, rx_no] [] (rx_hp L t hi7 hl7 v7) Q
              refine rx_aw_s 4 (pc := 36) rfl ?_
              refine rx_w_ifn (c := (hi7 90 6) = (6 : Int32)) ⟨fun c9 => ?_, fun c9 => ?_⟩
              · have k := k.1 c9
                show rx_aw 210 45 [.ref 90, .int a0, .int a1, .int a2, .int a3, rx_no, rx_no, rx_no, rx_no] [] (rx_hp L t hi7 hl7 v7) Q
                refine rx_aw_s 1 (pc := 45) rfl ?_
                show rx_aw 210 47 [.ref 90, .int a0, .int a1, .int a2, .int a3, rx_no, rx_no, rx_no, rx_no] [.int (-2 : Int32)] (rx_hp L t hi7 hl7 v7) Q
                exact rx_aw_ret (pc := 47) rfl k
              · have k := k.2 c9
                show rx_aw 210 48 [.ref 90, .int a0, .int a1, .int a2, .int a3, rx_no, rx_no, rx_no, rx_no] [] (rx_hp L t hi7 hl7 v7) Q
                refine rx_aw_s 11 (pc := 48) rfl ?_
                show rx_aw 210 64 [.ref 90, .int a0, .int a1, .int a2, .int a3, .int ((a2 * (hi7 90 0)) + a1), rx_no, rx_no, rx_no] [.int a3, .int ((a2 * (hi7 90 0)) + a1), .int a0, .ref 90] (rx_hp L t hi7 hl7 v7) Q
                refine rx_w_callL (j := 179) (pc := 64) rfl rfl rfl rfl rfl ?_
                refine rx_aw.mono k (fun r h2 k => ?_)
                obtain ⟨z10, rfl, hi10, hl10, v10, rfl, k⟩ := k
                refine ⟨z10, rfl, ?_⟩
                show rx_aw 210 67 [.ref 90, .int a0, .int a1, .int a2, .int a3, .int ((a2 * (hi7 90 0)) + a1), rx_no, rx_no, rx_no] [.long z10] (rx_hp L t hi10 hl10 v10) Q
                refine rx_aw_s 5 (pc := 67) rfl ?_
                refine rx_w_if (c := (lg_cmp z10 (0 : Int64)) = 0) ⟨fun c11 => ?_, fun c11 => ?_⟩
                · have k := k.1 c11
                  show rx_aw 210 112 [.ref 90, .int a0, .int a1, .int a2, .int a3, .int ((a2 * (hi7 90 0)) + a1), .long z10, rx_no, rx_no] [] (rx_hp L t hi10 hl10 v10) Q
                  refine rx_aw_s 1 (pc := 112) rfl ?_
                  show rx_aw 210 114 [.ref 90, .int a0, .int a1, .int a2, .int a3, .int ((a2 * (hi7 90 0)) + a1), .long z10, rx_no, rx_no] [.int (-2 : Int32)] (rx_hp L t hi10 hl10 v10) Q
                  exact rx_aw_ret (pc := 114) rfl k
                · have k := k.2 c11
                  show rx_aw 210 76 [.ref 90, .int a0, .int a1, .int a2, .int a3, .int ((a2 * (hi7 90 0)) + a1), .long z10, rx_no, rx_no] [] (rx_hp L t hi10 hl10 v10) Q
                  refine rx_aw_s 2 (pc := 76) rfl ?_
                  show rx_aw 210 79 [.ref 90, .int a0, .int a1, .int a2, .int a3, .int ((a2 * (hi7 90 0)) + a1), .long z10, rx_no, rx_no] [.ref 90, .long z10] (rx_hp L t hi10 hl10 v10) Q
                  refine rx_w_callL (j := 208) (pc := 79) rfl rfl rfl rfl rfl ?_
                  refine rx_aw.mono k (fun r h2 k => ?_)
                  obtain ⟨z12, rfl, hi12, hl12, v12, rfl, k⟩ := k
                  refine ⟨z12, rfl, ?_⟩
                  show rx_aw 210 82 [.ref 90, .int a0, .int a1, .int a2, .int a3, .int ((a2 * (hi7 90 0)) + a1), .long z10, rx_no, rx_no] [.long z12, .long z10] (rx_hp L t hi12 hl12 v12) Q
                  refine rx_aw_s 1 (pc := 82) rfl ?_
                  show rx_aw 210 83 [.ref 90, .int a0, .int a1, .int a2, .int a3, .int ((a2 * (hi7 90 0)) + a1), .long z10, rx_no, rx_no] [.ref 90, .long z12, .long z10] (rx_hp L t hi12 hl12 v12) Q
                  refine rx_w_callL (j := 167) (pc := 83) rfl rfl rfl rfl rfl ?_
                  refine rx_aw.mono k (fun r h2 k => ?_)
                  obtain ⟨z13, rfl, hi13, hl13, v13, rfl, k⟩ := k
                  refine ⟨z13, rfl, ?_⟩
                  show rx_aw 210 86 [.ref 90, .int a0, .int a1, .int a2, .int a3, .int ((a2 * (hi7 90 0)) + a1), .long z10, rx_no, rx_no] [.long z13, .long z12, .long z10] (rx_hp L t hi13 hl13 v13) Q
                  refine rx_aw_s 5 (pc := 86) rfl ?_
                  refine rx_w_ifn (c := (lg_cmp (z10 &&& (z12 ||| z13)) (0 : Int64)) = 0) ⟨fun c14 => ?_, fun c14 => ?_⟩
                  · have k := k.1 c14
                    show rx_aw 210 93 [.ref 90, .int a0, .int a1, .int a2, .int a3, .int ((a2 * (hi7 90 0)) + a1), .long z10, rx_no, rx_no] [] (rx_hp L t hi13 hl13 v13) Q
                    refine rx_aw_s 3 (pc := 93) rfl ?_
                    refine rx_w_if (c := a0 = (1 : Int32)) ⟨fun c15 => ?_, fun c15 => ?_⟩
                    · have k := k.1 c15
                      show rx_aw 210 115 [.ref 90, .int a0, .int a1, .int a2, .int a3, .int ((a2 * (hi7 90 0)) + a1), .long z10, rx_no, rx_no] [] (rx_hp L t hi13 hl13 v13) Q
                      refine rx_aw_s 7 (pc := 115) rfl ?_
                      show rx_aw 210 128 [.ref 90, .int a0, .int a1, .int a2, .int a3, .int ((a2 * (hi7 90 0)) + a1), .long z10, rx_no, .int (hi13 90 6)] [.int a0, .int (hi13 90 6), .ref 93] (rx_hp L t hi13 hl13 v13) Q
                      obtain ⟨j16, ej16, hj16, k⟩ := k
                      refine rx_aw_iast (pc := 128) (n := 6) j16 ej16 rfl rfl (by decide) rfl hj16 (by decide) ?_
                      show rx_aw 210 129 [.ref 90, .int a0, .int a1, .int a2, .int a3, .int ((a2 * (hi7 90 0)) + a1), .long z10, rx_no, .int (hi13 90 6)] [] (rx_hp L t (rx_u hi13 93 j16 a0) hl13 v13) Q
                      refine rx_aw_s 4 (pc := 129) rfl ?_
                      show rx_aw 210 136 [.ref 90, .int a0, .int a1, .int a2, .int a3, .int ((a2 * (hi7 90 0)) + a1), .long z10, rx_no, .int (hi13 90 6)] [.int (0 : Int32), .int (hi13 90 6), .ref 94] (rx_hp L t (rx_u hi13 93 j16 a0) hl13 v13) Q
                      obtain ⟨j17, ej17, hj17, k⟩ := k
                      refine rx_aw_iast (pc := 136) (n := 6) j17 ej17 rfl rfl (by decide) rfl hj17 (by decide) ?_
                      show rx_aw 210 137 [.ref 90, .int a0, .int a1, .int a2, .int a3, .int ((a2 * (hi7 90 0)) + a1), .long z10, rx_no, .int (hi13 90 6)] [] (rx_hp L t (rx_u (rx_u hi13 93 j16 a0) 94 j17 (0 : Int32)) hl13 v13) Q
                      refine rx_aw_s 6 (pc := 137) rfl ?_
                      show rx_aw 210 149 [.ref 90, .int a0, .int a1, .int a2, .int a3, .int ((a2 * (hi7 90 0)) + a1), .long z10, rx_no, .int (hi13 90 6)] [.int ((a2 * (hi7 90 0)) + a1), .int ((402 : Int32) * (hi13 90 6)), .ref 101] (rx_hp L t (rx_u (rx_u hi13 93 j16 a0) 94 j17 (0 : Int32)) hl13 v13) Q
                      obtain ⟨j18, ej18, hj18, k⟩ := k
                      refine rx_aw_iast (pc := 149) (n := 2412) j18 ej18 rfl rfl (by decide) rfl hj18 (by decide) ?_
                      show rx_aw 210 150 [.ref 90, .int a0, .int a1, .int a2, .int a3, .int ((a2 * (hi7 90 0)) + a1), .long z10, rx_no, .int (hi13 90 6)] [] (rx_hp L t (rx_u (rx_u (rx_u hi13 93 j16 a0) 94 j17 (0 : Int32)) 101 j18 ((a2 * (hi7 90 0)) + a1)) hl13 v13) Q
                      refine rx_aw_s 6 (pc := 150) rfl ?_
                      show rx_aw 210 162 [.ref 90, .int a0, .int a1, .int a2, .int a3, .int ((a2 * (hi7 90 0)) + a1), .long z10, rx_no, .int (hi13 90 6)] [.int a3, .int ((402 : Int32) * (hi13 90 6)), .ref 102] (rx_hp L t (rx_u (rx_u (rx_u hi13 93 j16 a0) 94 j17 (0 : Int32)) 101 j18 ((a2 * (hi7 90 0)) + a1)) hl13 v13) Q
                      obtain ⟨j19, ej19, hj19, k⟩ := k
                      refine rx_aw_iast (pc := 162) (n := 2412) j19 ej19 rfl rfl (by decide) rfl hj19 (by decide) ?_
                      show rx_aw 210 163 [.ref 90, .int a0, .int a1, .int a2, .int a3, .int ((a2 * (hi7 90 0)) + a1), .long z10, rx_no, .int (hi13 90 6)] [] (rx_hp L t (rx_u (rx_u (rx_u (rx_u hi13 93 j16 a0) 94 j17 (0 : Int32)) 101 j18 ((a2 * (hi7 90 0)) + a1)) 102 j19 a3) hl13 v13) Q
                      refine rx_aw_s 6 (pc := 163) rfl ?_
                      show rx_aw 210 174 [.ref 90, .int a0, .int a1, .int a2, .int a3, .int ((a2 * (hi7 90 0)) + a1), .long z10, rx_no, .int (hi13 90 6)] [.int (-1 : Int32), .int ((402 : Int32) * (hi13 90 6)), .ref 103] (rx_hp L t (rx_u (rx_u (rx_u (rx_u hi13 93 j16 a0) 94 j17 (0 : Int32)) 101 j18 ((a2 * (hi7 90 0)) + a1)) 102 j19 a3) hl13 v13) Q
                      obtain ⟨j20, ej20, hj20, k⟩ := k
                      refine rx_aw_iast (pc := 174) (n := 2412) j20 ej20 rfl rfl (by decide) rfl hj20 (by decide) ?_
                      show rx_aw 210 175 [.ref 90, .int a0, .int a1, .int a2, .int a3, .int ((a2 * (hi7 90 0)) + a1), .long z10, rx_no, .int (hi13 90 6)] [] (rx_hp L t (rx_u (rx_u (rx_u (rx_u (rx_u hi13 93 j16 a0) 94 j17 (0 : Int32)) 101 j18 ((a2 * (hi7 90 0)) + a1)) 102 j19 a3) 103 j20 (-1 : Int32)) hl13 v13) Q
                      refine rx_aw_s 4 (pc := 175) rfl ?_
                      show rx_aw 210 182 [.ref 90, .int a0, .int a1, .int a2, .int a3, .int ((a2 * (hi7 90 0)) + a1), .long z10, rx_no, .int (hi13 90 6)] [.int (0 : Int32), .int (hi13 90 6), .ref 96] (rx_hp L t (rx_u (rx_u (rx_u (rx_u (rx_u hi13 93 j16 a0) 94 j17 (0 : Int32)) 101 j18 ((a2 * (hi7 90 0)) + a1)) 102 j19 a3) 103 j20 (-1 : Int32)) hl13 v13) Q
                      obtain ⟨j21, ej21, hj21, k⟩ := k
                      refine rx_aw_zast (pc := 182) (n := 6) j21 ej21 rfl rfl (by decide) rfl hj21 (by decide) ?_
                      show rx_aw 210 183 [.ref 90, .int a0, .int a1, .int a2, .int a3, .int ((a2 * (hi7 90 0)) + a1), .long z10, rx_no, .int (hi13 90 6)] [] (rx_hp L t (rx_u (rx_u (rx_u (rx_u (rx_u (rx_u hi13 93 j16 a0) 94 j17 (0 : Int32)) 101 j18 ((a2 * (hi7 90 0)) + a1)) 102 j19 a3) 103 j20 (-1 : Int32)) 96 j21 (vp_nar .boolean (0 : Int32))) hl13 v13) Q
                      refine rx_aw_s 4 (pc := 183) rfl ?_
                      show rx_aw 210 190 [.ref 90, .int a0, .int a1, .int a2, .int a3, .int ((a2 * (hi7 90 0)) + a1), .long z10, rx_no, .int (hi13 90 6)] [.int (0 : Int32), .int (hi13 90 6), .ref 99] (rx_hp L t (rx_u (rx_u (rx_u (rx_u (rx_u (rx_u hi13 93 j16 a0) 94 j17 (0 : Int32)) 101 j18 ((a2 * (hi7 90 0)) + a1)) 102 j19 a3) 103 j20 (-1 : Int32)) 96 j21 (vp_nar .boolean (0 : Int32))) hl13 v13) Q
                      obtain ⟨j22, ej22, hj22, k⟩ := k
                      refine rx_aw_zast (pc := 190) (n := 6) j22 ej22 rfl rfl (by decide) rfl hj22 (by decide) ?_
                      show rx_aw 210 191 [.ref 90, .int a0, .int a1, .int a2, .int a3, .int ((a2 * (hi7 90 0)) + a1), .long z10, rx_no, .int (hi13 90 6)] [] (rx_hp L t (rx_u (rx_u (rx_u (rx_u (rx_u (rx_u (rx_u hi13 93 j16 a0) 94 j17 (0 : Int32)) 101 j18 ((a2 * (hi7 90 0)) + a1)) 102 j19 a3) 103 j20 (-1 : Int32)) 96 j21 (vp_nar .boolean (0 : Int32))) 99 j22 (vp_nar .boolean (0 : Int32))) hl13 v13) Q
                      refine rx_aw_s 4 (pc := 191) rfl ?_
                      show rx_aw 210 198 [.ref 90, .int a0, .int a1, .int a2, .int a3, .int ((a2 * (hi7 90 0)) + a1), .long z10, rx_no, .int (hi13 90 6)] [.int (0 : Int32), .int (hi13 90 6), .ref 100] (rx_hp L t (rx_u (rx_u (rx_u (rx_u (rx_u (rx_u (rx_u hi13 93 j16 a0) 94 j17 (0 : Int32)) 101 j18 ((a2 * (hi7 90 0)) + a1)) 102 j19 a3) 103 j20 (-1 : Int32)) 96 j21 (vp_nar .boolean (0 : Int32))) 99 j22 (vp_nar .boolean (0 : Int32))) hl13 v13) Q
                      obtain ⟨j23, ej23, hj23, k⟩ := k
                      refine rx_aw_iast (pc := 198) (n := 6) j23 ej23 rfl rfl (by decide) rfl hj23 (by decide) ?_
                      show rx_aw 210 199 [.ref 90, .int a0, .int a1, .int a2, .int a3, .int ((a2 * (hi7 90 0)) + a1), .long z10, rx_no, .int (hi13 90 6)] [] (rx_hp L t (rx_u (rx_u (rx_u (rx_u (rx_u (rx_u (rx_u (rx_u hi13 93 j16 a0) 94 j17 (0 : Int32)) 101 j18 ((a2 * (hi7 90 0)) + a1)) 102 j19 a3) 103 j20 (-1 : Int32)) 96 j21 (vp_nar .boolean (0 : Int32))) 99 j22 (vp_nar .boolean (0 : Int32))) 100 j23 (0 : Int32)) hl13 v13) Q
                      refine rx_aw_s 7 (pc := 199) rfl ?_
                      show rx_aw 210 210 [.ref 90, .int a0, .int a1, .int a2, .int a3, .int ((a2 * (hi7 90 0)) + a1), .long z10, rx_no, .int (hi13 90 6)] [.ref 90] (rx_hp L t (rx_u (rx_u (rx_u (rx_u (rx_u (rx_u (rx_u (rx_u (rx_u hi13 93 j16 a0) 94 j17 (0 : Int32)) 101 j18 ((a2 * (hi7 90 0)) + a1)) 102 j19 a3) 103 j20 (-1 : Int32)) 96 j21 (vp_nar .boolean (0 : Int32))) 99 j22 (vp_nar .boolean (0 : Int32))) 100 j23 (0 : Int32)) 90 6 (((rx_u (rx_u (rx_u (rx_u (rx_u (rx_u (rx_u (rx_u hi13 93 j16 a0) 94 j17 (0 : Int32)) 101 j18 ((a2 * (hi7 90 0)) + a1)) 102 j19 a3) 103 j20 (-1 : Int32)) 96 j21 (vp_nar .boolean (0 : Int32))) 99 j22 (vp_nar .boolean (0 : Int32))) 100 j23 (0 : Int32)) 90 6) + (1 : Int32))) hl13 v13) Q
                      refine rx_w_callV (j := 191) (pc := 210) rfl rfl rfl rfl rfl ?_
                      refine rx_aw.mono k (fun r h2 k => ?_)
                      obtain ⟨rfl, hi24, hl24, v24, rfl, k⟩ := k
                      refine ⟨rfl, ?_⟩
                      show rx_aw 210 213 [.ref 90, .int a0, .int a1, .int a2, .int a3, .int ((a2 * (hi7 90 0)) + a1), .long z10, rx_no, .int (hi13 90 6)] [] (rx_hp L t hi24 hl24 v24) Q
                      refine rx_aw_s 1 (pc := 213) rfl ?_
                      show rx_aw 210 215 [.ref 90, .int a0, .int a1, .int a2, .int a3, .int ((a2 * (hi7 90 0)) + a1), .long z10, rx_no, .int (hi13 90 6)] [.int (hi13 90 6)] (rx_hp L t hi24 hl24 v24) Q
                      exact rx_aw_ret (pc := 215) rfl k
                    · have k := k.2 c15
                      show rx_aw 210 98 [.ref 90, .int a0, .int a1, .int a2, .int a3, .int ((a2 * (hi7 90 0)) + a1), .long z10, rx_no, rx_no] [] (rx_hp L t hi13 hl13 v13) Q
                      refine rx_aw_s 4 (pc := 98) rfl ?_
                      show rx_aw 210 103 [.ref 90, .int a0, .int a1, .int a2, .int a3, .int ((a2 * (hi7 90 0)) + a1), .long z10, rx_no, rx_no] [.int (-1 : Int32), .int (0 : Int32), .ref 90, .long z10] (rx_hp L t hi13 hl13 v13) Q
                      refine rx_w_callL (j := 171) (pc := 103) rfl rfl rfl rfl rfl ?_
                      refine rx_aw.mono k (fun r h2 k => ?_)
                      obtain ⟨z25, rfl, hi25, hl25, v25, rfl, k⟩ := k
                      refine ⟨z25, rfl, ?_⟩
                      show rx_aw 210 106 [.ref 90, .int a0, .int a1, .int a2, .int a3, .int ((a2 * (hi7 90 0)) + a1), .long z10, rx_no, rx_no] [.long z25, .long z10] (rx_hp L t hi25 hl25 v25) Q
                      refine rx_aw_s 4 (pc := 106) rfl ?_
                      refine rx_w_if (c := (lg_cmp (z10 &&& z25) (0 : Int64)) = 0) ⟨fun c26 => ?_, fun c26 => ?_⟩
                      · have k := k.1 c26
                        show rx_aw 210 115 [.ref 90, .int a0, .int a1, .int a2, .int a3, .int ((a2 * (hi7 90 0)) + a1), .long z10, rx_no, rx_no] [] (rx_hp L t hi25 hl25 v25) Q
                        refine rx_aw_s 7 (pc := 115) rfl ?_
                        show rx_aw 210 128 [.ref 90, .int a0, .int a1, .int a2, .int a3, .int ((a2 * (hi7 90 0)) + a1), .long z10, rx_no, .int (hi25 90 6)] [.int a0, .int (hi25 90 6), .ref 93] (rx_hp L t hi25 hl25 v25) Q
                        obtain ⟨j27, ej27, hj27, k⟩ := k
                        refine rx_aw_iast (pc := 128) (n := 6) j27 ej27 rfl rfl (by decide) rfl hj27 (by decide) ?_
                        show rx_aw 210 129 [.ref 90, .int a0, .int a1, .int a2, .int a3, .int ((a2 * (hi7 90 0)) + a1), .long z10, rx_no, .int (hi25 90 6)] [] (rx_hp L t (rx_u hi25 93 j27 a0) hl25 v25) Q
                        refine rx_aw_s 4 (pc := 129) rfl ?_
                        show rx_aw 210 136 [.ref 90, .int a0, .int a1, .int a2, .int a3, .int ((a2 * (hi7 90 0)) + a1), .long z10, rx_no, .int (hi25 90 6)] [.int (0 : Int32), .int (hi25 90 6), .ref 94] (rx_hp L t (rx_u hi25 93 j27 a0) hl25 v25) Q
                        obtain ⟨j28, ej28, hj28, k⟩ := k
                        refine rx_aw_iast (pc := 136) (n := 6) j28 ej28 rfl rfl (by decide) rfl hj28 (by decide) ?_
                        show rx_aw 210 137 [.ref 90, .int a0, .int a1, .int a2, .int a3, .int ((a2 * (hi7 90 0)) + a1), .long z10, rx_no, .int (hi25 90 6)] [] (rx_hp L t (rx_u (rx_u hi25 93 j27 a0) 94 j28 (0 : Int32)) hl25 v25) Q
                        refine rx_aw_s 6 (pc := 137) rfl ?_
                        show rx_aw 210 149 [.ref 90, .int a0, .int a1, .int a2, .int a3, .int ((a2 * (hi7 90 0)) + a1), .long z10, rx_no, .int (hi25 90 6)] [.int ((a2 * (hi7 90 0)) + a1), .int ((402 : Int32) * (hi25 90 6)), .ref 101] (rx_hp L t (rx_u (rx_u hi25 93 j27 a0) 94 j28 (0 : Int32)) hl25 v25) Q
                        obtain ⟨j29, ej29, hj29, k⟩ := k
                        refine rx_aw_iast (pc := 149) (n := 2412) j29 ej29 rfl rfl (by decide) rfl hj29 (by decide) ?_
                        show rx_aw 210 150 [.ref 90, .int a0, .int a1, .int a2, .int a3, .int ((a2 * (hi7 90 0)) + a1), .long z10, rx_no, .int (hi25 90 6)] [] (rx_hp L t (rx_u (rx_u (rx_u hi25 93 j27 a0) 94 j28 (0 : Int32)) 101 j29 ((a2 * (hi7 90 0)) + a1)) hl25 v25) Q
                        refine rx_aw_s 6 (pc := 150) rfl ?_
                        show rx_aw 210 162 [.ref 90, .int a0, .int a1, .int a2, .int a3, .int ((a2 * (hi7 90 0)) + a1), .long z10, rx_no, .int (hi25 90 6)] [.int a3, .int ((402 : Int32) * (hi25 90 6)), .ref 102] (rx_hp L t (rx_u (rx_u (rx_u hi25 93 j27 a0) 94 j28 (0 : Int32)) 101 j29 ((a2 * (hi7 90 0)) + a1)) hl25 v25) Q
                        obtain ⟨j30, ej30, hj30, k⟩ := k
                        refine rx_aw_iast (pc := 162) (n := 2412) j30 ej30 rfl rfl (by decide) rfl hj30 (by decide) ?_
                        show rx_aw 210 163 [.ref 90, .int a0, .int a1, .int a2, .int a3, .int ((a2 * (hi7 90 0)) + a1), .long z10, rx_no, .int (hi25 90 6)] [] (rx_hp L t (rx_u (rx_u (rx_u (rx_u hi25 93 j27 a0) 94 j28 (0 : Int32)) 101 j29 ((a2 * (hi7 90 0)) + a1)) 102 j30 a3) hl25 v25) Q
                        refine rx_aw_s 6 (pc := 163) rfl ?_
                        show rx_aw 210 174 [.ref 90, .int a0, .int a1, .int a2, .int a3, .int ((a2 * (hi7 90 0)) + a1), .long z10, rx_no, .int (hi25 90 6)] [.int (-1 : Int32), .int ((402 : Int32) * (hi25 90 6)), .ref 103] (rx_hp L t (rx_u (rx_u (rx_u (rx_u hi25 93 j27 a0) 94 j28 (0 : Int32)) 101 j29 ((a2 * (hi7 90 0)) + a1)) 102 j30 a3) hl25 v25) Q
                        obtain ⟨j31, ej31, hj31, k⟩ := k
                        refine rx_aw_iast (pc := 174) (n := 2412) j31 ej31 rfl rfl (by decide) rfl hj31 (by decide) ?_
                        show rx_aw 210 175 [.ref 90, .int a0, .int a1, .int a2, .int a3, .int ((a2 * (hi7 90 0)) + a1), .long z10, rx_no, .int (hi25 90 6)] [] (rx_hp L t (rx_u (rx_u (rx_u (rx_u (rx_u hi25 93 j27 a0) 94 j28 (0 : Int32)) 101 j29 ((a2 * (hi7 90 0)) + a1)) 102 j30 a3) 103 j31 (-1 : Int32)) hl25 v25) Q
                        refine rx_aw_s 4 (pc := 175) rfl ?_
                        show rx_aw 210 182 [.ref 90, .int a0, .int a1, .int a2, .int a3, .int ((a2 * (hi7 90 0)) + a1), .long z10, rx_no, .int (hi25 90 6)] [.int (0 : Int32), .int (hi25 90 6), .ref 96] (rx_hp L t (rx_u (rx_u (rx_u (rx_u (rx_u hi25 93 j27 a0) 94 j28 (0 : Int32)) 101 j29 ((a2 * (hi7 90 0)) + a1)) 102 j30 a3) 103 j31 (-1 : Int32)) hl25 v25) Q
                        obtain ⟨j32, ej32, hj32, k⟩ := k
                        refine rx_aw_zast (pc := 182) (n := 6) j32 ej32 rfl rfl (by decide) rfl hj32 (by decide) ?_
                        show rx_aw 210 183 [.ref 90, .int a0, .int a1, .int a2, .int a3, .int ((a2 * (hi7 90 0)) + a1), .long z10, rx_no, .int (hi25 90 6)] [] (rx_hp L t (rx_u (rx_u (rx_u (rx_u (rx_u (rx_u hi25 93 j27 a0) 94 j28 (0 : Int32)) 101 j29 ((a2 * (hi7 90 0)) + a1)) 102 j30 a3) 103 j31 (-1 : Int32)) 96 j32 (vp_nar .boolean (0 : Int32))) hl25 v25) Q
                        refine rx_aw_s 4 (pc := 183) rfl ?_
                        show rx_aw 210 190 [.ref 90, .int a0, .int a1, .int a2, .int a3, .int ((a2 * (hi7 90 0)) + a1), .long z10, rx_no, .int (hi25 90 6)] [.int (0 : Int32), .int (hi25 90 6), .ref 99] (rx_hp L t (rx_u (rx_u (rx_u (rx_u (rx_u (rx_u hi25 93 j27 a0) 94 j28 (0 : Int32)) 101 j29 ((a2 * (hi7 90 0)) + a1)) 102 j30 a3) 103 j31 (-1 : Int32)) 96 j32 (vp_nar .boolean (0 : Int32))) hl25 v25) Q
                        obtain ⟨j33, ej33, hj33, k⟩ := k
                        refine rx_aw_zast (pc := 190) (n := 6) j33 ej33 rfl rfl (by decide) rfl hj33 (by decide) ?_
                        show rx_aw 210 191 [.ref 90, .int a0, .int a1, .int a2, .int a3, .int ((a2 * (hi7 90 0)) + a1), .long z10, rx_no, .int (hi25 90 6)] [] (rx_hp L t (rx_u (rx_u (rx_u (rx_u (rx_u (rx_u (rx_u hi25 93 j27 a0) 94 j28 (0 : Int32)) 101 j29 ((a2 * (hi7 90 0)) + a1)) 102 j30 a3) 103 j31 (-1 : Int32)) 96 j32 (vp_nar .boolean (0 : Int32))) 99 j33 (vp_nar .boolean (0 : Int32))) hl25 v25) Q
                        refine rx_aw_s 4 (pc := 191) rfl ?_
                        show rx_aw 210 198 [.ref 90, .int a0, .int a1, .int a2, .int a3, .int ((a2 * (hi7 90 0)) + a1), .long z10, rx_no, .int (hi25 90 6)] [.int (0 : Int32), .int (hi25 90 6), .ref 100] (rx_hp L t (rx_u (rx_u (rx_u (rx_u (rx_u (rx_u (rx_u hi25 93 j27 a0) 94 j28 (0 : Int32)) 101 j29 ((a2 * (hi7 90 0)) + a1)) 102 j30 a3) 103 j31 (-1 : Int32)) 96 j32 (vp_nar .boolean (0 : Int32))) 99 j33 (vp_nar .boolean (0 : Int32))) hl25 v25) Q
                        obtain ⟨j34, ej34, hj34, k⟩ := k
                        refine rx_aw_iast (pc := 198) (n := 6) j34 ej34 rfl rfl (by decide) rfl hj34 (by decide) ?_
                        show rx_aw 210 199 [.ref 90, .int a0, .int a1, .int a2, .int a3, .int ((a2 * (hi7 90 0)) + a1), .long z10, rx_no, .int (hi25 90 6)] [] (rx_hp L t (rx_u (rx_u (rx_u (rx_u (rx_u (rx_u (rx_u (rx_u hi25 93 j27 a0) 94 j28 (0 : Int32)) 101 j29 ((a2 * (hi7 90 0)) + a1)) 102 j30 a3) 103 j31 (-1 : Int32)) 96 j32 (vp_nar .boolean (0 : Int32))) 99 j33 (vp_nar .boolean (0 : Int32))) 100 j34 (0 : Int32)) hl25 v25) Q
                        refine rx_aw_s 7 (pc := 199) rfl ?_
                        show rx_aw 210 210 [.ref 90, .int a0, .int a1, .int a2, .int a3, .int ((a2 * (hi7 90 0)) + a1), .long z10, rx_no, .int (hi25 90 6)] [.ref 90] (rx_hp L t (rx_u (rx_u (rx_u (rx_u (rx_u (rx_u (rx_u (rx_u (rx_u hi25 93 j27 a0) 94 j28 (0 : Int32)) 101 j29 ((a2 * (hi7 90 0)) + a1)) 102 j30 a3) 103 j31 (-1 : Int32)) 96 j32 (vp_nar .boolean (0 : Int32))) 99 j33 (vp_nar .boolean (0 : Int32))) 100 j34 (0 : Int32)) 90 6 (((rx_u (rx_u (rx_u (rx_u (rx_u (rx_u (rx_u (rx_u hi25 93 j27 a0) 94 j28 (0 : Int32)) 101 j29 ((a2 * (hi7 90 0)) + a1)) 102 j30 a3) 103 j31 (-1 : Int32)) 96 j32 (vp_nar .boolean (0 : Int32))) 99 j33 (vp_nar .boolean (0 : Int32))) 100 j34 (0 : Int32)) 90 6) + (1 : Int32))) hl25 v25) Q
                        refine rx_w_callV (j := 191) (pc := 210) rfl rfl rfl rfl rfl ?_
                        refine rx_aw.mono k (fun r h2 k => ?_)
                        obtain ⟨rfl, hi35, hl35, v35, rfl, k⟩ := k
                        refine ⟨rfl, ?_⟩
                        show rx_aw 210 213 [.ref 90, .int a0, .int a1, .int a2, .int a3, .int ((a2 * (hi7 90 0)) + a1), .long z10, rx_no, .int (hi25 90 6)] [] (rx_hp L t hi35 hl35 v35) Q
                        refine rx_aw_s 1 (pc := 213) rfl ?_
                        show rx_aw 210 215 [.ref 90, .int a0, .int a1, .int a2, .int a3, .int ((a2 * (hi7 90 0)) + a1), .long z10, rx_no, .int (hi25 90 6)] [.int (hi25 90 6)] (rx_hp L t hi35 hl35 v35) Q
                        exact rx_aw_ret (pc := 215) rfl k
                      · have k := k.2 c26
                        show rx_aw 210 112 [.ref 90, .int a0, .int a1, .int a2, .int a3, .int ((a2 * (hi7 90 0)) + a1), .long z10, rx_no, rx_no] [] (rx_hp L t hi25 hl25 v25) Q
                        refine rx_aw_s 1 (pc := 112) rfl ?_
                        show rx_aw 210 114 [.ref 90, .int a0, .int a1, .int a2, .int a3, .int ((a2 * (hi7 90 0)) + a1), .long z10, rx_no, rx_no] [.int (-2 : Int32)] (rx_hp L t hi25 hl25 v25) Q
                        exact rx_aw_ret (pc := 114) rfl k
                  · have k := k.2 c14
                    show rx_aw 210 112 [.ref 90, .int a0, .int a1, .int a2, .int a3, .int ((a2 * (hi7 90 0)) + a1), .long z10, rx_no, rx_no] [] (rx_hp L t hi13 hl13 v13) Q
                    refine rx_aw_s 1 (pc := 112) rfl ?_
                    show rx_aw 210 114 [.ref 90, .int a0, .int a1, .int a2, .int a3, .int ((a2 * (hi7 90 0)) + a1), .long z10, rx_no, rx_no] [.int (-2 : Int32)] (rx_hp L t hi13 hl13 v13) Q
                    exact rx_aw_ret (pc := 114) rfl k
            · have k := k.2 c8
              show rx_aw 210 45 [.ref 90, .int a0, .int a1, .int a2, .int a3, rx_no, rx_no, rx_no, rx_no] [] (rx_hp L t hi7 hl7 v7) Q
              refine rx_aw_s 1 (pc := 45) rfl ?_
              show rx_aw 210 47 [.ref 90, .int a0, .int a1, .int a2, .int a3, rx_no, rx_no, rx_no, rx_no] [.int (-2 : Int32)] (rx_hp L t hi7 hl7 v7) Q
              exact rx_aw_ret (pc := 47) rfl k
set_option maxRecDepth 100000 in
/-- CartFloorModel.errand(IIII)I -/
theorem w211_errand_r {L : Nat} {t : List (Nat × Nat)} {hi : Nat → Nat → Int32} {hl : Nat → Nat → Int64} {v : Nat → Nat → Option Nat} {Q : Option Value → rx_H → Prop} {a0 : Int32} {a1 : Int32} {a2 : Int32} {a3 : Int32} (k : rx_me 161 [.ref 90, .int a0] (rx_hp L t hi hl v) (fun r h2 => ∃ z1 : Int32, r = some (.int z1) ∧ rx_ok2 L t h2 (fun hi1 hl1 v1 => ((z1 = 0 → Q (some (.int (-2 : Int32))) (rx_hp L t hi1 hl1 v1)) ∧ (¬ (z1 = 0) → (∃ j3 : Nat, a0 = nI j3 ∧ j3 < 6 ∧ (((hi1 93 j3) = (3 : Int32) → Q (some (.int (-2 : Int32))) (rx_hp L t hi1 hl1 v1)) ∧ (¬ ((hi1 93 j3) = (3 : Int32)) → (∃ j5 : Nat, a0 = nI j5 ∧ j5 < 6 ∧ (((hi1 96 j5) = 0 → (∃ j7 : Nat, a0 = nI j7 ∧ j7 < 6 ∧ (((hi1 100 j7) = 0 → rx_me 182 [.ref 90, .int a1, .int a2] (rx_hp L t hi1 hl1 v1) (fun r h2 => ∃ z9 : Int32, r = some (.int z9) ∧ rx_ok2 L t h2 (fun hi9 hl9 v9 => ((z9 = 0 → Q (some (.int (-2 : Int32))) (rx_hp L t hi9 hl9 v9)) ∧ (¬ (z9 = 0) → rx_me 168 [.ref 90, .int ((a2 * (hi9 90 0)) + a1)] (rx_hp L t hi9 hl9 v9) (fun r h2 => ∃ z11 : Int32, r = some (.int z11) ∧ rx_ok2 L t h2 (fun hi11 hl11 v11 => ((z11 = 0 → ((a3 < (-1 : Int32) → Q (some (.int (-2 : Int32))) (rx_hp L t hi11 hl11 v11)) ∧ (¬ (a3 < (-1 : Int32)) → ((a3 < (hi11 90 21) → ((a3 < 0 → rx_aw 211 152 [.ref 90, .int a0, .int a1, .int a2, .int a3, .int ((a2 * (hi11 90 0)) + a1), .int (1 : Int32), .int (0 : Int32)] [] (rx_hp L t hi11 hl11 v11) Q) ∧ (¬ (a3 < 0) → (∃ j16 : Nat, a0 = nI j16 ∧ j16 < 6 ∧ (((hi11 93 j16) = (1 : Int32) → (∃ j18 : Nat, ((a2 * (hi11 90 0)) + a1) = nI j18 ∧ j18 < 64 ∧ (((hi11 91 j18) = (2 : Int32) → (∃ j20 : Nat, ((402 : Int32) * a0) = nI j20 ∧ j20 < 2412 ∧ (((hi11 103 j20) < 0 → rx_aw 211 152 [.ref 90, .int a0, .int a1, .int a2, .int a3, .int ((a2 * (hi11 90 0)) + a1), .int (1 : Int32), .int (0 : Int32)] [] (rx_hp L t hi11 hl11 v11) Q) ∧ (¬ ((hi11 103 j20) < 0) → (∃ j22 : Nat, ((402 : Int32) * a0) = nI j22 ∧ j22 < 2412 ∧ (((hi11 103 j22) = a3 → rx_aw 211 152 [.ref 90, .int a0, .int a1, .int a2, .int a3, .int ((a2 * (hi11 90 0)) + a1), .int (1 : Int32), .int (0 : Int32)] [] (rx_hp L t hi11 hl11 v11) Q) ∧ (¬ ((hi11 103 j22) = a3) → rx_aw 211 152 [.ref 90, .int a0, .int a1, .int a2, .int a3, .int ((a2 * (hi11 90 0)) + a1), .int (0 : Int32), .int (0 : Int32)] [] (rx_hp L t hi11 hl11 v11) Q))))))) ∧ (¬ ((hi11 91 j18) = (2 : Int32)) → rx_aw 211 152 [.ref 90, .int a0, .int a1, .int a2, .int a3, .int ((a2 * (hi11 90 0)) + a1), .int (0 : Int32), .int (0 : Int32)] [] (rx_hp L t hi11 hl11 v11) Q)))) ∧ (¬ ((hi11 93 j16) = (1 : Int32)) → rx_aw 211 152 [.ref 90, .int a0, .int a1, .int a2, .int a3, .int ((a2 * (hi11 90 0)) + a1), .int (0 : Int32), .int (0 : Int32)] [] (rx_hp L t hi11 hl11 v11) Q)))))) ∧ (¬ (a3 < (hi11 90 21)) → Q (some (.int (-2 : Int32))) (rx_hp L t hi11 hl11 v11)))))) ∧ (¬ (z11 = 0) → Q (some (.int (-2 : Int32))) (rx_hp L t hi11 hl11 v11)))))))))) ∧ (¬ ((hi1 100 j7) = 0) → Q (some (.int (-2 : Int32))) (rx_hp L t hi1 hl1 v1))))) ∧ (¬ ((hi1 96 j5) = 0) → Q (some (.int (-2 : Int32))) (rx_hp L t hi1 hl1 v1)))))))))))) : rx_me 211 [.ref 90, .int a0, .int a1, .int a2, .int a3] (rx_hp L t hi hl v) Q := by
  show rx_aw 211 0 [.ref 90, .int a0, .int a1, .int a2, .int a3, rx_no, rx_no, rx_no] [] (rx_hp L t hi hl v) Q
  refine rx_aw_s 2 (pc := 0) rfl ?_
  show rx_aw 211 2 [.ref 90, .int a0, .int a1, .int a2, .int a3, rx_no, rx_no, rx_no] [.int a0, .ref 90] (rx_hp L t hi hl v) Q
  refine rx_w_callI (j := 161) (pc := 2) rfl rfl rfl rfl rfl ?_
  refine rx_aw.mono k (fun r h2 k => ?_)
  obtain ⟨z1, rfl, hi1, hl1, v1, rfl, k⟩ := k
  refine ⟨z1, rfl, ?_⟩
  show rx_aw 211 5 [.ref 90, .int a0, .int a1, .int a2, .int a3, rx_no, rx_no, rx_no] [.int z1] (rx_hp L t hi1 hl1 v1) Q
  refine rx_aw_s 1 (pc := 5) rfl ?_
  refine rx_w_if (c := z1 = 0) ⟨fun c2 => ?_, fun c2 => ?_⟩
  · have k := k.1 c2
    show rx_aw 211 75 [.ref 90, .int a0, .int a1, .int a2, .int a3, rx_no, rx_no, rx_no] [] (rx_hp L t hi1 hl1 v1) Q
    refine rx_aw_s 1 (pc := 75) rfl ?_
    show rx_aw 211 77 [.ref 90, .int a0, .int a1, .int a2, .int a3, rx_no, rx_no, rx_no] [.int (-2 : Int32)] (rx_hp L t hi1 hl1 v1) Q
    exact rx_aw_ret (pc := 77) rfl k
  · have k := k.2 c2
    show rx_aw 211 8 [.ref 90, .int a0, .int a1, .int a2, .int a3, rx_no, rx_no, rx_no] [] (rx_hp L t hi1 hl1 v1) Q
    refine rx_aw_s 3 (pc := 8) rfl ?_
    show rx_aw 211 13 [.ref 90, .int a0, .int a1, .int a2, .int a3, rx_no, rx_no, rx_no] [.int a0, .ref 93] (rx_hp L t hi1 hl1 v1) Q
    obtain ⟨j3, ej3, hj3, k⟩ := k
    refine rx_aw_iald (pc := 13) (n := 6) j3 ej3 rfl rfl rfl hj3 (by decide) ?_
    show rx_aw 211 14 [.ref 90, .int a0, .int a1, .int a2, .int a3, rx_no, rx_no, rx_no] [.int (hi1 93 j3)] (rx_hp L t hi1 hl1 v1) Q
    refine rx_aw_s 2 (pc := 14) rfl ?_
    refine rx_w_if (c := (hi1 93 j3) = (3 : Int32)) ⟨fun c4 => ?_, fun c4 => ?_⟩
    · have k := k.1 c4
      show rx_aw 211 75 [.ref 90, .int a0, .int a1, .int a2, .int a3, rx_no, rx_no, rx_no] [] (rx_hp L t hi1 hl1 v1) Q
      refine rx_aw_s 1 (pc := 75) rfl ?_
      show rx_aw 211 77 [.ref 90, .int a0, .int a1, .int a2, .int a3, rx_no, rx_no, rx_no] [.int (-2 : Int32)] (rx_hp L t hi1 hl1 v1) Q
      exact rx_aw_ret (pc := 77) rfl k
    · have k := k.2 c4
      show rx_aw 211 18 [.ref 90, .int a0, .int a1, .int a2, .int a3, rx_no, rx_no, rx_no] [] (rx_hp L t hi1 hl1 v1) Q
      refine rx_aw_s 3 (pc := 18) rfl ?_
      show rx_aw 211 23 [.ref 90, .int a0, .int a1, .int a2, .int a3, rx_no, rx_no, rx_no] [.int a0, .ref 96] (rx_hp L t hi1 hl1 v1) Q
      obtain ⟨j5, ej5, hj5, k⟩ := k
      refine rx_aw_bald (pc := 23) (n := 6) j5 ej5 rfl (Or.inr rfl) (by decide) rfl hj5 (by decide) ?_
      show rx_aw 211 24 [.ref 90, .int a0, .int a1, .int a2, .int a3, rx_no, rx_no, rx_no] [.int (hi1 96 j5)] (rx_hp L t hi1 hl1 v1) Q
      refine rx_aw_s 1 (pc := 24) rfl ?_
      refine rx_w_ifn (c := (hi1 96 j5) = 0) ⟨fun c6 => ?_, fun c6 => ?_⟩
      · have k := k.1 c6
        show rx_aw 211 27 [.ref 90, .int a0, .int a1, .int a2, .int a3, rx_no, rx_no, rx_no] [] (rx_hp L t hi1 hl1 v1) Q
        refine rx_aw_s 3 (pc := 27) rfl ?_
        show rx_aw 211 32 [.ref 90, .int a0, .int a1, .int a2, .int a3, rx_no, rx_no, rx_no] [.int a0, .ref 100] (rx_hp L t hi1 hl1 v1) Q
        obtain ⟨j7, ej7, hj7, k⟩ := k
        refine rx_aw_iald (pc := 32) (n := 6) j7 ej7 rfl rfl rfl hj7 (by decide) ?_
        show rx_aw 211 33 [.ref 90, .int a0, .int a1, .int a2, .int a3, rx_no, rx_no, rx_no] [.int (hi1 100 j7)] (rx_hp L t hi1 hl1 v1) Q
        refine rx_aw_s 1 (pc := 33) rfl ?_
        refine rx_w_ifn (c := (hi1 100 j7) = 0) ⟨fun c8 => ?_, fun c8 => ?_⟩
        · have k := k.1 c8
          show rx_aw 211 36 [.ref 90, .int a0, .int a1, .int a2, .int a3, rx_no, rx_no, rx_no] [] (rx_hp L t hi1 hl1 v1) Q
          refine rx_aw_s 3 (pc := 36) rfl ?_
          show rx_aw 211 39 [.ref 90, .int a0, .int a1, .int a2, .int a3, rx_no, rx_no, rx_no] [.int a2, .int a1, .ref 90] (rx_hp L t hi1 hl1 v1) Q
          refine rx_w_callI (j := 182) (pc := 39) rfl rfl rfl rfl rfl ?_
          refine rx_aw.mono k (fun r h2 k => ?_)
          obtain ⟨z9, rfl, hi9, hl9, v9, rfl, k⟩ := k
          refine ⟨z9, rfl, ?_⟩
          show rx_aw 211 42 [.ref 90, .int a0, .int a1, .int a2, .int a3, rx_no, rx_no, rx_no] [.int z9] (rx_hp L t hi9 hl9 v9) Q
          refine rx_aw_s 1 (pc := 42) rfl ?_
          refine rx_w_if (c := z9 = 0) ⟨fun c10 => ?_, fun c10 => ?_⟩
          · have k := k.1 c10
            show rx_aw 211 75 [.ref 90, .int a0, .int a1, .int a2, .int a3, rx_no, rx_no, rx_no] [] (rx_hp L t hi9 hl9 v9) Q
            refine rx_aw_s 1 (pc := 75) rfl ?_
            show rx_aw 211 77 [.ref 90, .int a0, .int a1, .int a2, .int a3, rx_no, rx_no, rx_no] [.int (-2 : Int32)] (rx_hp L t hi9 hl9 v9) Q
            exact rx_aw_ret (pc := 77) rfl k
          · have k := k.2 c10
            show rx_aw 211 45 [.ref 90, .int a0, .int a1, .int a2, .int a3, rx_no, rx_no, rx_no] [] (rx_hp L t hi9 hl9 v9) Q
            refine rx_aw_s 7 (pc := 45) rfl ?_
            show rx_aw 211 54 [.ref 90, .int a0, .int a1, .int a2, .int a3, rx_no, rx_no, rx_no] [.int ((a2 * (hi9 90 0)) + a1), .ref 90] (rx_hp L t hi9 hl9 v9) Q
            refine rx_w_callI (j := 168) (pc := 54) rfl rfl rfl rfl rfl ?_
            refine rx_aw.mono k (fun r h2 k => ?_)
            obtain ⟨z11, rfl, hi11, hl11, v11, rfl, k⟩ := k
            refine ⟨z11, rfl, ?_⟩
            show rx_aw 211 57 [.ref 90, .int a0, .int a1, .int a2, .int a3, rx_no, rx_no, rx_no] [.int z11] (rx_hp L t hi11 hl11 v11) Q
            refine rx_aw_s 1 (pc := 57) rfl ?_
            refine rx_w_ifn (c := z11 = 0) ⟨fun c12 => ?_, fun c12 => ?_⟩
            · have k := k.1 c12
              show rx_aw 211 60 [.ref 90, .int a0, .int a1, .int a2, .int a3, rx_no, rx_no, rx_no] [] (rx_hp L t hi11 hl11 v11) Q
              refine rx_aw_s 3 (pc := 60) rfl ?_
              refine rx_w_if (c := a3 < (-1 : Int32)) ⟨fun c13 => ?_, fun c13 => ?_⟩
              · have k := k.1 c13
                show rx_aw 211 75 [.ref 90, .int a0, .int a1, .int a2, .int a3, rx_no, rx_no, rx_no] [] (rx_hp L t hi11 hl11 v11) Q
                refine rx_aw_s 1 (pc := 75) rfl ?_
                show rx_aw 211 77 [.ref 90, .int a0, .int a1, .int a2, .int a3, rx_no, rx_no, rx_no] [.int (-2 : Int32)] (rx_hp L t hi11 hl11 v11) Q
                exact rx_aw_ret (pc := 77) rfl k
              · have k := k.2 c13
                show rx_aw 211 66 [.ref 90, .int a0, .int a1, .int a2, .int a3, rx_no, rx_no, rx_no] [] (rx_hp L t hi11 hl11 v11) Q
                refine rx_aw_s 4 (pc := 66) rfl ?_
                refine rx_w_if (c := a3 < (hi11 90 21)) ⟨fun c14 => ?_, fun c14 => ?_⟩
                · have k := k.1 c14
                  show rx_aw 211 78 [.ref 90, .int a0, .int a1, .int a2, .int a3, rx_no, rx_no, rx_no] [] (rx_hp L t hi11 hl11 v11) Q
                  refine rx_aw_s 9 (pc := 78) rfl ?_
                  refine rx_w_if (c := a3 < 0) ⟨fun c15 => ?_, fun c15 => ?_⟩
                  · have k := k.1 c15
                    show rx_aw 211 142 [.ref 90, .int a0, .int a1, .int a2, .int a3, .int ((a2 * (hi11 90 0)) + a1), rx_no, rx_no] [] (rx_hp L t hi11 hl11 v11) Q
                    refine rx_aw_s 5 (pc := 142) rfl ?_
                    show rx_aw 211 152 [.ref 90, .int a0, .int a1, .int a2, .int a3, .int ((a2 * (hi11 90 0)) + a1), .int (1 : Int32), .int (0 : Int32)] [] (rx_hp L t hi11 hl11 v11) Q
                    exact k
                  · have k := k.2 c15
                    show rx_aw 211 93 [.ref 90, .int a0, .int a1, .int a2, .int a3, .int ((a2 * (hi11 90 0)) + a1), rx_no, rx_no] [] (rx_hp L t hi11 hl11 v11) Q
                    refine rx_aw_s 3 (pc := 93) rfl ?_
                    show rx_aw 211 98 [.ref 90, .int a0, .int a1, .int a2, .int a3, .int ((a2 * (hi11 90 0)) + a1), rx_no, rx_no] [.int a0, .ref 93] (rx_hp L t hi11 hl11 v11) Q
                    obtain ⟨j16, ej16, hj16, k⟩ := k
                    refine rx_aw_iald (pc := 98) (n := 6) j16 ej16 rfl rfl rfl hj16 (by decide) ?_
                    show rx_aw 211 99 [.ref 90, .int a0, .int a1, .int a2, .int a3, .int ((a2 * (hi11 90 0)) + a1), rx_no, rx_no] [.int (hi11 93 j16)] (rx_hp L t hi11 hl11 v11) Q
                    refine rx_aw_s 2 (pc := 99) rfl ?_
                    refine rx_w_ifn (c := (hi11 93 j16) = (1 : Int32)) ⟨fun c17 => ?_, fun c17 => ?_⟩
                    · have k := k.1 c17
                      show rx_aw 211 103 [.ref 90, .int a0, .int a1, .int a2, .int a3, .int ((a2 * (hi11 90 0)) + a1), rx_no, rx_no] [] (rx_hp L t hi11 hl11 v11) Q
                      refine rx_aw_s 3 (pc := 103) rfl ?_
                      show rx_aw 211 109 [.ref 90, .int a0, .int a1, .int a2, .int a3, .int ((a2 * (hi11 90 0)) + a1), rx_no, rx_no] [.int ((a2 * (hi11 90 0)) + a1), .ref 91] (rx_hp L t hi11 hl11 v11) Q
                      obtain ⟨j18, ej18, hj18, k⟩ := k
                      refine rx_aw_iald (pc := 109) (n := 64) j18 ej18 rfl rfl rfl hj18 (by decide) ?_
                      show rx_aw 211 110 [.ref 90, .int a0, .int a1, .int a2, .int a3, .int ((a2 * (hi11 90 0)) + a1), rx_no, rx_no] [.int (hi11 91 j18)] (rx_hp L t hi11 hl11 v11) Q
                      refine rx_aw_s 2 (pc := 110) rfl ?_
                      refine rx_w_ifn (c := (hi11 91 j18) = (2 : Int32)) ⟨fun c19 => ?_, fun c19 => ?_⟩
                      · have k := k.1 c19
                        show rx_aw 211 114 [.ref 90, .int a0, .int a1, .int a2, .int a3, .int ((a2 * (hi11 90 0)) + a1), rx_no, rx_no] [] (rx_hp L t hi11 hl11 v11) Q
                        refine rx_aw_s 5 (pc := 114) rfl ?_
                        show rx_aw 211 123 [.ref 90, .int a0, .int a1, .int a2, .int a3, .int ((a2 * (hi11 90 0)) + a1), rx_no, rx_no] [.int ((402 : Int32) * a0), .ref 103] (rx_hp L t hi11 hl11 v11) Q
                        obtain ⟨j20, ej20, hj20, k⟩ := k
                        refine rx_aw_iald (pc := 123) (n := 2412) j20 ej20 rfl rfl rfl hj20 (by decide) ?_
                        show rx_aw 211 124 [.ref 90, .int a0, .int a1, .int a2, .int a3, .int ((a2 * (hi11 90 0)) + a1), rx_no, rx_no] [.int (hi11 103 j20)] (rx_hp L t hi11 hl11 v11) Q
                        refine rx_aw_s 1 (pc := 124) rfl ?_
                        refine rx_w_if (c := (hi11 103 j20) < 0) ⟨fun c21 => ?_, fun c21 => ?_⟩
                        · have k := k.1 c21
                          show rx_aw 211 142 [.ref 90, .int a0, .int a1, .int a2, .int a3, .int ((a2 * (hi11 90 0)) + a1), rx_no, rx_no] [] (rx_hp L t hi11 hl11 v11) Q
                          refine rx_aw_s 5 (pc := 142) rfl ?_
                          show rx_aw 211 152 [.ref 90, .int a0, .int a1, .int a2, .int a3, .int ((a2 * (hi11 90 0)) + a1), .int (1 : Int32), .int (0 : Int32)] [] (rx_hp L t hi11 hl11 v11) Q
                          exact k
                        · have k := k.2 c21
                          show rx_aw 211 127 [.ref 90, .int a0, .int a1, .int a2, .int a3, .int ((a2 * (hi11 90 0)) + a1), rx_no, rx_no] [] (rx_hp L t hi11 hl11 v11) Q
                          refine rx_aw_s 5 (pc := 127) rfl ?_
                          show rx_aw 211 136 [.ref 90, .int a0, .int a1, .int a2, .int a3, .int ((a2 * (hi11 90 0)) + a1), rx_no, rx_no] [.int ((402 : Int32) * a0), .ref 103] (rx_hp L t hi11 hl11 v11) Q
                          obtain ⟨j22, ej22, hj22, k⟩ := k
                          refine rx_aw_iald (pc := 136) (n := 2412) j22 ej22 rfl rfl rfl hj22 (by decide) ?_
                          show rx_aw 211 137 [.ref 90, .int a0, .int a1, .int a2, .int a3, .int ((a2 * (hi11 90 0)) + a1), rx_no, rx_no] [.int (hi11 103 j22)] (rx_hp L t hi11 hl11 v11) Q
                          refine rx_aw_s 2 (pc := 137) rfl ?_
                          refine rx_w_ifn (c := (hi11 103 j22) = a3) ⟨fun c23 => ?_, fun c23 => ?_⟩
                          · have k := k.1 c23
                            show rx_aw 211 142 [.ref 90, .int a0, .int a1, .int a2, .int a3, .int ((a2 * (hi11 90 0)) + a1), rx_no, rx_no] [] (rx_hp L t hi11 hl11 v11) Q
                            refine rx_aw_s 5 (pc := 142) rfl ?_
                            show rx_aw 211 152 [.ref 90, .int a0, .int a1, .int a2, .int a3, .int ((a2 * (hi11 90 0)) + a1), .int (1 : Int32), .int (0 : Int32)] [] (rx_hp L t hi11 hl11 v11) Q
                            exact k
                          · have k := k.2 c23
                            show rx_aw 211 146 [.ref 90, .int a0, .int a1, .int a2, .int a3, .int ((a2 * (hi11 90 0)) + a1), rx_no, rx_no] [] (rx_hp L t hi11 hl11 v11) Q
                            refine rx_aw_s 4 (pc := 146) rfl ?_
                            show rx_aw 211 152 [.ref 90, .int a0, .int a1, .int a2, .int a3, .int ((a2 * (hi11 90 0)) + a1), .int (0 : Int32), .int (0 : Int32)] [] (rx_hp L t hi11 hl11 v11) Q
                            exact k
                      · have k := k.2 c19
                        show rx_aw 211 146 [.ref 90, .int a0, .int a1, .int a2, .int a3, .int ((a2 * (hi11 90 0)) + a1), rx_no, rx_no] [] (rx_hp L t hi11 hl11 v11) Q
                        refine rx_aw_s 4 (pc := 146) rfl ?_
                        show rx_aw 211 152 [.ref 90, .int a0, .int a1, .int a2, .int a3, .int ((a2 * (hi11 90 0)) + a1), .int (0 : Int32), .int (0 : Int32)] [] (rx_hp L t hi11 hl11 v11) Q
                        exact k
                    · have k := k.2 c17
                      show rx_aw 211 146 [.ref 90, .int a0, .int a1, .int a2, .int a3, .int ((a2 * (hi11 90 0)) + a1), rx_no, rx_no] [] (rx_hp L t hi11 hl11 v11) Q
                      refine rx_aw_s 4 (pc := 146) rfl ?_
                      show rx_aw 211 152 [.ref 90, .int a0, .int a1, .int a2, .int a3, .int ((a2 * (hi11 90 0)) + a1), .int (0 : Int32), .int (0 : Int32)] [] (rx_hp L t hi11 hl11 v11) Q
                      exact k
                · have k := k.2 c14
                  show rx_aw 211 75 [.ref 90, .int a0, .int a1, .int a2, .int a3, rx_no, rx_no, rx_no] [] (rx_hp L t hi11 hl11 v11) Q
                  refine rx_aw_s 1 (pc := 75) rfl ?_
                  show rx_aw 211 77 [.ref 90, .int a0, .int a1, .int a2, .int a3, rx_no, rx_no, rx_no] [.int (-2 : Int32)] (rx_hp L t hi11 hl11 v11) Q
                  exact rx_aw_ret (pc := 77) rfl k
            · have k := k.2 c12
              show rx_aw 211 75 [.ref 90, .int a0, .int a1, .int a2, .int a3, rx_no, rx_no, rx_no] [] (rx_hp L t hi11 hl11 v11) Q
              refine rx_aw_s 1 (pc := 75) rfl ?_
              show rx_aw 211 77 [.ref 90, .int a0, .int a1, .int a2, .int a3, rx_no, rx_no, rx_no] [.int (-2 : Int32)] (rx_hp L t hi11 hl11 v11) Q
              exact rx_aw_ret (pc := 77) rfl k
        · have k := k.2 c8
          show rx_aw 211 75 [.ref 90, .int a0, .int a1, .int a2, .int a3, rx_no, rx_no, rx_no] [] (rx_hp L t hi1 hl1 v1) Q
          refine rx_aw_s 1 (pc := 75) rfl ?_
          show rx_aw 211 77 [.ref 90, .int a0, .int a1, .int a2, .int a3, rx_no, rx_no, rx_no] [.int (-2 : Int32)] (rx_hp L t hi1 hl1 v1) Q
          exact rx_aw_ret (pc := 77) rfl k
      · have k := k.2 c6
        show rx_aw 211 75 [.ref 90, .int a0, .int a1, .int a2, .int a3, rx_no, rx_no, rx_no] [] (rx_hp L t hi1 hl1 v1) Q
        refine rx_aw_s 1 (pc := 75) rfl ?_
        show rx_aw 211 77 [.ref 90, .int a0, .int a1, .int a2, .int a3, rx_no, rx_no, rx_no] [.int (-2 : Int32)] (rx_hp L t hi1 hl1 v1) Q
        exact rx_aw_ret (pc := 77) rfl k
set_option maxRecDepth 100000 in
theorem w211_errand_r_152 {L : Nat} {t : List (Nat × Nat)} {hi : Nat → Nat → Int32} {hl : Nat → Nat → Int64} {v : Nat → Nat → Option Nat} {Q : Option Value → rx_H → Prop} {x1 : Int32} {x2 : Int32} {x3 : Int32} {x4 : Int32} {x5 : Int32} {x6 : Int32} {x7 : Int32} (k : (((hi 90 6) ≤ x7 → ((x6 = 0 → Q (some (.int (-2 : Int32))) (rx_hp L t hi hl v)) ∧ (¬ (x6 = 0) → (∃ j26 : Nat, x1 = nI j26 ∧ j26 < 6 ∧ (∃ j27 : Nat, x1 = nI j27 ∧ j27 < 6 ∧ (∃ j28 : Nat, x1 = nI j28 ∧ j28 < 6 ∧ Q (some (.int (1 : Int32))) (rx_hp L t (rx_u (rx_u (rx_u hi 96 j26 (vp_nar .boolean (1 : Int32))) 97 j27 x5) 98 j28 x4) hl v))))))) ∧ (¬ ((hi 90 6) ≤ x7) → ((x4 < 0 → ((x6 = 0 → Q (some (.int (-2 : Int32))) (rx_hp L t hi hl v)) ∧ (¬ (x6 = 0) → (∃ j31 : Nat, x1 = nI j31 ∧ j31 < 6 ∧ (∃ j32 : Nat, x1 = nI j32 ∧ j32 < 6 ∧ (∃ j33 : Nat, x1 = nI j33 ∧ j33 < 6 ∧ Q (some (.int (1 : Int32))) (rx_hp L t (rx_u (rx_u (rx_u hi 96 j31 (vp_nar .boolean (1 : Int32))) 97 j32 x5) 98 j33 x4) hl v))))))) ∧ (¬ (x4 < 0) → (∃ j34 : Nat, x7 = nI j34 ∧ j34 < 6 ∧ (((hi 96 j34) = 0 → ((x7 = x1 → rx_aw 211 152 [.ref 90, .int x1, .int x2, .int x3, .int x4, .int x5, .int (x6 &&& (1 : Int32)), .int (x7 + (1 : Int32))] [] (rx_hp L t hi hl v) Q) ∧ (¬ (x7 = x1) → (∃ j37 : Nat, ((402 : Int32) * x7) = nI j37 ∧ j37 < 2412 ∧ (((hi 103 j37) = x4 → rx_aw 211 152 [.ref 90, .int x1, .int x2, .int x3, .int x4, .int x5, .int (x6 &&& (0 : Int32)), .int (x7 + (1 : Int32))] [] (rx_hp L t hi hl v) Q) ∧ (¬ ((hi 103 j37) = x4) → rx_aw 211 152 [.ref 90, .int x1, .int x2, .int x3, .int x4, .int x5, .int (x6 &&& (1 : Int32)), .int (x7 + (1 : Int32))] [] (rx_hp L t hi hl v) Q)))))) ∧ (¬ ((hi 96 j34) = 0) → (∃ j39 : Nat, x7 = nI j39 ∧ j39 < 6 ∧ (((hi 98 j39) = x4 → rx_aw 211 152 [.ref 90, .int x1, .int x2, .int x3, .int x4, .int x5, .int (x6 &&& (0 : Int32)), .int (x7 + (1 : Int32))] [] (rx_hp L t hi hl v) Q) ∧ (¬ ((hi 98 j39) = x4) → ((x7 = x1 → rx_aw 211 152 [.ref 90, .int x1, .int x2, .int x3, .int x4, .int x5, .int (x6 &&& (1 : Int32)), .int (x7 + (1 : Int32))] [] (rx_hp L t hi hl v) Q) ∧ (¬ (x7 = x1) → (∃ j42 : Nat, ((402 : Int32) * x7) = nI j42 ∧ j42 < 2412 ∧ (((hi 103 j42) = x4 → rx_aw 211 152 [.ref 90, .int x1, .int x2, .int x3, .int x4, .int x5, .int (x6 &&& (0 : Int32)), .int (x7 + (1 : Int32))] [] (rx_hp L t hi hl v) Q) ∧ (¬ ((hi 103 j42) = x4) → rx_aw 211 152 [.ref 90, .int x1, .int x2, .int x3, .int x4, .int x5, .int (x6 &&& (1 : Int32)), .int (x7 + (1 : Int32))] [] (rx_hp L t hi hl v) Q)))))))))))))))) : rx_aw 211 152 [.ref 90, .int x1, .int x2, .int x3, .int x4, .int x5, .int x6, .int x7] [] (rx_hp L t hi hl v) Q := by
  refine rx_aw_s 4 (pc := 152) rfl ?_
  refine rx_w_if (c := (hi 90 6) ≤ x7) ⟨fun c24 => ?_, fun c24 => ?_⟩
  · have k := k.1 c24
    show rx_aw 211 226 [.ref 90, .int x1, .int x2, .int x3, .int x4, .int x5, .int x6, .int x7] [] (rx_hp L t hi hl v) Q
    refine rx_aw_s 2 (pc := 226) rfl ?_
    refine rx_w_ifn (c := x6 = 0) ⟨fun c25 => ?_, fun c25 => ?_⟩
    · have k := k.1 c25
      show rx_aw 211 231 [.ref 90, .int x1, .int x2, .int x3, .int x4, .int x5, .int x6, .int x7] [] (rx_hp L t hi hl v) Q
      refine rx_aw_s 1 (pc := 231) rfl ?_
      show rx_aw 211 233 [.ref 90, .int x1, .int x2, .int x3, .int x4, .int x5, .int x6, .int x7] [.int (-2 : Int32)] (rx_hp L t hi hl v) Q
      exact rx_aw_ret (pc := 233) rfl k
    · have k := k.2 c25
      show rx_aw 211 234 [.ref 90, .int x1, .int x2, .int x3, .int x4, .int x5, .int x6, .int x7] [] (rx_hp L t hi hl v) Q
      refine rx_aw_s 4 (pc := 234) rfl ?_
      show rx_aw 211 240 [.ref 90, .int x1, .int x2, .int x3, .int x4, .int x5, .int x6, .int x7] [.int (1 : Int32), .int x1, .ref 96] (rx_hp L t hi hl v) Q
      obtain ⟨j26, ej26, hj26, k⟩ := k
      refine rx_aw_zast (pc := 240) (n := 6) j26 ej26 rfl rfl (by decide) rfl hj26 (by decide) ?_
      show rx_aw 211 241 [.ref 90, .int x1, .int x2, .int x3, .int x4, .int x5, .int x6, .int x7] [] (rx_hp L t (rx_u hi 96 j26 (vp_nar .boolean (1 : Int32))) hl v) Q
      refine rx_aw_s 4 (pc := 241) rfl ?_
      show rx_aw 211 248 [.ref 90, .int x1, .int x2, .int x3, .int x4, .int x5, .int x6, .int x7] [.int x5, .int x1, .ref 97] (rx_hp L t (rx_u hi 96 j26 (vp_nar .boolean (1 : Int32))) hl v) Q
      obtain ⟨j27, ej27, hj27, k⟩ := k
      refine rx_aw_iast (pc := 248) (n := 6) j27 ej27 rfl rfl (by decide) rfl hj27 (by decide) ?_
      show rx_aw 211 249 [.ref 90, .int x1, .int x2, .int x3, .int x4, .int x5, .int x6, .int x7] [] (rx_hp L t (rx_u (rx_u hi 96 j26 (vp_nar .boolean (1 : Int32))) 97 j27 x5) hl v) Q
      refine rx_aw_s 4 (pc := 249) rfl ?_
      show rx_aw 211 256 [.ref 90, .int x1, .int x2, .int x3, .int x4, .int x5, .int x6, .int x7] [.int x4, .int x1, .ref 98] (rx_hp L t (rx_u (rx_u hi 96 j26 (vp_nar .boolean (1 : Int32))) 97 j27 x5) hl v) Q
      obtain ⟨j28, ej28, hj28, k⟩ := k
      refine rx_aw_iast (pc := 256) (n := 6) j28 ej28 rfl rfl (by decide) rfl hj28 (by decide) ?_
      show rx_aw 211 257 [.ref 90, .int x1, .int x2, .int x3, .int x4, .int x5, .int x6, .int x7] [] (rx_hp L t (rx_u (rx_u (rx_u hi 96 j26 (vp_nar .boolean (1 : Int32))) 97 j27 x5) 98 j28 x4) hl v) Q
      refine rx_aw_s 1 (pc := 257) rfl ?_
      show rx_aw 211 258 [.ref 90, .int x1, .int x2, .int x3, .int x4, .int x5, .int x6, .int x7] [.int (1 : Int32)] (rx_hp L t (rx_u (rx_u (rx_u hi 96 j26 (vp_nar .boolean (1 : Int32))) 97 j27 x5) 98 j28 x4) hl v) Q
      exact rx_aw_ret (pc := 258) rfl k
  · have k := k.2 c24
    show rx_aw 211 161 [.ref 90, .int x1, .int x2, .int x3, .int x4, .int x5, .int x6, .int x7] [] (rx_hp L t hi hl v) Q
    refine rx_aw_s 2 (pc := 161) rfl ?_
    refine rx_w_if (c := x4 < 0) ⟨fun c29 => ?_, fun c29 => ?_⟩
    · have k := k.1 c29
      show rx_aw 211 226 [.ref 90, .int x1, .int x2, .int x3, .int x4, .int x5, .int x6, .int x7] [] (rx_hp L t hi hl v) Q
      refine rx_aw_s 2 (pc := 226) rfl ?_
      refine rx_w_ifn (c := x6 = 0) ⟨fun c30 => ?_, fun c30 => ?_⟩
      · have k := k.1 c30
        show rx_aw 211 231 [.ref 90, .int x1, .int x2, .int x3, .int x4, .int x5, .int x6, .int x7] [] (rx_hp L t hi hl v) Q
        refine rx_aw_s 1 (pc := 231) rfl ?_
        show rx_aw 211 233 [.ref 90, .int x1, .int x2, .int x3, .int x4, .int x5, .int x6, .int x7] [.int (-2 : Int32)] (rx_hp L t hi hl v) Q
        exact rx_aw_ret (pc := 233) rfl k
      · have k := k.2 c30
        show rx_aw 211 234 [.ref 90, .int x1, .int x2, .int x3, .int x4, .int x5, .int x6, .int x7] [] (rx_hp L t hi hl v) Q
        refine rx_aw_s 4 (pc := 234) rfl ?_
        show rx_aw 211 240 [.ref 90, .int x1, .int x2, .int x3, .int x4, .int x5, .int x6, .int x7] [.int (1 : Int32), .int x1, .ref 96] (rx_hp L t hi hl v) Q
        obtain ⟨j31, ej31, hj31, k⟩ := k
        refine rx_aw_zast (pc := 240) (n := 6) j31 ej31 rfl rfl (by decide) rfl hj31 (by decide) ?_
        show rx_aw 211 241 [.ref 90, .int x1, .int x2, .int x3, .int x4, .int x5, .int x6, .int x7] [] (rx_hp L t (rx_u hi 96 j31 (vp_nar .boolean (1 : Int32))) hl v) Q
        refine rx_aw_s 4 (pc := 241) rfl ?_
        show rx_aw 211 248 [.ref 90, .int x1, .int x2, .int x3, .int x4, .int x5, .int x6, .int x7] [.int x5, .int x1, .ref 97] (rx_hp L t (rx_u hi 96 j31 (vp_nar .boolean (1 : Int32))) hl v) Q
        obtain ⟨j32, ej32, hj32, k⟩ := k
        refine rx_aw_iast (pc := 248) (n := 6) j32 ej32 rfl rfl (by decide) rfl hj32 (by decide) ?_
        show rx_aw 211 249 [.ref 90, .int x1, .int x2, .int x3, .int x4, .int x5, .int x6, .int x7] [] (rx_hp L t (rx_u (rx_u hi 96 j31 (vp_nar .boolean (1 : Int32))) 97 j32 x5) hl v) Q
        refine rx_aw_s 4 (pc := 249) rfl ?_
        show rx_aw 211 256 [.ref 90, .int x1, .int x2, .int x3, .int x4, .int x5, .int x6, .int x7] [.int x4, .int x1, .ref 98] (rx_hp L t (rx_u (rx_u hi 96 j31 (vp_nar .boolean (1 : Int32))) 97 j32 x5) hl v) Q
        obtain ⟨j33, ej33, hj33, k⟩ := k
        refine rx_aw_iast (pc := 256) (n := 6) j33 ej33 rfl rfl (by decide) rfl hj33 (by decide) ?_
        show rx_aw 211 257 [.ref 90, .int x1, .int x2, .int x3, .int x4, .int x5, .int x6, .int x7] [] (rx_hp L t (rx_u (rx_u (rx_u hi 96 j31 (vp_nar .boolean (1 : Int32))) 97 j32 x5) 98 j33 x4) hl v) Q
        refine rx_aw_s 1 (pc := 257) rfl ?_
        show rx_aw 211 258 [.ref 90, .int x1, .int x2, .int x3, .int x4, .int x5, .int x6, .int x7] [.int (1 : Int32)] (rx_hp L t (rx_u (rx_u (rx_u hi 96 j31 (vp_nar .boolean (1 : Int32))) 97 j32 x5) 98 j33 x4) hl v) Q
        exact rx_aw_ret (pc := 258) rfl k
    · have k := k.2 c29
      show rx_aw 211 166 [.ref 90, .int x1, .int x2, .int x3, .int x4, .int x5, .int x6, .int x7] [] (rx_hp L t hi hl v) Q
      refine rx_aw_s 4 (pc := 166) rfl ?_
      show rx_aw 211 174 [.ref 90, .int x1, .int x2, .int x3, .int x4, .int x5, .int x6, .int x7] [.int x7, .ref 96, .int x6] (rx_hp L t hi hl v) Q
      obtain ⟨j34, ej34, hj34, k⟩ := k
      refine rx_aw_bald (pc := 174) (n := 6) j34 ej34 rfl (Or.inr rfl) (by decide) rfl hj34 (by decide) ?_
      show rx_aw 211 175 [.ref 90, .int x1, .int x2, .int x3, .int x4, .int x5, .int x6, .int x7] [.int (hi 96 j34), .int x6] (rx_hp L t hi hl v) Q
      refine rx_aw_s 1 (pc := 175) rfl ?_
      refine rx_w_if (c := (hi 96 j34) = 0) ⟨fun c35 => ?_, fun c35 => ?_⟩
      · have k := k.1 c35
        show rx_aw 211 190 [.ref 90, .int x1, .int x2, .int x3, .int x4, .int x5, .int x6, .int x7] [.int x6] (rx_hp L t hi hl v) Q
        refine rx_aw_s 3 (pc := 190) rfl ?_
        refine rx_w_if (c := x7 = x1) ⟨fun c36 => ?_, fun c36 => ?_⟩
        · have k := k.1 c36
          show rx_aw 211 212 [.ref 90, .int x1, .int x2, .int x3, .int x4, .int x5, .int x6, .int x7] [.int x6] (rx_hp L t hi hl v) Q
          refine rx_aw_s 6 (pc := 212) rfl ?_
          show rx_aw 211 152 [.ref 90, .int x1, .int x2, .int x3, .int x4, .int x5, .int (x6 &&& (1 : Int32)), .int (x7 + (1 : Int32))] [] (rx_hp L t hi hl v) Q
          exact k
        · have k := k.2 c36
          show rx_aw 211 196 [.ref 90, .int x1, .int x2, .int x3, .int x4, .int x5, .int x6, .int x7] [.int x6] (rx_hp L t hi hl v) Q
          refine rx_aw_s 5 (pc := 196) rfl ?_
          show rx_aw 211 206 [.ref 90, .int x1, .int x2, .int x3, .int x4, .int x5, .int x6, .int x7] [.int ((402 : Int32) * x7), .ref 103, .int x6] (rx_hp L t hi hl v) Q
          obtain ⟨j37, ej37, hj37, k⟩ := k
          refine rx_aw_iald (pc := 206) (n := 2412) j37 ej37 rfl rfl rfl hj37 (by decide) ?_
          show rx_aw 211 207 [.ref 90, .int x1, .int x2, .int x3, .int x4, .int x5, .int x6, .int x7] [.int (hi 103 j37), .int x6] (rx_hp L t hi hl v) Q
          refine rx_aw_s 2 (pc := 207) rfl ?_
          refine rx_w_if (c := (hi 103 j37) = x4) ⟨fun c38 => ?_, fun c38 => ?_⟩
          · have k := k.1 c38
            show rx_aw 211 216 [.ref 90, .int x1, .int x2, .int x3, .int x4, .int x5, .int x6, .int x7] [.int x6] (rx_hp L t hi hl v) Q
            refine rx_aw_s 5 (pc := 216) rfl ?_
            show rx_aw 211 152 [.ref 90, .int x1, .int x2, .int x3, .int x4, .int x5, .int (x6 &&& (0 : Int32)), .int (x7 + (1 : Int32))] [] (rx_hp L t hi hl v) Q
            exact k
          · have k := k.2 c38
            show rx_aw 211 212 [.ref 90, .int x1, .int x2, .int x3, .int x4, .int x5, .int x6, .int x7] [.int x6] (rx_hp L t hi hl v) Q
            refine rx_aw_s 6 (pc := 212) rfl ?_
            show rx_aw 211 152 [.ref 90, .int x1, .int x2, .int x3, .int x4, .int x5, .int (x6 &&& (1 : Int32)), .int (x7 + (1 : Int32))] [] (rx_hp L t hi hl v) Q
            exact k
      · have k := k.2 c35
        show rx_aw 211 178 [.ref 90, .int x1, .int x2, .int x3, .int x4, .int x5, .int x6, .int x7] [.int x6] (rx_hp L t hi hl v) Q
        refine rx_aw_s 3 (pc := 178) rfl ?_
        show rx_aw 211 184 [.ref 90, .int x1, .int x2, .int x3, .int x4, .int x5, .int x6, .int x7] [.int x7, .ref 98, .int x6] (rx_hp L t hi hl v) Q
        obtain ⟨j39, ej39, hj39, k⟩ := k
        refine rx_aw_iald (pc := 184) (n := 6) j39 ej39 rfl rfl rfl hj39 (by decide) ?_
        show rx_aw 211 185 [.ref 90, .int x1, .int x2, .int x3, .int x4, .int x5, .int x6, .int x7] [.int (hi 98 j39), .int x6] (rx_hp L t hi hl v) Q
        refine rx_aw_s 2 (pc := 185) rfl ?_
        refine rx_w_if (c := (hi 98 j39) = x4) ⟨fun c40 => ?_, fun c40 => ?_⟩
        · have k := k.1 c40
          show rx_aw 211 216 [.ref 90, .int x1, .int x2, .int x3, .int x4, .int x5, .int x6, .int x7] [.int x6] (rx_hp L t hi hl v) Q
          refine rx_aw_s 5 (pc := 216) rfl ?_
          show rx_aw 211 152 [.ref 90, .int x1, .int x2, .int x3, .int x4, .int x5, .int (x6 &&& (0 : Int32)), .int (x7 + (1 : Int32))] [] (rx_hp L t hi hl v) Q
          exact k
        · have k := k.2 c40
          show rx_aw 211 190 [.ref 90, .int x1, .int x2, .int x3, .int x4, .int x5, .int x6, .int x7] [.int x6] (rx_hp L t hi hl v) Q
          refine rx_aw_s 3 (pc := 190) rfl ?_
          refine rx_w_if (c := x7 = x1) ⟨fun c41 => ?_, fun c41 => ?_⟩
          · have k := k.1 c41
            show rx_aw 211 212 [.ref 90, .int x1, .int x2, .int x3, .int x4, .int x5, .int x6, .int x7] [.int x6] (rx_hp L t hi hl v) Q
            refine rx_aw_s 6 (pc := 212) rfl ?_
            show rx_aw 211 152 [.ref 90, .int x1, .int x2, .int x3, .int x4, .int x5, .int (x6 &&& (1 : Int32)), .int (x7 + (1 : Int32))] [] (rx_hp L t hi hl v) Q
            exact k
          · have k := k.2 c41
            show rx_aw 211 196 [.ref 90, .int x1, .int x2, .int x3, .int x4, .int x5, .int x6, .int x7] [.int x6] (rx_hp L t hi hl v) Q
            refine rx_aw_s 5 (pc := 196) rfl ?_
            show rx_aw 211 206 [.ref 90, .int x1, .int x2, .int x3, .int x4, .int x5, .int x6, .int x7] [.int ((402 : Int32) * x7), .ref 103, .int x6] (rx_hp L t hi hl v) Q
            obtain ⟨j42, ej42, hj42, k⟩ := k
            refine rx_aw_iald (pc := 206) (n := 2412) j42 ej42 rfl rfl rfl hj42 (by decide) ?_
            show rx_aw 211 207 [.ref 90, .int x1, .int x2, .int x3, .int x4, .int x5, .int x6, .int x7] [.int (hi 103 j42), .int x6] (rx_hp L t hi hl v) Q
            refine rx_aw_s 2 (pc := 207) rfl ?_
            refine rx_w_if (c := (hi 103 j42) = x4) ⟨fun c43 => ?_, fun c43 => ?_⟩
            · have k := k.1 c43
              show rx_aw 211 216 [.ref 90, .int x1, .int x2, .int x3, .int x4, .int x5, .int x6, .int x7] [.int x6] (rx_hp L t hi hl v) Q
              refine rx_aw_s 5 (pc := 216) rfl ?_
              show rx_aw 211 152 [.ref 90, .int x1, .int x2, .int x3, .int x4, .int x5, .int (x6 &&& (0 : Int32)), .int (x7 + (1 : Int32))] [] (rx_hp L t hi hl v) Q
              exact k
            · have k := k.2 c43
              show rx_aw 211 212 [.ref 90, .int x1, .int x2, .int x3, .int x4, .int x5, .int x6, .int x7] [.int x6] (rx_hp L t hi hl v) Q
              refine rx_aw_s 6 (pc := 212) rfl ?_
              show rx_aw 211 152 [.ref 90, .int x1, .int x2, .int x3, .int x4, .int x5, .int (x6 &&& (1 : Int32)), .int (x7 + (1 : Int32))] [] (rx_hp L t hi hl v) Q
              exact k
