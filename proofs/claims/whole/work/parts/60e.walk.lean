/-! Methods walked by program (gen/wp.py): what is left to show of each. -/
set_option maxRecDepth 100000 in
/-- CartFloor.shelfWeight(I)I -/
theorem w147_shelfWeight {L : Nat} {t : List (Nat × Nat)} {hi : Nat → Nat → Int32} {hl : Nat → Nat → Int64} {v : Nat → Nat → Option Nat} {Q : Option Value → rx_H → Prop} {a0 : Int32} (k : ((0 ≤ a0 → Q (some (.int ((5 : Int32) + a0))) (rx_hp L t hi hl v)) ∧ (¬ (0 ≤ a0) → Q (some (.int (0 : Int32))) (rx_hp L t hi hl v)))) : rx_me 147 [.int a0] (rx_hp L t hi hl v) Q := by
  show rx_aw 147 0 [.int a0] [] (rx_hp L t hi hl v) Q
  refine rx_aw_s 2 (pc := 0) rfl ?_
  refine rx_w_if (c := 0 ≤ a0) ⟨fun c1 => ?_, fun c1 => ?_⟩
  · have k := k.1 c1
    show rx_aw 147 8 [.int a0] [] (rx_hp L t hi hl v) Q
    refine rx_aw_s 3 (pc := 8) rfl ?_
    show rx_aw 147 11 [.int a0] [.int ((5 : Int32) + a0)] (rx_hp L t hi hl v) Q
    exact rx_aw_ret (pc := 11) rfl k
  · have k := k.2 c1
    show rx_aw 147 4 [.int a0] [] (rx_hp L t hi hl v) Q
    refine rx_aw_s 2 (pc := 4) rfl ?_
    show rx_aw 147 11 [.int a0] [.int (0 : Int32)] (rx_hp L t hi hl v) Q
    exact rx_aw_ret (pc := 11) rfl k
set_option maxRecDepth 100000 in
/-- CartFloor.mark(III)I -/
theorem w148_mark {L : Nat} {t : List (Nat × Nat)} {hi : Nat → Nat → Int32} {hl : Nat → Nat → Int64} {v : Nat → Nat → Option Nat} {Q : Option Value → rx_H → Prop} {a0 : Int32} {a1 : Int32} {a2 : Int32} (k : rx_me 27 [.ref 7, .int a1] (rx_hp L t hi hl v) (fun r h2 => ∃ z1 : Int32, r = some (.int z1) ∧ rx_ok2 L t h2 (fun hi1 hl1 v1 => ((z1 = 0 → Q (some (.int (-11 : Int32))) (rx_hp L t hi1 hl1 v1)) ∧ (¬ (z1 = 0) → (∃ j3 : Nat, a1 = nI j3 ∧ j3 < 8 ∧ (((hi1 9 j3) = 0 → rx_me 26 [.ref 7, .int a0, .int a1] (rx_hp L t hi1 hl1 v1) (fun r h2 => ∃ z5 : Int32, r = some (.int z5) ∧ rx_ok2 L t h2 (fun hi5 hl5 v5 => ((0 ≤ z5 → (∃ j7 : Nat, z5 = nI j7 ∧ j7 < 64 ∧ (∃ j8 : Nat, z5 = nI j8 ∧ j8 < 64 ∧ Q (some (.int ((hi5 89 j7) + (1000 : Int32)))) (rx_hp L t (rx_u hi5 89 j8 (vp_nar .byte ((Int32.toInt8 a2).toInt32))) hl5 v5)))) ∧ (¬ (0 ≤ z5) → Q (some (.int (-11 : Int32))) (rx_hp L t hi5 hl5 v5)))))) ∧ (¬ ((hi1 9 j3) = 0) → Q (some (.int (-10 : Int32))) (rx_hp L t hi1 hl1 v1))))))))) : rx_me 148 [.ref 1, .int a0, .int a1, .int a2] (rx_hp L t hi hl v) Q := by
  show rx_aw 148 0 [.ref 1, .int a0, .int a1, .int a2, rx_no, rx_no] [] (rx_hp L t hi hl v) Q
  refine rx_aw_s 3 (pc := 0) rfl ?_
  show rx_aw 148 5 [.ref 1, .int a0, .int a1, .int a2, rx_no, rx_no] [.int a1, .ref 7] (rx_hp L t hi hl v) Q
  refine rx_w_callI (j := 27) (pc := 5) rfl rfl rfl rfl rfl ?_
  refine rx_aw.mono k (fun r h2 k => ?_)
  obtain ⟨z1, rfl, hi1, hl1, v1, rfl, k⟩ := k
  refine ⟨z1, rfl, ?_⟩
  show rx_aw 148 8 [.ref 1, .int a0, .int a1, .int a2, rx_no, rx_no] [.int z1] (rx_hp L t hi1 hl1 v1) Q
  refine rx_aw_s 1 (pc := 8) rfl ?_
  refine rx_w_ifn (c := z1 = 0) ⟨fun c2 => ?_, fun c2 => ?_⟩
  · have k := k.1 c2
    show rx_aw 148 11 [.ref 1, .int a0, .int a1, .int a2, rx_no, rx_no] [] (rx_hp L t hi1 hl1 v1) Q
    refine rx_aw_s 1 (pc := 11) rfl ?_
    show rx_aw 148 13 [.ref 1, .int a0, .int a1, .int a2, rx_no, rx_no] [.int (-11 : Int32)] (rx_hp L t hi1 hl1 v1) Q
    exact rx_aw_ret (pc := 13) rfl k
  · have k := k.2 c2
    show rx_aw 148 14 [.ref 1, .int a0, .int a1, .int a2, rx_no, rx_no] [] (rx_hp L t hi1 hl1 v1) Q
    refine rx_aw_s 4 (pc := 14) rfl ?_
    show rx_aw 148 22 [.ref 1, .int a0, .int a1, .int a2, rx_no, rx_no] [.int a1, .ref 9] (rx_hp L t hi1 hl1 v1) Q
    obtain ⟨j3, ej3, hj3, k⟩ := k
    refine rx_aw_bald (pc := 22) (n := 8) j3 ej3 rfl (Or.inr rfl) (by decide) rfl hj3 (by decide) ?_
    show rx_aw 148 23 [.ref 1, .int a0, .int a1, .int a2, rx_no, rx_no] [.int (hi1 9 j3)] (rx_hp L t hi1 hl1 v1) Q
    refine rx_aw_s 1 (pc := 23) rfl ?_
    refine rx_w_if (c := (hi1 9 j3) = 0) ⟨fun c4 => ?_, fun c4 => ?_⟩
    · have k := k.1 c4
      show rx_aw 148 29 [.ref 1, .int a0, .int a1, .int a2, rx_no, rx_no] [] (rx_hp L t hi1 hl1 v1) Q
      refine rx_aw_s 4 (pc := 29) rfl ?_
      show rx_aw 148 35 [.ref 1, .int a0, .int a1, .int a2, rx_no, rx_no] [.int a1, .int a0, .ref 7] (rx_hp L t hi1 hl1 v1) Q
      refine rx_w_callI (j := 26) (pc := 35) rfl rfl rfl rfl rfl ?_
      refine rx_aw.mono k (fun r h2 k => ?_)
      obtain ⟨z5, rfl, hi5, hl5, v5, rfl, k⟩ := k
      refine ⟨z5, rfl, ?_⟩
      show rx_aw 148 38 [.ref 1, .int a0, .int a1, .int a2, rx_no, rx_no] [.int z5] (rx_hp L t hi5 hl5 v5) Q
      refine rx_aw_s 3 (pc := 38) rfl ?_
      refine rx_w_if (c := 0 ≤ z5) ⟨fun c6 => ?_, fun c6 => ?_⟩
      · have k := k.1 c6
        show rx_aw 148 48 [.ref 1, .int a0, .int a1, .int a2, .int z5, rx_no] [] (rx_hp L t hi5 hl5 v5) Q
        refine rx_aw_s 4 (pc := 48) rfl ?_
        show rx_aw 148 57 [.ref 1, .int a0, .int a1, .int a2, .int z5, rx_no] [.int z5, .ref 89] (rx_hp L t hi5 hl5 v5) Q
        obtain ⟨j7, ej7, hj7, k⟩ := k
        refine rx_aw_bald (pc := 57) (n := 64) j7 ej7 rfl (Or.inl rfl) (by decide) rfl hj7 (by decide) ?_
        show rx_aw 148 58 [.ref 1, .int a0, .int a1, .int a2, .int z5, rx_no] [.int (hi5 89 j7)] (rx_hp L t hi5 hl5 v5) Q
        refine rx_aw_s 7 (pc := 58) rfl ?_
        show rx_aw 148 71 [.ref 1, .int a0, .int a1, .int a2, .int z5, .int (hi5 89 j7)] [.int ((Int32.toInt8 a2).toInt32), .int z5, .ref 89] (rx_hp L t hi5 hl5 v5) Q
        obtain ⟨j8, ej8, hj8, k⟩ := k
        refine rx_aw_bast (pc := 71) (n := 64) j8 ej8 rfl rfl (by decide) rfl hj8 (by decide) ?_
        show rx_aw 148 72 [.ref 1, .int a0, .int a1, .int a2, .int z5, .int (hi5 89 j7)] [] (rx_hp L t (rx_u hi5 89 j8 (vp_nar .byte ((Int32.toInt8 a2).toInt32))) hl5 v5) Q
        refine rx_aw_s 3 (pc := 72) rfl ?_
        show rx_aw 148 78 [.ref 1, .int a0, .int a1, .int a2, .int z5, .int (hi5 89 j7)] [.int ((hi5 89 j7) + (1000 : Int32))] (rx_hp L t (rx_u hi5 89 j8 (vp_nar .byte ((Int32.toInt8 a2).toInt32))) hl5 v5) Q
        exact rx_aw_ret (pc := 78) rfl k
      · have k := k.2 c6
        show rx_aw 148 45 [.ref 1, .int a0, .int a1, .int a2, .int z5, rx_no] [] (rx_hp L t hi5 hl5 v5) Q
        refine rx_aw_s 1 (pc := 45) rfl ?_
        show rx_aw 148 47 [.ref 1, .int a0, .int a1, .int a2, .int z5, rx_no] [.int (-11 : Int32)] (rx_hp L t hi5 hl5 v5) Q
        exact rx_aw_ret (pc := 47) rfl k
    · have k := k.2 c4
      show rx_aw 148 26 [.ref 1, .int a0, .int a1, .int a2, rx_no, rx_no] [] (rx_hp L t hi1 hl1 v1) Q
      refine rx_aw_s 1 (pc := 26) rfl ?_
      show rx_aw 148 28 [.ref 1, .int a0, .int a1, .int a2, rx_no, rx_no] [.int (-10 : Int32)] (rx_hp L t hi1 hl1 v1) Q
      exact rx_aw_ret (pc := 28) rfl k
set_option maxRecDepth 100000 in
/-- CartFloor.copy(IIIII)I -/
theorem w149_copy {L : Nat} {t : List (Nat × Nat)} {hi : Nat → Nat → Int32} {hl : Nat → Nat → Int64} {v : Nat → Nat → Option Nat} {Q : Option Value → rx_H → Prop} {a0 : Int32} {a1 : Int32} {a2 : Int32} {a3 : Int32} {a4 : Int32} (k : rx_me 27 [.ref 7, .int a0] (rx_hp L t hi hl v) (fun r h2 => ∃ z1 : Int32, r = some (.int z1) ∧ rx_ok2 L t h2 (fun hi1 hl1 v1 => ((z1 = 0 → Q (some (.int (-11 : Int32))) (rx_hp L t hi1 hl1 v1)) ∧ (¬ (z1 = 0) → rx_me 27 [.ref 7, .int a2] (rx_hp L t hi1 hl1 v1) (fun r h2 => ∃ z3 : Int32, r = some (.int z3) ∧ rx_ok2 L t h2 (fun hi3 hl3 v3 => ((z3 = 0 → Q (some (.int (-11 : Int32))) (rx_hp L t hi3 hl3 v3)) ∧ (¬ (z3 = 0) → (∃ j5 : Nat, a0 = nI j5 ∧ j5 < 8 ∧ (((hi3 9 j5) = 0 → (∃ j7 : Nat, a2 = nI j7 ∧ j7 < 8 ∧ (((hi3 9 j7) = 0 → ((a4 < 0 → Q (some (.int (-11 : Int32))) (rx_hp L t hi3 hl3 v3)) ∧ (¬ (a4 < 0) → (((hi3 7 0) < a4 → Q (some (.int (-11 : Int32))) (rx_hp L t hi3 hl3 v3)) ∧ (¬ ((hi3 7 0) < a4) → ((a1 < 0 → Q (some (.int (-11 : Int32))) (rx_hp L t hi3 hl3 v3)) ∧ (¬ (a1 < 0) → ((a3 < 0 → Q (some (.int (-11 : Int32))) (rx_hp L t hi3 hl3 v3)) ∧ (¬ (a3 < 0) → ((((hi3 7 0) - a4) < a1 → Q (some (.int (-11 : Int32))) (rx_hp L t hi3 hl3 v3)) ∧ (¬ (((hi3 7 0) - a4) < a1) → ((a3 ≤ ((hi3 7 0) - a4) → rx_me 150 [.ref 88, .int ((a0 * (hi3 7 0)) + a1), .int ((a2 * (hi3 7 0)) + a3), .int a4] (rx_hp L t hi3 hl3 v3) (fun r h2 => r = none ∧ rx_ok2 L t h2 (fun hi15 hl15 v15 => rx_me 151 [.ref 88, .int a2] (rx_hp L t hi15 hl15 v15) (fun r h2 => ∃ z16 : Int32, r = some (.int z16) ∧ rx_ok2 L t h2 (fun hi16 hl16 v16 => Q (some (.int (z16 + (10000 : Int32)))) (rx_hp L t hi16 hl16 v16)))))) ∧ (¬ (a3 ≤ ((hi3 7 0) - a4)) → Q (some (.int (-11 : Int32))) (rx_hp L t hi3 hl3 v3)))))))))))))) ∧ (¬ ((hi3 9 j7) = 0) → Q (some (.int (-10 : Int32))) (rx_hp L t hi3 hl3 v3))))) ∧ (¬ ((hi3 9 j5) = 0) → Q (some (.int (-10 : Int32))) (rx_hp L t hi3 hl3 v3))))))))))))) : rx_me 149 [.ref 1, .int a0, .int a1, .int a2, .int a3, .int a4] (rx_hp L t hi hl v) Q := by
  show rx_aw 149 0 [.ref 1, .int a0, .int a1, .int a2, .int a3, .int a4, rx_no] [] (rx_hp L t hi hl v) Q
  refine rx_aw_s 3 (pc := 0) rfl ?_
  show rx_aw 149 5 [.ref 1, .int a0, .int a1, .int a2, .int a3, .int a4, rx_no] [.int a0, .ref 7] (rx_hp L t hi hl v) Q
  refine rx_w_callI (j := 27) (pc := 5) rfl rfl rfl rfl rfl ?_
  refine rx_aw.mono k (fun r h2 k => ?_)
  obtain ⟨z1, rfl, hi1, hl1, v1, rfl, k⟩ := k
  refine ⟨z1, rfl, ?_⟩
  show rx_aw 149 8 [.ref 1, .int a0, .int a1, .int a2, .int a3, .int a4, rx_no] [.int z1] (rx_hp L t hi1 hl1 v1) Q
  refine rx_aw_s 1 (pc := 8) rfl ?_
  refine rx_w_if (c := z1 = 0) ⟨fun c2 => ?_, fun c2 => ?_⟩
  · have k := k.1 c2
    show rx_aw 149 22 [.ref 1, .int a0, .int a1, .int a2, .int a3, .int a4, rx_no] [] (rx_hp L t hi1 hl1 v1) Q
    refine rx_aw_s 1 (pc := 22) rfl ?_
    show rx_aw 149 24 [.ref 1, .int a0, .int a1, .int a2, .int a3, .int a4, rx_no] [.int (-11 : Int32)] (rx_hp L t hi1 hl1 v1) Q
    exact rx_aw_ret (pc := 24) rfl k
  · have k := k.2 c2
    show rx_aw 149 11 [.ref 1, .int a0, .int a1, .int a2, .int a3, .int a4, rx_no] [] (rx_hp L t hi1 hl1 v1) Q
    refine rx_aw_s 3 (pc := 11) rfl ?_
    show rx_aw 149 16 [.ref 1, .int a0, .int a1, .int a2, .int a3, .int a4, rx_no] [.int a2, .ref 7] (rx_hp L t hi1 hl1 v1) Q
    refine rx_w_callI (j := 27) (pc := 16) rfl rfl rfl rfl rfl ?_
    refine rx_aw.mono k (fun r h2 k => ?_)
    obtain ⟨z3, rfl, hi3, hl3, v3, rfl, k⟩ := k
    refine ⟨z3, rfl, ?_⟩
    show rx_aw 149 19 [.ref 1, .int a0, .int a1, .int a2, .int a3, .int a4, rx_no] [.int z3] (rx_hp L t hi3 hl3 v3) Q
    refine rx_aw_s 1 (pc := 19) rfl ?_
    refine rx_w_ifn (c := z3 = 0) ⟨fun c4 => ?_, fun c4 => ?_⟩
    · have k := k.1 c4
      show rx_aw 149 22 [.ref 1, .int a0, .int a1, .int a2, .int a3, .int a4, rx_no] [] (rx_hp L t hi3 hl3 v3) Q
      refine rx_aw_s 1 (pc := 22) rfl ?_
      show rx_aw 149 24 [.ref 1, .int a0, .int a1, .int a2, .int a3, .int a4, rx_no] [.int (-11 : Int32)] (rx_hp L t hi3 hl3 v3) Q
      exact rx_aw_ret (pc := 24) rfl k
    · have k := k.2 c4
      show rx_aw 149 25 [.ref 1, .int a0, .int a1, .int a2, .int a3, .int a4, rx_no] [] (rx_hp L t hi3 hl3 v3) Q
      refine rx_aw_s 4 (pc := 25) rfl ?_
      show rx_aw 149 33 [.ref 1, .int a0, .int a1, .int a2, .int a3, .int a4, rx_no] [.int a0, .ref 9] (rx_hp L t hi3 hl3 v3) Q
      obtain ⟨j5, ej5, hj5, k⟩ := k
      refine rx_aw_bald (pc := 33) (n := 8) j5 ej5 rfl (Or.inr rfl) (by decide) rfl hj5 (by decide) ?_
      show rx_aw 149 34 [.ref 1, .int a0, .int a1, .int a2, .int a3, .int a4, rx_no] [.int (hi3 9 j5)] (rx_hp L t hi3 hl3 v3) Q
      refine rx_aw_s 1 (pc := 34) rfl ?_
      refine rx_w_ifn (c := (hi3 9 j5) = 0) ⟨fun c6 => ?_, fun c6 => ?_⟩
      · have k := k.1 c6
        show rx_aw 149 37 [.ref 1, .int a0, .int a1, .int a2, .int a3, .int a4, rx_no] [] (rx_hp L t hi3 hl3 v3) Q
        refine rx_aw_s 4 (pc := 37) rfl ?_
        show rx_aw 149 45 [.ref 1, .int a0, .int a1, .int a2, .int a3, .int a4, rx_no] [.int a2, .ref 9] (rx_hp L t hi3 hl3 v3) Q
        obtain ⟨j7, ej7, hj7, k⟩ := k
        refine rx_aw_bald (pc := 45) (n := 8) j7 ej7 rfl (Or.inr rfl) (by decide) rfl hj7 (by decide) ?_
        show rx_aw 149 46 [.ref 1, .int a0, .int a1, .int a2, .int a3, .int a4, rx_no] [.int (hi3 9 j7)] (rx_hp L t hi3 hl3 v3) Q
        refine rx_aw_s 1 (pc := 46) rfl ?_
        refine rx_w_if (c := (hi3 9 j7) = 0) ⟨fun c8 => ?_, fun c8 => ?_⟩
        · have k := k.1 c8
          show rx_aw 149 52 [.ref 1, .int a0, .int a1, .int a2, .int a3, .int a4, rx_no] [] (rx_hp L t hi3 hl3 v3) Q
          refine rx_aw_s 2 (pc := 52) rfl ?_
          refine rx_w_if (c := a4 < 0) ⟨fun c9 => ?_, fun c9 => ?_⟩
          · have k := k.1 c9
            show rx_aw 149 73 [.ref 1, .int a0, .int a1, .int a2, .int a3, .int a4, rx_no] [] (rx_hp L t hi3 hl3 v3) Q
            refine rx_aw_s 5 (pc := 73) rfl ?_
            show rx_aw 149 121 [.ref 1, .int a0, .int a1, .int a2, .int a3, .int a4, .int (0 : Int32)] [.int (-11 : Int32)] (rx_hp L t hi3 hl3 v3) Q
            exact rx_aw_ret (pc := 121) rfl k
          · have k := k.2 c9
            show rx_aw 149 57 [.ref 1, .int a0, .int a1, .int a2, .int a3, .int a4, rx_no] [] (rx_hp L t hi3 hl3 v3) Q
            refine rx_aw_s 5 (pc := 57) rfl ?_
            refine rx_w_if (c := (hi3 7 0) < a4) ⟨fun c10 => ?_, fun c10 => ?_⟩
            · have k := k.1 c10
              show rx_aw 149 73 [.ref 1, .int a0, .int a1, .int a2, .int a3, .int a4, rx_no] [] (rx_hp L t hi3 hl3 v3) Q
              refine rx_aw_s 5 (pc := 73) rfl ?_
              show rx_aw 149 121 [.ref 1, .int a0, .int a1, .int a2, .int a3, .int a4, .int (0 : Int32)] [.int (-11 : Int32)] (rx_hp L t hi3 hl3 v3) Q
              exact rx_aw_ret (pc := 121) rfl k
            · have k := k.2 c10
              show rx_aw 149 69 [.ref 1, .int a0, .int a1, .int a2, .int a3, .int a4, rx_no] [] (rx_hp L t hi3 hl3 v3) Q
              refine rx_aw_s 7 (pc := 69) rfl ?_
              refine rx_w_if (c := a1 < 0) ⟨fun c11 => ?_, fun c11 => ?_⟩
              · have k := k.1 c11
                show rx_aw 149 119 [.ref 1, .int a0, .int a1, .int a2, .int a3, .int a4, .int (1 : Int32)] [] (rx_hp L t hi3 hl3 v3) Q
                refine rx_aw_s 1 (pc := 119) rfl ?_
                show rx_aw 149 121 [.ref 1, .int a0, .int a1, .int a2, .int a3, .int a4, .int (1 : Int32)] [.int (-11 : Int32)] (rx_hp L t hi3 hl3 v3) Q
                exact rx_aw_ret (pc := 121) rfl k
              · have k := k.2 c11
                show rx_aw 149 85 [.ref 1, .int a0, .int a1, .int a2, .int a3, .int a4, .int (1 : Int32)] [] (rx_hp L t hi3 hl3 v3) Q
                refine rx_aw_s 2 (pc := 85) rfl ?_
                refine rx_w_if (c := a3 < 0) ⟨fun c12 => ?_, fun c12 => ?_⟩
                · have k := k.1 c12
                  show rx_aw 149 119 [.ref 1, .int a0, .int a1, .int a2, .int a3, .int a4, .int (1 : Int32)] [] (rx_hp L t hi3 hl3 v3) Q
                  refine rx_aw_s 1 (pc := 119) rfl ?_
                  show rx_aw 149 121 [.ref 1, .int a0, .int a1, .int a2, .int a3, .int a4, .int (1 : Int32)] [.int (-11 : Int32)] (rx_hp L t hi3 hl3 v3) Q
                  exact rx_aw_ret (pc := 121) rfl k
                · have k := k.2 c12
                  show rx_aw 149 90 [.ref 1, .int a0, .int a1, .int a2, .int a3, .int a4, .int (1 : Int32)] [] (rx_hp L t hi3 hl3 v3) Q
                  refine rx_aw_s 7 (pc := 90) rfl ?_
                  refine rx_w_if (c := ((hi3 7 0) - a4) < a1) ⟨fun c13 => ?_, fun c13 => ?_⟩
                  · have k := k.1 c13
                    show rx_aw 149 119 [.ref 1, .int a0, .int a1, .int a2, .int a3, .int a4, .int (1 : Int32)] [] (rx_hp L t hi3 hl3 v3) Q
                    refine rx_aw_s 1 (pc := 119) rfl ?_
                    show rx_aw 149 121 [.ref 1, .int a0, .int a1, .int a2, .int a3, .int a4, .int (1 : Int32)] [.int (-11 : Int32)] (rx_hp L t hi3 hl3 v3) Q
                    exact rx_aw_ret (pc := 121) rfl k
                  · have k := k.2 c13
                    show rx_aw 149 104 [.ref 1, .int a0, .int a1, .int a2, .int a3, .int a4, .int (1 : Int32)] [] (rx_hp L t hi3 hl3 v3) Q
                    refine rx_aw_s 7 (pc := 104) rfl ?_
                    refine rx_w_if (c := a3 ≤ ((hi3 7 0) - a4)) ⟨fun c14 => ?_, fun c14 => ?_⟩
                    · have k := k.1 c14
                      show rx_aw 149 122 [.ref 1, .int a0, .int a1, .int a2, .int a3, .int a4, .int (1 : Int32)] [] (rx_hp L t hi3 hl3 v3) Q
                      refine rx_aw_s 17 (pc := 122) rfl ?_
                      show rx_aw 149 151 [.ref 1, .int a0, .int a1, .int a2, .int a3, .int a4, .int (1 : Int32)] [.int a4, .int ((a2 * (hi3 7 0)) + a3), .int ((a0 * (hi3 7 0)) + a1), .ref 88] (rx_hp L t hi3 hl3 v3) Q
                      refine rx_w_callV (j := 150) (pc := 151) rfl rfl rfl rfl rfl ?_
                      refine rx_aw.mono k (fun r h2 k => ?_)
                      obtain ⟨rfl, hi15, hl15, v15, rfl, k⟩ := k
                      refine ⟨rfl, ?_⟩
                      show rx_aw 149 154 [.ref 1, .int a0, .int a1, .int a2, .int a3, .int a4, .int (1 : Int32)] [] (rx_hp L t hi15 hl15 v15) Q
                      refine rx_aw_s 3 (pc := 154) rfl ?_
                      show rx_aw 149 159 [.ref 1, .int a0, .int a1, .int a2, .int a3, .int a4, .int (1 : Int32)] [.int a2, .ref 88] (rx_hp L t hi15 hl15 v15) Q
                      refine rx_w_callI (j := 151) (pc := 159) rfl rfl rfl rfl rfl ?_
                      refine rx_aw.mono k (fun r h2 k => ?_)
                      obtain ⟨z16, rfl, hi16, hl16, v16, rfl, k⟩ := k
                      refine ⟨z16, rfl, ?_⟩
                      show rx_aw 149 162 [.ref 1, .int a0, .int a1, .int a2, .int a3, .int a4, .int (1 : Int32)] [.int z16] (rx_hp L t hi16 hl16 v16) Q
                      refine rx_aw_s 2 (pc := 162) rfl ?_
                      show rx_aw 149 166 [.ref 1, .int a0, .int a1, .int a2, .int a3, .int a4, .int (1 : Int32)] [.int (z16 + (10000 : Int32))] (rx_hp L t hi16 hl16 v16) Q
                      exact rx_aw_ret (pc := 166) rfl k
                    · have k := k.2 c14
                      show rx_aw 149 119 [.ref 1, .int a0, .int a1, .int a2, .int a3, .int a4, .int (1 : Int32)] [] (rx_hp L t hi3 hl3 v3) Q
                      refine rx_aw_s 1 (pc := 119) rfl ?_
                      show rx_aw 149 121 [.ref 1, .int a0, .int a1, .int a2, .int a3, .int a4, .int (1 : Int32)] [.int (-11 : Int32)] (rx_hp L t hi3 hl3 v3) Q
                      exact rx_aw_ret (pc := 121) rfl k
        · have k := k.2 c8
          show rx_aw 149 49 [.ref 1, .int a0, .int a1, .int a2, .int a3, .int a4, rx_no] [] (rx_hp L t hi3 hl3 v3) Q
          refine rx_aw_s 1 (pc := 49) rfl ?_
          show rx_aw 149 51 [.ref 1, .int a0, .int a1, .int a2, .int a3, .int a4, rx_no] [.int (-10 : Int32)] (rx_hp L t hi3 hl3 v3) Q
          exact rx_aw_ret (pc := 51) rfl k
      · have k := k.2 c6
        show rx_aw 149 49 [.ref 1, .int a0, .int a1, .int a2, .int a3, .int a4, rx_no] [] (rx_hp L t hi3 hl3 v3) Q
        refine rx_aw_s 1 (pc := 49) rfl ?_
        show rx_aw 149 51 [.ref 1, .int a0, .int a1, .int a2, .int a3, .int a4, rx_no] [.int (-10 : Int32)] (rx_hp L t hi3 hl3 v3) Q
        exact rx_aw_ret (pc := 51) rfl k
set_option maxRecDepth 100000 in
/-- CartFloor$Marks.sumOf(I)I -/
theorem w151_sumOf {L : Nat} {t : List (Nat × Nat)} {hi : Nat → Nat → Int32} {hl : Nat → Nat → Int64} {v : Nat → Nat → Option Nat} {Q : Option Value → rx_H → Prop} {a0 : Int32} (k : rx_aw 151 4 [.ref 88, .int a0, .int (0 : Int32), .int (0 : Int32)] [] (rx_hp L t hi hl v) Q) : rx_me 151 [.ref 88, .int a0] (rx_hp L t hi hl v) Q := by
  show rx_aw 151 0 [.ref 88, .int a0, rx_no, rx_no] [] (rx_hp L t hi hl v) Q
  refine rx_aw_s 4 (pc := 0) rfl ?_
  show rx_aw 151 4 [.ref 88, .int a0, .int (0 : Int32), .int (0 : Int32)] [] (rx_hp L t hi hl v) Q
  exact k
set_option maxRecDepth 100000 in
theorem w151_sumOf_4 {L : Nat} {t : List (Nat × Nat)} {hi : Nat → Nat → Int32} {hl : Nat → Nat → Int64} {v : Nat → Nat → Option Nat} {Q : Option Value → rx_H → Prop} {x1 : Int32} {x2 : Int32} {x3 : Int32} (k : (((hi 7 0) ≤ x3 → Q (some (.int x2)) (rx_hp L t hi hl v)) ∧ (¬ ((hi 7 0) ≤ x3) → (∃ j2 : Nat, ((x1 * (hi 7 0)) + x3) = nI j2 ∧ j2 < 64 ∧ rx_aw 151 4 [.ref 88, .int x1, .int (x2 + (hi 89 j2)), .int (x3 + (1 : Int32))] [] (rx_hp L t hi hl v) Q)))) : rx_aw 151 4 [.ref 88, .int x1, .int x2, .int x3] [] (rx_hp L t hi hl v) Q := by
  refine rx_aw_s 5 (pc := 4) rfl ?_
  refine rx_w_if (c := (hi 7 0) ≤ x3) ⟨fun c1 => ?_, fun c1 => ?_⟩
  · have k := k.1 c1
    show rx_aw 151 40 [.ref 88, .int x1, .int x2, .int x3] [] (rx_hp L t hi hl v) Q
    refine rx_aw_s 1 (pc := 40) rfl ?_
    show rx_aw 151 41 [.ref 88, .int x1, .int x2, .int x3] [.int x2] (rx_hp L t hi hl v) Q
    exact rx_aw_ret (pc := 41) rfl k
  · have k := k.2 c1
    show rx_aw 151 15 [.ref 88, .int x1, .int x2, .int x3] [] (rx_hp L t hi hl v) Q
    refine rx_aw_s 10 (pc := 15) rfl ?_
    show rx_aw 151 31 [.ref 88, .int x1, .int x2, .int x3] [.int ((x1 * (hi 7 0)) + x3), .ref 89, .int x2] (rx_hp L t hi hl v) Q
    obtain ⟨j2, ej2, hj2, k⟩ := k
    refine rx_aw_bald (pc := 31) (n := 64) j2 ej2 rfl (Or.inl rfl) (by decide) rfl hj2 (by decide) ?_
    show rx_aw 151 32 [.ref 88, .int x1, .int x2, .int x3] [.int (hi 89 j2), .int x2] (rx_hp L t hi hl v) Q
    refine rx_aw_s 4 (pc := 32) rfl ?_
    show rx_aw 151 4 [.ref 88, .int x1, .int (x2 + (hi 89 j2)), .int (x3 + (1 : Int32))] [] (rx_hp L t hi hl v) Q
    exact k
set_option maxRecDepth 100000 in
/-- CartFloor.line(II)I -/
theorem w152_line {L : Nat} {t : List (Nat × Nat)} {hi : Nat → Nat → Int32} {hl : Nat → Nat → Int64} {v : Nat → Nat → Option Nat} {Q : Option Value → rx_H → Prop} {a0 : Int32} {a1 : Int32} (k : ((a0 < 0 → Q (some (.int (-2 : Int32))) (rx_hp L t hi hl v)) ∧ (¬ (a0 < 0) → (((3 : Int32) < a0 → Q (some (.int (-2 : Int32))) (rx_hp L t hi hl v)) ∧ (¬ ((3 : Int32) < a0) → ((a1 ≤ (40 : Int32) → ((0 ≤ a1 → rx_me 153 [.ref 5, .int a0, .int a1] (rx_hp L t hi hl v) (fun r h2 => r = none ∧ rx_ok2 L t h2 (fun hi5 hl5 v5 => Q (some (.int a1)) (rx_hp L t hi5 hl5 v5)))) ∧ (¬ (0 ≤ a1) → Q (some (.int (-13 : Int32))) (rx_hp L t hi hl v)))) ∧ (¬ (a1 ≤ (40 : Int32)) → Q (some (.int (-2 : Int32))) (rx_hp L t hi hl v)))))))) : rx_me 152 [.ref 1, .int a0, .int a1] (rx_hp L t hi hl v) Q := by
  show rx_aw 152 0 [.ref 1, .int a0, .int a1] [] (rx_hp L t hi hl v) Q
  refine rx_aw_s 2 (pc := 0) rfl ?_
  refine rx_w_if (c := a0 < 0) ⟨fun c1 => ?_, fun c1 => ?_⟩
  · have k := k.1 c1
    show rx_aw 152 15 [.ref 1, .int a0, .int a1] [] (rx_hp L t hi hl v) Q
    refine rx_aw_s 1 (pc := 15) rfl ?_
    show rx_aw 152 17 [.ref 1, .int a0, .int a1] [.int (-2 : Int32)] (rx_hp L t hi hl v) Q
    exact rx_aw_ret (pc := 17) rfl k
  · have k := k.2 c1
    show rx_aw 152 4 [.ref 1, .int a0, .int a1] [] (rx_hp L t hi hl v) Q
    refine rx_aw_s 3 (pc := 4) rfl ?_
    refine rx_w_if (c := (3 : Int32) < a0) ⟨fun c2 => ?_, fun c2 => ?_⟩
    · have k := k.1 c2
      show rx_aw 152 15 [.ref 1, .int a0, .int a1] [] (rx_hp L t hi hl v) Q
      refine rx_aw_s 1 (pc := 15) rfl ?_
      show rx_aw 152 17 [.ref 1, .int a0, .int a1] [.int (-2 : Int32)] (rx_hp L t hi hl v) Q
      exact rx_aw_ret (pc := 17) rfl k
    · have k := k.2 c2
      show rx_aw 152 9 [.ref 1, .int a0, .int a1] [] (rx_hp L t hi hl v) Q
      refine rx_aw_s 3 (pc := 9) rfl ?_
      refine rx_w_if (c := a1 ≤ (40 : Int32)) ⟨fun c3 => ?_, fun c3 => ?_⟩
      · have k := k.1 c3
        show rx_aw 152 18 [.ref 1, .int a0, .int a1] [] (rx_hp L t hi hl v) Q
        refine rx_aw_s 2 (pc := 18) rfl ?_
        refine rx_w_if (c := 0 ≤ a1) ⟨fun c4 => ?_, fun c4 => ?_⟩
        · have k := k.1 c4
          show rx_aw 152 25 [.ref 1, .int a0, .int a1] [] (rx_hp L t hi hl v) Q
          refine rx_aw_s 4 (pc := 25) rfl ?_
          show rx_aw 152 31 [.ref 1, .int a0, .int a1] [.int a1, .int a0, .ref 5] (rx_hp L t hi hl v) Q
          refine rx_w_callV (j := 153) (pc := 31) rfl rfl rfl rfl rfl ?_
          refine rx_aw.mono k (fun r h2 k => ?_)
          obtain ⟨rfl, hi5, hl5, v5, rfl, k⟩ := k
          refine ⟨rfl, ?_⟩
          show rx_aw 152 34 [.ref 1, .int a0, .int a1] [] (rx_hp L t hi5 hl5 v5) Q
          refine rx_aw_s 1 (pc := 34) rfl ?_
          show rx_aw 152 35 [.ref 1, .int a0, .int a1] [.int a1] (rx_hp L t hi5 hl5 v5) Q
          exact rx_aw_ret (pc := 35) rfl k
        · have k := k.2 c4
          show rx_aw 152 22 [.ref 1, .int a0, .int a1] [] (rx_hp L t hi hl v) Q
          refine rx_aw_s 1 (pc := 22) rfl ?_
          show rx_aw 152 24 [.ref 1, .int a0, .int a1] [.int (-13 : Int32)] (rx_hp L t hi hl v) Q
          exact rx_aw_ret (pc := 24) rfl k
      · have k := k.2 c3
        show rx_aw 152 15 [.ref 1, .int a0, .int a1] [] (rx_hp L t hi hl v) Q
        refine rx_aw_s 1 (pc := 15) rfl ?_
        show rx_aw 152 17 [.ref 1, .int a0, .int a1] [.int (-2 : Int32)] (rx_hp L t hi hl v) Q
        exact rx_aw_ret (pc := 17) rfl k
set_option maxRecDepth 100000 in
/-- CartFloor$Line.filled()I -/
theorem w155_filled {L : Nat} {t : List (Nat × Nat)} {hi : Nat → Nat → Int32} {hl : Nat → Nat → Int64} {v : Nat → Nat → Option Nat} {Q : Option Value → rx_H → Prop}  (k : rx_aw 155 4 [.ref 5, .int (0 : Int32), .int (0 : Int32)] [] (rx_hp L t hi hl v) Q) : rx_me 155 [.ref 5] (rx_hp L t hi hl v) Q := by
  show rx_aw 155 0 [.ref 5, rx_no, rx_no] [] (rx_hp L t hi hl v) Q
  refine rx_aw_s 4 (pc := 0) rfl ?_
  show rx_aw 155 4 [.ref 5, .int (0 : Int32), .int (0 : Int32)] [] (rx_hp L t hi hl v) Q
  exact k
set_option maxRecDepth 100000 in
theorem w155_filled_4 {L : Nat} {t : List (Nat × Nat)} {hi : Nat → Nat → Int32} {hl : Nat → Nat → Int64} {v : Nat → Nat → Option Nat} {Q : Option Value → rx_H → Prop} {x1 : Int32} {x2 : Int32} (k : (((hi 5 2) ≤ x2 → Q (some (.int x1)) (rx_hp L t hi hl v)) ∧ (¬ ((hi 5 2) ≤ x2) → (∃ j2 : Nat, x2 = nI j2 ∧ j2 < 40 ∧ (((v 6 j2) = none ∧ rx_aw 155 4 [.ref 5, .int (x1 + (0 : Int32)), .int (x2 + (1 : Int32))] [] (rx_hp L t hi hl v) Q) ∨ (∃ q3 : Nat, q3 < 6 ∧ (v 6 j2) = some (rx_ct q3) ∧ rx_aw 155 4 [.ref 5, .int (x1 + (1 : Int32)), .int (x2 + (1 : Int32))] [] (rx_hp L t hi hl v) Q)))))) : rx_aw 155 4 [.ref 5, .int x1, .int x2] [] (rx_hp L t hi hl v) Q := by
  refine rx_aw_s 4 (pc := 4) rfl ?_
  refine rx_w_if (c := (hi 5 2) ≤ x2) ⟨fun c1 => ?_, fun c1 => ?_⟩
  · have k := k.1 c1
    show rx_aw 155 35 [.ref 5, .int x1, .int x2] [] (rx_hp L t hi hl v) Q
    refine rx_aw_s 1 (pc := 35) rfl ?_
    show rx_aw 155 36 [.ref 5, .int x1, .int x2] [.int x1] (rx_hp L t hi hl v) Q
    exact rx_aw_ret (pc := 36) rfl k
  · have k := k.2 c1
    show rx_aw 155 12 [.ref 5, .int x1, .int x2] [] (rx_hp L t hi hl v) Q
    refine rx_aw_s 4 (pc := 12) rfl ?_
    show rx_aw 155 18 [.ref 5, .int x1, .int x2] [.int x2, .ref 6, .int x1] (rx_hp L t hi hl v) Q
    obtain ⟨j2, ej2, hj2, k⟩ := k
    refine rx_aw_aald (pc := 18) (n := 40) j2 ej2 rfl (Or.inl rfl) (by decide) rfl hj2 (by decide) ?_
    show rx_aw 155 19 [.ref 5, .int x1, .int x2] [va_rf (v 6 j2), .int x1] (rx_hp L t hi hl v) Q
    rcases k with ⟨eq3, k⟩ | ⟨q3, hq3, eq3, k⟩
    · rw [eq3]
      show rx_aw 155 19 [.ref 5, .int x1, .int x2] [.null, .int x1] (rx_hp L t hi hl v) Q
      refine rx_aw_s 6 (pc := 19) rfl ?_
      show rx_aw 155 4 [.ref 5, .int (x1 + (0 : Int32)), .int (x2 + (1 : Int32))] [] (rx_hp L t hi hl v) Q
      exact k
    · rw [eq3]
      show rx_aw 155 19 [.ref 5, .int x1, .int x2] [.ref (rx_ct q3), .int x1] (rx_hp L t hi hl v) Q
      refine rx_aw_s 7 (pc := 19) rfl ?_
      show rx_aw 155 4 [.ref 5, .int (x1 + (1 : Int32)), .int (x2 + (1 : Int32))] [] (rx_hp L t hi hl v) Q
      exact k
set_option maxRecDepth 100000 in
/-- CartFloor.mean(I)I -/
theorem w156_mean {L : Nat} {t : List (Nat × Nat)} {hi : Nat → Nat → Int32} {hl : Nat → Nat → Int64} {v : Nat → Nat → Option Nat} {Q : Option Value → rx_H → Prop} {a0 : Int32} (k : ((0 ≤ (hi 5 2) → ((a0 = 0 → Q (some (.int (-15 : Int32))) (rx_hp L t hi hl v)) ∧ (¬ (a0 = 0) → rx_me 157 [.ref 5] (rx_hp L t hi hl v) (fun r h2 => ∃ z3 : Int32, r = some (.int z3) ∧ rx_ok2 L t h2 (fun hi3 hl3 v3 => (¬ a0 = 0 ∧ Q (some (.int (z3 / a0))) (rx_hp L t hi3 hl3 v3))))))) ∧ (¬ (0 ≤ (hi 5 2)) → Q (some (.int (-10 : Int32))) (rx_hp L t hi hl v)))) : rx_me 156 [.ref 1, .int a0] (rx_hp L t hi hl v) Q := by
  show rx_aw 156 0 [.ref 1, .int a0] [] (rx_hp L t hi hl v) Q
  refine rx_aw_s 4 (pc := 0) rfl ?_
  refine rx_w_if (c := 0 ≤ (hi 5 2)) ⟨fun c1 => ?_, fun c1 => ?_⟩
  · have k := k.1 c1
    show rx_aw 156 13 [.ref 1, .int a0] [] (rx_hp L t hi hl v) Q
    refine rx_aw_s 2 (pc := 13) rfl ?_
    refine rx_w_ifn (c := a0 = 0) ⟨fun c2 => ?_, fun c2 => ?_⟩
    · have k := k.1 c2
      show rx_aw 156 17 [.ref 1, .int a0] [] (rx_hp L t hi hl v) Q
      refine rx_aw_s 2 (pc := 17) rfl ?_
      show rx_aw 156 31 [.ref 1, .int a0] [.int (-15 : Int32)] (rx_hp L t hi hl v) Q
      exact rx_aw_ret (pc := 31) rfl k
    · have k := k.2 c2
      show rx_aw 156 22 [.ref 1, .int a0] [] (rx_hp L t hi hl v) Q
      refine rx_aw_s 2 (pc := 22) rfl ?_
      show rx_aw 156 26 [.ref 1, .int a0] [.ref 5] (rx_hp L t hi hl v) Q
      refine rx_w_callI (j := 157) (pc := 26) rfl rfl rfl rfl rfl ?_
      refine rx_aw.mono k (fun r h2 k => ?_)
      obtain ⟨z3, rfl, hi3, hl3, v3, rfl, k⟩ := k
      refine ⟨z3, rfl, ?_⟩
      show rx_aw 156 29 [.ref 1, .int a0] [.int z3] (rx_hp L t hi3 hl3 v3) Q
      refine rx_aw_s 1 (pc := 29) rfl ?_
      show rx_aw 156 30 [.ref 1, .int a0] [.int a0, .int z3] (rx_hp L t hi3 hl3 v3) Q
      refine rx_aw_div (pc := 30) rfl k.1 ?_
      have k := k.2
      show rx_aw 156 31 [.ref 1, .int a0] [.int (z3 / a0)] (rx_hp L t hi3 hl3 v3) Q
      exact rx_aw_ret (pc := 31) rfl k
  · have k := k.2 c1
    show rx_aw 156 10 [.ref 1, .int a0] [] (rx_hp L t hi hl v) Q
    refine rx_aw_s 1 (pc := 10) rfl ?_
    show rx_aw 156 12 [.ref 1, .int a0] [.int (-10 : Int32)] (rx_hp L t hi hl v) Q
    exact rx_aw_ret (pc := 12) rfl k
set_option maxRecDepth 100000 in
/-- CartFloor$Line.sumOfEnds()I -/
theorem w157_sumOfEnds {L : Nat} {t : List (Nat × Nat)} {hi : Nat → Nat → Int32} {hl : Nat → Nat → Int64} {v : Nat → Nat → Option Nat} {Q : Option Value → rx_H → Prop}  (k : rx_aw 157 4 [.ref 5, .int (0 : Int32), .int (0 : Int32), rx_no] [] (rx_hp L t hi hl v) Q) : rx_me 157 [.ref 5] (rx_hp L t hi hl v) Q := by
  show rx_aw 157 0 [.ref 5, rx_no, rx_no, rx_no] [] (rx_hp L t hi hl v) Q
  refine rx_aw_s 4 (pc := 0) rfl ?_
  show rx_aw 157 4 [.ref 5, .int (0 : Int32), .int (0 : Int32), rx_no] [] (rx_hp L t hi hl v) Q
  exact k
set_option maxRecDepth 100000 in
theorem w157_sumOfEnds_4 {L : Nat} {t : List (Nat × Nat)} {hi : Nat → Nat → Int32} {hl : Nat → Nat → Int64} {v : Nat → Nat → Option Nat} {Q : Option Value → rx_H → Prop} {x1 : Int32} {x2 : Int32} (k : (((hi 5 2) ≤ x2 → Q (some (.int x1)) (rx_hp L t hi hl v)) ∧ (¬ ((hi 5 2) ≤ x2) → (∃ j2 : Nat, x2 = nI j2 ∧ j2 < 40 ∧ (((v 6 j2) = none ∧ rx_aw 157 4 [.ref 5, .int (x1 + (0 : Int32)), .int (x2 + (1 : Int32)), rx_no] [] (rx_hp L t hi hl v) Q) ∨ (∃ q3 : Nat, q3 < 6 ∧ (v 6 j2) = some (rx_ct q3) ∧ rx_aw 157 4 [.ref 5, .int (x1 + (hi (rx_ct q3) 7)), .int (x2 + (1 : Int32)), rx_no] [] (rx_hp L t hi hl v) Q)))))) : rx_aw 157 4 [.ref 5, .int x1, .int x2, rx_no] [] (rx_hp L t hi hl v) Q := by
  refine rx_aw_s 4 (pc := 4) rfl ?_
  refine rx_w_if (c := (hi 5 2) ≤ x2) ⟨fun c1 => ?_, fun c1 => ?_⟩
  · have k := k.1 c1
    show rx_aw 157 40 [.ref 5, .int x1, .int x2, rx_no] [] (rx_hp L t hi hl v) Q
    refine rx_aw_s 1 (pc := 40) rfl ?_
    show rx_aw 157 41 [.ref 5, .int x1, .int x2, rx_no] [.int x1] (rx_hp L t hi hl v) Q
    exact rx_aw_ret (pc := 41) rfl k
  · have k := k.2 c1
    show rx_aw 157 12 [.ref 5, .int x1, .int x2, rx_no] [] (rx_hp L t hi hl v) Q
    refine rx_aw_s 3 (pc := 12) rfl ?_
    show rx_aw 157 17 [.ref 5, .int x1, .int x2, rx_no] [.int x2, .ref 6] (rx_hp L t hi hl v) Q
    obtain ⟨j2, ej2, hj2, k⟩ := k
    refine rx_aw_aald (pc := 17) (n := 40) j2 ej2 rfl (Or.inl rfl) (by decide) rfl hj2 (by decide) ?_
    show rx_aw 157 18 [.ref 5, .int x1, .int x2, rx_no] [va_rf (v 6 j2)] (rx_hp L t hi hl v) Q
    rcases k with ⟨eq3, k⟩ | ⟨q3, hq3, eq3, k⟩
    · rw [eq3]
      show rx_aw 157 18 [.ref 5, .int x1, .int x2, rx_no] [.null] (rx_hp L t hi hl v) Q
      refine rx_aw_s 9 (pc := 18) rfl ?_
      show rx_aw 157 4 [.ref 5, .int (x1 + (0 : Int32)), .int (x2 + (1 : Int32)), .null] [] (rx_hp L t hi hl v) Q
      exact rx_aw_le (ls := [.ref 5, .int (x1 + (0 : Int32)), .int (x2 + (1 : Int32)), rx_no]) ⟨Or.inr rfl, ⟨Or.inr rfl, ⟨Or.inr rfl, ⟨Or.inl rfl, trivial⟩⟩⟩⟩ k
    · rw [eq3]
      show rx_aw 157 18 [.ref 5, .int x1, .int x2, rx_no] [.ref (rx_ct q3)] (rx_hp L t hi hl v) Q
      refine rx_aw_s 5 (pc := 18) rfl ?_
      show rx_aw 157 25 [.ref 5, .int x1, .int x2, .ref (rx_ct q3)] [.ref (rx_ct q3), .int x1] (rx_hp L t hi hl v) Q
      refine rx_w_cg hq3 (pc := 25) rfl (by decide) (by decide) ?_
      show rx_aw 157 28 [.ref 5, .int x1, .int x2, .ref (rx_ct q3)] [.int (hi (rx_ct q3) 7), .int x1] (rx_hp L t hi hl v) Q
      refine rx_aw_s 5 (pc := 28) rfl ?_
      show rx_aw 157 4 [.ref 5, .int (x1 + (hi (rx_ct q3) 7)), .int (x2 + (1 : Int32)), .ref (rx_ct q3)] [] (rx_hp L t hi hl v) Q
      exact rx_aw_le (ls := [.ref 5, .int (x1 + (hi (rx_ct q3) 7)), .int (x2 + (1 : Int32)), rx_no]) ⟨Or.inr rfl, ⟨Or.inr rfl, ⟨Or.inr rfl, ⟨Or.inl rfl, trivial⟩⟩⟩⟩ k
set_option maxRecDepth 100000 in
/-- CartFloorModel.plan(I)I -/
theorem w160_plan_r {L : Nat} {t : List (Nat × Nat)} {hi : Nat → Nat → Int32} {hl : Nat → Nat → Int64} {v : Nat → Nat → Option Nat} {Q : Option Value → rx_H → Prop} {a0 : Int32} (k : rx_me 161 [.ref 90, .int a0] (rx_hp L t hi hl v) (fun r h2 => ∃ z1 : Int32, r = some (.int z1) ∧ rx_ok2 L t h2 (fun hi1 hl1 v1 => ((z1 = 0 → Q (some (.int (-2 : Int32))) (rx_hp L t hi1 hl1 v1)) ∧ (¬ (z1 = 0) → rx_me 162 [.ref 90, .int a0] (rx_hp L t hi1 hl1 v1) (fun r h2 => ∃ z3 : Int32, r = some (.int z3) ∧ rx_ok2 L t h2 (fun hi3 hl3 v3 => ((z3 = 0 → Q (some (.int (-2 : Int32))) (rx_hp L t hi3 hl3 v3)) ∧ (¬ (z3 = 0) → rx_me 163 [.ref 90, .int a0] (rx_hp L t hi3 hl3 v3) (fun r h2 => ∃ z5 : Int32, r = some (.int z5) ∧ rx_ok2 L t h2 (fun hi5 hl5 v5 => ((z5 = 0 → Q (some (.int (-1 : Int32))) (rx_hp L t hi5 hl5 v5)) ∧ (¬ (z5 = 0) → (∃ j7 : Nat, a0 = nI j7 ∧ j7 < 6 ∧ Q (some (.int (hi5 94 j7))) (rx_hp L t hi5 hl5 v5))))))))))))))) : rx_me 160 [.ref 90, .int a0] (rx_hp L t hi hl v) Q := by
  show rx_aw 160 0 [.ref 90, .int a0] [] (rx_hp L t hi hl v) Q
  refine rx_aw_s 2 (pc := 0) rfl ?_
  show rx_aw 160 2 [.ref 90, .int a0] [.int a0, .ref 90] (rx_hp L t hi hl v) Q
  refine rx_w_callI (j := 161) (pc := 2) rfl rfl rfl rfl rfl ?_
  refine rx_aw.mono k (fun r h2 k => ?_)
  obtain ⟨z1, rfl, hi1, hl1, v1, rfl, k⟩ := k
  refine ⟨z1, rfl, ?_⟩
  show rx_aw 160 5 [.ref 90, .int a0] [.int z1] (rx_hp L t hi1 hl1 v1) Q
  refine rx_aw_s 1 (pc := 5) rfl ?_
  refine rx_w_if (c := z1 = 0) ⟨fun c2 => ?_, fun c2 => ?_⟩
  · have k := k.1 c2
    show rx_aw 160 16 [.ref 90, .int a0] [] (rx_hp L t hi1 hl1 v1) Q
    refine rx_aw_s 1 (pc := 16) rfl ?_
    show rx_aw 160 18 [.ref 90, .int a0] [.int (-2 : Int32)] (rx_hp L t hi1 hl1 v1) Q
    exact rx_aw_ret (pc := 18) rfl k
  · have k := k.2 c2
    show rx_aw 160 8 [.ref 90, .int a0] [] (rx_hp L t hi1 hl1 v1) Q
    refine rx_aw_s 2 (pc := 8) rfl ?_
    show rx_aw 160 10 [.ref 90, .int a0] [.int a0, .ref 90] (rx_hp L t hi1 hl1 v1) Q
    refine rx_w_callI (j := 162) (pc := 10) rfl rfl rfl rfl rfl ?_
    refine rx_aw.mono k (fun r h2 k => ?_)
    obtain ⟨z3, rfl, hi3, hl3, v3, rfl, k⟩ := k
    refine ⟨z3, rfl, ?_⟩
    show rx_aw 160 13 [.ref 90, .int a0] [.int z3] (rx_hp L t hi3 hl3 v3) Q
    refine rx_aw_s 1 (pc := 13) rfl ?_
    refine rx_w_ifn (c := z3 = 0) ⟨fun c4 => ?_, fun c4 => ?_⟩
    · have k := k.1 c4
      show rx_aw 160 16 [.ref 90, .int a0] [] (rx_hp L t hi3 hl3 v3) Q
      refine rx_aw_s 1 (pc := 16) rfl ?_
      show rx_aw 160 18 [.ref 90, .int a0] [.int (-2 : Int32)] (rx_hp L t hi3 hl3 v3) Q
      exact rx_aw_ret (pc := 18) rfl k
    · have k := k.2 c4
      show rx_aw 160 19 [.ref 90, .int a0] [] (rx_hp L t hi3 hl3 v3) Q
      refine rx_aw_s 2 (pc := 19) rfl ?_
      show rx_aw 160 21 [.ref 90, .int a0] [.int a0, .ref 90] (rx_hp L t hi3 hl3 v3) Q
      refine rx_w_callI (j := 163) (pc := 21) rfl rfl rfl rfl rfl ?_
      refine rx_aw.mono k (fun r h2 k => ?_)
      obtain ⟨z5, rfl, hi5, hl5, v5, rfl, k⟩ := k
      refine ⟨z5, rfl, ?_⟩
      show rx_aw 160 24 [.ref 90, .int a0] [.int z5] (rx_hp L t hi5 hl5 v5) Q
      refine rx_aw_s 1 (pc := 24) rfl ?_
      refine rx_w_if (c := z5 = 0) ⟨fun c6 => ?_, fun c6 => ?_⟩
      · have k := k.1 c6
        show rx_aw 160 36 [.ref 90, .int a0] [] (rx_hp L t hi5 hl5 v5) Q
        refine rx_aw_s 1 (pc := 36) rfl ?_
        show rx_aw 160 37 [.ref 90, .int a0] [.int (-1 : Int32)] (rx_hp L t hi5 hl5 v5) Q
        exact rx_aw_ret (pc := 37) rfl k
      · have k := k.2 c6
        show rx_aw 160 27 [.ref 90, .int a0] [] (rx_hp L t hi5 hl5 v5) Q
        refine rx_aw_s 3 (pc := 27) rfl ?_
        show rx_aw 160 32 [.ref 90, .int a0] [.int a0, .ref 94] (rx_hp L t hi5 hl5 v5) Q
        obtain ⟨j7, ej7, hj7, k⟩ := k
        refine rx_aw_iald (pc := 32) (n := 6) j7 ej7 rfl rfl rfl hj7 (by decide) ?_
        show rx_aw 160 33 [.ref 90, .int a0] [.int (hi5 94 j7)] (rx_hp L t hi5 hl5 v5) Q
        refine rx_aw_s 1 (pc := 33) rfl ?_
        show rx_aw 160 37 [.ref 90, .int a0] [.int (hi5 94 j7)] (rx_hp L t hi5 hl5 v5) Q
        exact rx_aw_ret (pc := 37) rfl k
set_option maxRecDepth 100000 in
/-- CartFloorModel.isCart(I)Z -/
theorem w161_isCart_r {L : Nat} {t : List (Nat × Nat)} {hi : Nat → Nat → Int32} {hl : Nat → Nat → Int64} {v : Nat → Nat → Option Nat} {Q : Option Value → rx_H → Prop} {a0 : Int32} (k : ((a0 < 0 → Q (some (.int (0 : Int32))) (rx_hp L t hi hl v)) ∧ (¬ (a0 < 0) → (((hi 90 6) ≤ a0 → Q (some (.int (0 : Int32))) (rx_hp L t hi hl v)) ∧ (¬ ((hi 90 6) ≤ a0) → Q (some (.int (1 : Int32))) (rx_hp L t hi hl v)))))) : rx_me 161 [.ref 90, .int a0] (rx_hp L t hi hl v) Q := by
  show rx_aw 161 0 [.ref 90, .int a0] [] (rx_hp L t hi hl v) Q
  refine rx_aw_s 2 (pc := 0) rfl ?_
  refine rx_w_if (c := a0 < 0) ⟨fun c1 => ?_, fun c1 => ?_⟩
  · have k := k.1 c1
    show rx_aw 161 16 [.ref 90, .int a0] [] (rx_hp L t hi hl v) Q
    refine rx_aw_s 1 (pc := 16) rfl ?_
    show rx_aw 161 17 [.ref 90, .int a0] [.int (0 : Int32)] (rx_hp L t hi hl v) Q
    exact rx_aw_ret (pc := 17) rfl k
  · have k := k.2 c1
    show rx_aw 161 4 [.ref 90, .int a0] [] (rx_hp L t hi hl v) Q
    refine rx_aw_s 4 (pc := 4) rfl ?_
    refine rx_w_if (c := (hi 90 6) ≤ a0) ⟨fun c2 => ?_, fun c2 => ?_⟩
    · have k := k.1 c2
      show rx_aw 161 16 [.ref 90, .int a0] [] (rx_hp L t hi hl v) Q
      refine rx_aw_s 1 (pc := 16) rfl ?_
      show rx_aw 161 17 [.ref 90, .int a0] [.int (0 : Int32)] (rx_hp L t hi hl v) Q
      exact rx_aw_ret (pc := 17) rfl k
    · have k := k.2 c2
      show rx_aw 161 12 [.ref 90, .int a0] [] (rx_hp L t hi hl v) Q
      refine rx_aw_s 2 (pc := 12) rfl ?_
      show rx_aw 161 17 [.ref 90, .int a0] [.int (1 : Int32)] (rx_hp L t hi hl v) Q
      exact rx_aw_ret (pc := 17) rfl k
set_option maxRecDepth 100000 in
/-- CartFloorModel.isOpen(I)Z -/
theorem w162_isOpen_r {L : Nat} {t : List (Nat × Nat)} {hi : Nat → Nat → Int32} {hl : Nat → Nat → Int64} {v : Nat → Nat → Option Nat} {Q : Option Value → rx_H → Prop} {a0 : Int32} (k : (∃ j1 : Nat, a0 = nI j1 ∧ j1 < 6 ∧ (((hi 96 j1) = 0 → Q (some (.int (0 : Int32))) (rx_hp L t hi hl v)) ∧ (¬ ((hi 96 j1) = 0) → (∃ j3 : Nat, a0 = nI j3 ∧ j3 < 6 ∧ (((hi 99 j3) = 0 → (∃ j5 : Nat, a0 = nI j5 ∧ j5 < 6 ∧ (((hi 100 j5) = 0 → Q (some (.int (1 : Int32))) (rx_hp L t hi hl v)) ∧ (¬ ((hi 100 j5) = 0) → Q (some (.int (0 : Int32))) (rx_hp L t hi hl v))))) ∧ (¬ ((hi 99 j3) = 0) → Q (some (.int (0 : Int32))) (rx_hp L t hi hl v)))))))) : rx_me 162 [.ref 90, .int a0] (rx_hp L t hi hl v) Q := by
  show rx_aw 162 0 [.ref 90, .int a0] [] (rx_hp L t hi hl v) Q
  refine rx_aw_s 3 (pc := 0) rfl ?_
  show rx_aw 162 5 [.ref 90, .int a0] [.int a0, .ref 96] (rx_hp L t hi hl v) Q
  obtain ⟨j1, ej1, hj1, k⟩ := k
  refine rx_aw_bald (pc := 5) (n := 6) j1 ej1 rfl (Or.inr rfl) (by decide) rfl hj1 (by decide) ?_
  show rx_aw 162 6 [.ref 90, .int a0] [.int (hi 96 j1)] (rx_hp L t hi hl v) Q
  refine rx_aw_s 1 (pc := 6) rfl ?_
  refine rx_w_if (c := (hi 96 j1) = 0) ⟨fun c2 => ?_, fun c2 => ?_⟩
  · have k := k.1 c2
    show rx_aw 162 31 [.ref 90, .int a0] [] (rx_hp L t hi hl v) Q
    refine rx_aw_s 1 (pc := 31) rfl ?_
    show rx_aw 162 32 [.ref 90, .int a0] [.int (0 : Int32)] (rx_hp L t hi hl v) Q
    exact rx_aw_ret (pc := 32) rfl k
  · have k := k.2 c2
    show rx_aw 162 9 [.ref 90, .int a0] [] (rx_hp L t hi hl v) Q
    refine rx_aw_s 3 (pc := 9) rfl ?_
    show rx_aw 162 14 [.ref 90, .int a0] [.int a0, .ref 99] (rx_hp L t hi hl v) Q
    obtain ⟨j3, ej3, hj3, k⟩ := k
    refine rx_aw_bald (pc := 14) (n := 6) j3 ej3 rfl (Or.inr rfl) (by decide) rfl hj3 (by decide) ?_
    show rx_aw 162 15 [.ref 90, .int a0] [.int (hi 99 j3)] (rx_hp L t hi hl v) Q
    refine rx_aw_s 1 (pc := 15) rfl ?_
    refine rx_w_ifn (c := (hi 99 j3) = 0) ⟨fun c4 => ?_, fun c4 => ?_⟩
    · have k := k.1 c4
      show rx_aw 162 18 [.ref 90, .int a0] [] (rx_hp L t hi hl v) Q
      refine rx_aw_s 3 (pc := 18) rfl ?_
      show rx_aw 162 23 [.ref 90, .int a0] [.int a0, .ref 100] (rx_hp L t hi hl v) Q
      obtain ⟨j5, ej5, hj5, k⟩ := k
      refine rx_aw_iald (pc := 23) (n := 6) j5 ej5 rfl rfl rfl hj5 (by decide) ?_
      show rx_aw 162 24 [.ref 90, .int a0] [.int (hi 100 j5)] (rx_hp L t hi hl v) Q
      refine rx_aw_s 1 (pc := 24) rfl ?_
      refine rx_w_ifn (c := (hi 100 j5) = 0) ⟨fun c6 => ?_, fun c6 => ?_⟩
      · have k := k.1 c6
        show rx_aw 162 27 [.ref 90, .int a0] [] (rx_hp L t hi hl v) Q
        refine rx_aw_s 2 (pc := 27) rfl ?_
        show rx_aw 162 32 [.ref 90, .int a0] [.int (1 : Int32)] (rx_hp L t hi hl v) Q
        exact rx_aw_ret (pc := 32) rfl k
      · have k := k.2 c6
        show rx_aw 162 31 [.ref 90, .int a0] [] (rx_hp L t hi hl v) Q
        refine rx_aw_s 1 (pc := 31) rfl ?_
        show rx_aw 162 32 [.ref 90, .int a0] [.int (0 : Int32)] (rx_hp L t hi hl v) Q
        exact rx_aw_ret (pc := 32) rfl k
    · have k := k.2 c4
      show rx_aw 162 31 [.ref 90, .int a0] [] (rx_hp L t hi hl v) Q
      refine rx_aw_s 1 (pc := 31) rfl ?_
      show rx_aw 162 32 [.ref 90, .int a0] [.int (0 : Int32)] (rx_hp L t hi hl v) Q
      exact rx_aw_ret (pc := 32) rfl k
set_option maxRecDepth 100000 in
/-- CartFloorModel.plans(I)Z -/
theorem w163_plans_r {L : Nat} {t : List (Nat × Nat)} {hi : Nat → Nat → Int32} {hl : Nat → Nat → Int64} {v : Nat → Nat → Option Nat} {Q : Option Value → rx_H → Prop} {a0 : Int32} (k : (∃ j1 : Nat, a0 = nI j1 ∧ j1 < 6 ∧ rx_me 164 [.ref 90, .int a0] (rx_hp L t hi hl v) (fun r h2 => ∃ z2 : Int32, r = some (.int z2) ∧ rx_ok2 L t h2 (fun hi2 hl2 v2 => ((z2 = 0 → (∃ j4 : Nat, a0 = nI j4 ∧ j4 < 6 ∧ rx_me 191 [.ref 90] (rx_hp L t (rx_u hi2 94 j4 (hi 94 j1)) hl2 v2) (fun r h2 => r = none ∧ rx_ok2 L t h2 (fun hi5 hl5 v5 => (∃ j6 : Nat, a0 = nI j6 ∧ j6 < 6 ∧ (∃ j7 : Nat, a0 = nI j7 ∧ j7 < 6 ∧ ((z2 = 0 ∨ z2 = 1) ∧ Q (some (.int z2)) (rx_hp L t (rx_u hi5 99 j7 (vp_nar .boolean ((hi5 99 j6) ||| z2))) hl5 v5)))))))) ∧ (¬ (z2 = 0) → (∃ j8 : Nat, a0 = nI j8 ∧ j8 < 6 ∧ (∃ j9 : Nat, a0 = nI j9 ∧ j9 < 6 ∧ ((z2 = 0 ∨ z2 = 1) ∧ Q (some (.int z2)) (rx_hp L t (rx_u hi2 99 j9 (vp_nar .boolean ((hi2 99 j8) ||| z2))) hl2 v2)))))))))) : rx_me 163 [.ref 90, .int a0] (rx_hp L t hi hl v) Q := by
  show rx_aw 163 0 [.ref 90, .int a0, rx_no, rx_no] [] (rx_hp L t hi hl v) Q
  refine rx_aw_s 3 (pc := 0) rfl ?_
  show rx_aw 163 5 [.ref 90, .int a0, rx_no, rx_no] [.int a0, .ref 94] (rx_hp L t hi hl v) Q
  obtain ⟨j1, ej1, hj1, k⟩ := k
  refine rx_aw_iald (pc := 5) (n := 6) j1 ej1 rfl rfl rfl hj1 (by decide) ?_
  show rx_aw 163 6 [.ref 90, .int a0, rx_no, rx_no] [.int (hi 94 j1)] (rx_hp L t hi hl v) Q
  refine rx_aw_s 3 (pc := 6) rfl ?_
  show rx_aw 163 9 [.ref 90, .int a0, .int (hi 94 j1), rx_no] [.int a0, .ref 90] (rx_hp L t hi hl v) Q
  refine rx_w_callI (j := 164) (pc := 9) rfl rfl rfl rfl rfl ?_
  refine rx_aw.mono k (fun r h2 k => ?_)
  obtain ⟨z2, rfl, hi2, hl2, v2, rfl, k⟩ := k
  refine ⟨z2, rfl, ?_⟩
  show rx_aw 163 12 [.ref 90, .int a0, .int (hi 94 j1), rx_no] [.int z2] (rx_hp L t hi2 hl2 v2) Q
  refine rx_aw_s 3 (pc := 12) rfl ?_
  refine rx_w_ifn (c := z2 = 0) ⟨fun c3 => ?_, fun c3 => ?_⟩
  · have k := k.1 c3
    show rx_aw 163 17 [.ref 90, .int a0, .int (hi 94 j1), .int z2] [] (rx_hp L t hi2 hl2 v2) Q
    refine rx_aw_s 4 (pc := 17) rfl ?_
    show rx_aw 163 23 [.ref 90, .int a0, .int (hi 94 j1), .int z2] [.int (hi 94 j1), .int a0, .ref 94] (rx_hp L t hi2 hl2 v2) Q
    obtain ⟨j4, ej4, hj4, k⟩ := k
    refine rx_aw_iast (pc := 23) (n := 6) j4 ej4 rfl rfl (by decide) rfl hj4 (by decide) ?_
    show rx_aw 163 24 [.ref 90, .int a0, .int (hi 94 j1), .int z2] [] (rx_hp L t (rx_u hi2 94 j4 (hi 94 j1)) hl2 v2) Q
    refine rx_aw_s 1 (pc := 24) rfl ?_
    show rx_aw 163 25 [.ref 90, .int a0, .int (hi 94 j1), .int z2] [.ref 90] (rx_hp L t (rx_u hi2 94 j4 (hi 94 j1)) hl2 v2) Q
    refine rx_w_callV (j := 191) (pc := 25) rfl rfl rfl rfl rfl ?_
    refine rx_aw.mono k (fun r h2 k => ?_)
    obtain ⟨rfl, hi5, hl5, v5, rfl, k⟩ := k
    refine ⟨rfl, ?_⟩
    show rx_aw 163 28 [.ref 90, .int a0, .int (hi 94 j1), .int z2] [] (rx_hp L t hi5 hl5 v5) Q
    refine rx_aw_s 4 (pc := 28) rfl ?_
    show rx_aw 163 34 [.ref 90, .int a0, .int (hi 94 j1), .int z2] [.int a0, .ref 99, .int a0, .ref 99] (rx_hp L t hi5 hl5 v5) Q
    obtain ⟨j6, ej6, hj6, k⟩ := k
    refine rx_aw_bald (pc := 34) (n := 6) j6 ej6 rfl (Or.inr rfl) (by decide) rfl hj6 (by decide) ?_
    show rx_aw 163 35 [.ref 90, .int a0, .int (hi 94 j1), .int z2] [.int (hi5 99 j6), .int a0, .ref 99] (rx_hp L t hi5 hl5 v5) Q
    refine rx_aw_s 2 (pc := 35) rfl ?_
    show rx_aw 163 37 [.ref 90, .int a0, .int (hi 94 j1), .int z2] [.int ((hi5 99 j6) ||| z2), .int a0, .ref 99] (rx_hp L t hi5 hl5 v5) Q
    obtain ⟨j7, ej7, hj7, k⟩ := k
    refine rx_aw_zast (pc := 37) (n := 6) j7 ej7 rfl rfl (by decide) rfl hj7 (by decide) ?_
    show rx_aw 163 38 [.ref 90, .int a0, .int (hi 94 j1), .int z2] [] (rx_hp L t (rx_u hi5 99 j7 (vp_nar .boolean ((hi5 99 j6) ||| z2))) hl5 v5) Q
    refine rx_aw_s 1 (pc := 38) rfl ?_
    show rx_aw 163 39 [.ref 90, .int a0, .int (hi 94 j1), .int z2] [.int z2] (rx_hp L t (rx_u hi5 99 j7 (vp_nar .boolean ((hi5 99 j6) ||| z2))) hl5 v5) Q
    exact rx_w_zret (pc := 39) rfl rfl k
  · have k := k.2 c3
    show rx_aw 163 28 [.ref 90, .int a0, .int (hi 94 j1), .int z2] [] (rx_hp L t hi2 hl2 v2) Q
    refine rx_aw_s 4 (pc := 28) rfl ?_
    show rx_aw 163 34 [.ref 90, .int a0, .int (hi 94 j1), .int z2] [.int a0, .ref 99, .int a0, .ref 99] (rx_hp L t hi2 hl2 v2) Q
    obtain ⟨j8, ej8, hj8, k⟩ := k
    refine rx_aw_bald (pc := 34) (n := 6) j8 ej8 rfl (Or.inr rfl) (by decide) rfl hj8 (by decide) ?_
    show rx_aw 163 35 [.ref 90, .int a0, .int (hi 94 j1), .int z2] [.int (hi2 99 j8), .int a0, .ref 99] (rx_hp L t hi2 hl2 v2) Q
    refine rx_aw_s 2 (pc := 35) rfl ?_
    show rx_aw 163 37 [.ref 90, .int a0, .int (hi 94 j1), .int z2] [.int ((hi2 99 j8) ||| z2), .int a0, .ref 99] (rx_hp L t hi2 hl2 v2) Q
    obtain ⟨j9, ej9, hj9, k⟩ := k
    refine rx_aw_zast (pc := 37) (n := 6) j9 ej9 rfl rfl (by decide) rfl hj9 (by decide) ?_
    show rx_aw 163 38 [.ref 90, .int a0, .int (hi 94 j1), .int z2] [] (rx_hp L t (rx_u hi2 99 j9 (vp_nar .boolean ((hi2 99 j8) ||| z2))) hl2 v2) Q
    refine rx_aw_s 1 (pc := 38) rfl ?_
    show rx_aw 163 39 [.ref 90, .int a0, .int (hi 94 j1), .int z2] [.int z2] (rx_hp L t (rx_u hi2 99 j9 (vp_nar .boolean ((hi2 99 j8) ||| z2))) hl2 v2) Q
    exact rx_w_zret (pc := 39) rfl rfl k
set_option maxRecDepth 100000 in
/-- CartFloorModel.goesAll(I)Z -/
theorem w164_goesAll_r {L : Nat} {t : List (Nat × Nat)} {hi : Nat → Nat → Int32} {hl : Nat → Nat → Int64} {v : Nat → Nat → Option Nat} {Q : Option Value → rx_H → Prop} {a0 : Int32} (k : (∃ j1 : Nat, a0 = nI j1 ∧ j1 < 6 ∧ ((0 ≤ (hi 98 j1) → (∃ j3 : Nat, a0 = nI j3 ∧ j3 < 6 ∧ (∃ j4 : Nat, (((402 : Int32) * a0) + (hi 94 j3)) = nI j4 ∧ j4 < 2412 ∧ (((hi 103 j4) = (hi 98 j1) → (∃ j6 : Nat, a0 = nI j6 ∧ j6 < 6 ∧ rx_me 165 [.ref 90, .int a0, .int (hi 97 j6), .int (-1 : Int32), .int (1 : Int32)] (rx_hp L t hi hl v) (fun r h2 => ∃ z7 : Int32, r = some (.int z7) ∧ rx_ok2 L t h2 (fun hi7 hl7 v7 => ((z7 = 0 → Q (some (.int (0 : Int32))) (rx_hp L t hi7 hl7 v7)) ∧ (¬ (z7 = 0) → rx_me 197 [.ref 90, .int a0, .int (6 : Int32)] (rx_hp L t hi7 hl7 v7) (fun r h2 => ∃ z9 : Int32, r = some (.int z9) ∧ rx_ok2 L t h2 (fun hi9 hl9 v9 => ((z9 = 0 → Q (some (.int (0 : Int32))) (rx_hp L t hi9 hl9 v9)) ∧ (¬ (z9 = 0) → Q (some (.int (1 : Int32))) (rx_hp L t hi9 hl9 v9))))))))))) ∧ (¬ ((hi 103 j4) = (hi 98 j1)) → (∃ j11 : Nat, ((((402 : Int32) * (hi 98 j1)) + (402 : Int32)) - (1 : Int32)) = nI j11 ∧ j11 < 4824 ∧ rx_me 165 [.ref 90, .int a0, .int (hi 108 j11), .int (hi 98 j1), .int (0 : Int32)] (rx_hp L t hi hl v) (fun r h2 => ∃ z12 : Int32, r = some (.int z12) ∧ rx_ok2 L t h2 (fun hi12 hl12 v12 => ((z12 = 0 → Q (some (.int (0 : Int32))) (rx_hp L t hi12 hl12 v12)) ∧ (¬ (z12 = 0) → rx_me 197 [.ref 90, .int a0, .int (5 : Int32)] (rx_hp L t hi12 hl12 v12) (fun r h2 => ∃ z14 : Int32, r = some (.int z14) ∧ rx_ok2 L t h2 (fun hi14 hl14 v14 => ((z14 = 0 → Q (some (.int (0 : Int32))) (rx_hp L t hi14 hl14 v14)) ∧ (¬ (z14 = 0) → (∃ j16 : Nat, a0 = nI j16 ∧ j16 < 6 ∧ rx_me 165 [.ref 90, .int a0, .int (hi14 97 j16), .int (-1 : Int32), .int (1 : Int32)] (rx_hp L t hi14 hl14 v14) (fun r h2 => ∃ z17 : Int32, r = some (.int z17) ∧ rx_ok2 L t h2 (fun hi17 hl17 v17 => ((z17 = 0 → Q (some (.int (0 : Int32))) (rx_hp L t hi17 hl17 v17)) ∧ (¬ (z17 = 0) → rx_me 197 [.ref 90, .int a0, .int (6 : Int32)] (rx_hp L t hi17 hl17 v17) (fun r h2 => ∃ z19 : Int32, r = some (.int z19) ∧ rx_ok2 L t h2 (fun hi19 hl19 v19 => ((z19 = 0 → Q (some (.int (0 : Int32))) (rx_hp L t hi19 hl19 v19)) ∧ (¬ (z19 = 0) → Q (some (.int (1 : Int32))) (rx_hp L t hi19 hl19 v19)))))))))))))))))))))))) ∧ (¬ (0 ≤ (hi 98 j1)) → (∃ j21 : Nat, a0 = nI j21 ∧ j21 < 6 ∧ rx_me 165 [.ref 90, .int a0, .int (hi 97 j21), .int (-1 : Int32), .int (1 : Int32)] (rx_hp L t hi hl v) (fun r h2 => ∃ z22 : Int32, r = some (.int z22) ∧ rx_ok2 L t h2 (fun hi22 hl22 v22 => ((z22 = 0 ∨ z22 = 1) ∧ Q (some (.int z22)) (rx_hp L t hi22 hl22 v22))))))))) : rx_me 164 [.ref 90, .int a0] (rx_hp L t hi hl v) Q := by
  show rx_aw 164 0 [.ref 90, .int a0, rx_no] [] (rx_hp L t hi hl v) Q
  refine rx_aw_s 3 (pc := 0) rfl ?_
  show rx_aw 164 5 [.ref 90, .int a0, rx_no] [.int a0, .ref 98] (rx_hp L t hi hl v) Q
  obtain ⟨j1, ej1, hj1, k⟩ := k
  refine rx_aw_iald (pc := 5) (n := 6) j1 ej1 rfl rfl rfl hj1 (by decide) ?_
  show rx_aw 164 6 [.ref 90, .int a0, rx_no] [.int (hi 98 j1)] (rx_hp L t hi hl v) Q
  refine rx_aw_s 3 (pc := 6) rfl ?_
  refine rx_w_if (c := 0 ≤ (hi 98 j1)) ⟨fun c2 => ?_, fun c2 => ?_⟩
  · have k := k.1 c2
    show rx_aw 164 25 [.ref 90, .int a0, .int (hi 98 j1)] [] (rx_hp L t hi hl v) Q
    refine rx_aw_s 8 (pc := 25) rfl ?_
    show rx_aw 164 39 [.ref 90, .int a0, .int (hi 98 j1)] [.int a0, .ref 94, .int ((402 : Int32) * a0), .ref 103] (rx_hp L t hi hl v) Q
    obtain ⟨j3, ej3, hj3, k⟩ := k
    refine rx_aw_iald (pc := 39) (n := 6) j3 ej3 rfl rfl rfl hj3 (by decide) ?_
    show rx_aw 164 40 [.ref 90, .int a0, .int (hi 98 j1)] [.int (hi 94 j3), .int ((402 : Int32) * a0), .ref 103] (rx_hp L t hi hl v) Q
    refine rx_aw_s 1 (pc := 40) rfl ?_
    show rx_aw 164 41 [.ref 90, .int a0, .int (hi 98 j1)] [.int (((402 : Int32) * a0) + (hi 94 j3)), .ref 103] (rx_hp L t hi hl v) Q
    obtain ⟨j4, ej4, hj4, k⟩ := k
    refine rx_aw_iald (pc := 41) (n := 2412) j4 ej4 rfl rfl rfl hj4 (by decide) ?_
    show rx_aw 164 42 [.ref 90, .int a0, .int (hi 98 j1)] [.int (hi 103 j4)] (rx_hp L t hi hl v) Q
    refine rx_aw_s 2 (pc := 42) rfl ?_
    refine rx_w_if (c := (hi 103 j4) = (hi 98 j1)) ⟨fun c5 => ?_, fun c5 => ?_⟩
    · have k := k.1 c5
      show rx_aw 164 83 [.ref 90, .int a0, .int (hi 98 j1)] [] (rx_hp L t hi hl v) Q
      refine rx_aw_s 5 (pc := 83) rfl ?_
      show rx_aw 164 90 [.ref 90, .int a0, .int (hi 98 j1)] [.int a0, .ref 97, .int a0, .ref 90] (rx_hp L t hi hl v) Q
      obtain ⟨j6, ej6, hj6, k⟩ := k
      refine rx_aw_iald (pc := 90) (n := 6) j6 ej6 rfl rfl rfl hj6 (by decide) ?_
      show rx_aw 164 91 [.ref 90, .int a0, .int (hi 98 j1)] [.int (hi 97 j6), .int a0, .ref 90] (rx_hp L t hi hl v) Q
      refine rx_aw_s 2 (pc := 91) rfl ?_
      show rx_aw 164 93 [.ref 90, .int a0, .int (hi 98 j1)] [.int (1 : Int32), .int (-1 : Int32), .int (hi 97 j6), .int a0, .ref 90] (rx_hp L t hi hl v) Q
      refine rx_w_callI (j := 165) (pc := 93) rfl rfl rfl rfl rfl ?_
      refine rx_aw.mono k (fun r h2 k => ?_)
      obtain ⟨z7, rfl, hi7, hl7, v7, rfl, k⟩ := k
      refine ⟨z7, rfl, ?_⟩
      show rx_aw 164 96 [.ref 90, .int a0, .int (hi 98 j1)] [.int z7] (rx_hp L t hi7 hl7 v7) Q
      refine rx_aw_s 1 (pc := 96) rfl ?_
      refine rx_w_if (c := z7 = 0) ⟨fun c8 => ?_, fun c8 => ?_⟩
      · have k := k.1 c8
        show rx_aw 164 113 [.ref 90, .int a0, .int (hi 98 j1)] [] (rx_hp L t hi7 hl7 v7) Q
        refine rx_aw_s 1 (pc := 113) rfl ?_
        show rx_aw 164 114 [.ref 90, .int a0, .int (hi 98 j1)] [.int (0 : Int32)] (rx_hp L t hi7 hl7 v7) Q
        exact rx_aw_ret (pc := 114) rfl k
      · have k := k.2 c8
        show rx_aw 164 99 [.ref 90, .int a0, .int (hi 98 j1)] [] (rx_hp L t hi7 hl7 v7) Q
        refine rx_aw_s 3 (pc := 99) rfl ?_
        show rx_aw 164 103 [.ref 90, .int a0, .int (hi 98 j1)] [.int (6 : Int32), .int a0, .ref 90] (rx_hp L t hi7 hl7 v7) Q
        refine rx_w_callI (j := 197) (pc := 103) rfl rfl rfl rfl rfl ?_
        refine rx_aw.mono k (fun r h2 k => ?_)
        obtain ⟨z9, rfl, hi9, hl9, v9, rfl, k⟩ := k
        refine ⟨z9, rfl, ?_⟩
        show rx_aw 164 106 [.ref 90, .int a0, .int (hi 98 j1)] [.int z9] (rx_hp L t hi9 hl9 v9) Q
        refine rx_aw_s 1 (pc := 106) rfl ?_
        refine rx_w_if (c := z9 = 0) ⟨fun c10 => ?_, fun c10 => ?_⟩
        · have k := k.1 c10
          show rx_aw 164 113 [.ref 90, .int a0, .int (hi 98 j1)] [] (rx_hp L t hi9 hl9 v9) Q
          refine rx_aw_s 1 (pc := 113) rfl ?_
          show rx_aw 164 114 [.ref 90, .int a0, .int (hi 98 j1)] [.int (0 : Int32)] (rx_hp L t hi9 hl9 v9) Q
          exact rx_aw_ret (pc := 114) rfl k
        · have k := k.2 c10
          show rx_aw 164 109 [.ref 90, .int a0, .int (hi 98 j1)] [] (rx_hp L t hi9 hl9 v9) Q
          refine rx_aw_s 2 (pc := 109) rfl ?_
          show rx_aw 164 114 [.ref 90, .int a0, .int (hi 98 j1)] [.int (1 : Int32)] (rx_hp L t hi9 hl9 v9) Q
          exact rx_aw_ret (pc := 114) rfl k
    · have k := k.2 c5
      show rx_aw 164 46 [.ref 90, .int a0, .int (hi 98 j1)] [] (rx_hp L t hi hl v) Q
      refine rx_aw_s 11 (pc := 46) rfl ?_
      show rx_aw 164 63 [.ref 90, .int a0, .int (hi 98 j1)] [.int ((((402 : Int32) * (hi 98 j1)) + (402 : Int32)) - (1 : Int32)), .ref 108, .int a0, .ref 90] (rx_hp L t hi hl v) Q
      obtain ⟨j11, ej11, hj11, k⟩ := k
      refine rx_aw_iald (pc := 63) (n := 4824) j11 ej11 rfl rfl rfl hj11 (by decide) ?_
      show rx_aw 164 64 [.ref 90, .int a0, .int (hi 98 j1)] [.int (hi 108 j11), .int a0, .ref 90] (rx_hp L t hi hl v) Q
      refine rx_aw_s 2 (pc := 64) rfl ?_
      show rx_aw 164 66 [.ref 90, .int a0, .int (hi 98 j1)] [.int (0 : Int32), .int (hi 98 j1), .int (hi 108 j11), .int a0, .ref 90] (rx_hp L t hi hl v) Q
      refine rx_w_callI (j := 165) (pc := 66) rfl rfl rfl rfl rfl ?_
      refine rx_aw.mono k (fun r h2 k => ?_)
      obtain ⟨z12, rfl, hi12, hl12, v12, rfl, k⟩ := k
      refine ⟨z12, rfl, ?_⟩
      show rx_aw 164 69 [.ref 90, .int a0, .int (hi 98 j1)] [.int z12] (rx_hp L t hi12 hl12 v12) Q
      refine rx_aw_s 1 (pc := 69) rfl ?_
      refine rx_w_if (c := z12 = 0) ⟨fun c13 => ?_, fun c13 => ?_⟩
      · have k := k.1 c13
        show rx_aw 164 81 [.ref 90, .int a0, .int (hi 98 j1)] [] (rx_hp L t hi12 hl12 v12) Q
        refine rx_aw_s 1 (pc := 81) rfl ?_
        show rx_aw 164 82 [.ref 90, .int a0, .int (hi 98 j1)] [.int (0 : Int32)] (rx_hp L t hi12 hl12 v12) Q
        exact rx_aw_ret (pc := 82) rfl k
      · have k := k.2 c13
        show rx_aw 164 72 [.ref 90, .int a0, .int (hi 98 j1)] [] (rx_hp L t hi12 hl12 v12) Q
        refine rx_aw_s 3 (pc := 72) rfl ?_
        show rx_aw 164 75 [.ref 90, .int a0, .int (hi 98 j1)] [.int (5 : Int32), .int a0, .ref 90] (rx_hp L t hi12 hl12 v12) Q
        refine rx_w_callI (j := 197) (pc := 75) rfl rfl rfl rfl rfl ?_
        refine rx_aw.mono k (fun r h2 k => ?_)
        obtain ⟨z14, rfl, hi14, hl14, v14, rfl, k⟩ := k
        refine ⟨z14, rfl, ?_⟩
        show rx_aw 164 78 [.ref 90, .int a0, .int (hi 98 j1)] [.int z14] (rx_hp L t hi14 hl14 v14) Q
        refine rx_aw_s 1 (pc := 78) rfl ?_
        refine rx_w_ifn (c := z14 = 0) ⟨fun c15 => ?_, fun c15 => ?_⟩
        · have k := k.1 c15
          show rx_aw 164 81 [.ref 90, .int a0, .int (hi 98 j1)] [] (rx_hp L t hi14 hl14 v14) Q
          refine rx_aw_s 1 (pc := 81) rfl ?_
          show rx_aw 164 82 [.ref 90, .int a0, .int (hi 98 j1)] [.int (0 : Int32)] (rx_hp L t hi14 hl14 v14) Q
          exact rx_aw_ret (pc := 82) rfl k
        · have k := k.2 c15
          show rx_aw 164 83 [.ref 90, .int a0, .int (hi 98 j1)] [] (rx_hp L t hi14 hl14 v14) Q
          refine rx_aw_s 5 (pc := 83) rfl ?_
          show rx_aw 164 90 [.ref 90, .int a0, .int (hi 98 j1)] [.int a0, .ref 97, .int a0, .ref 90] (rx_hp L t hi14 hl14 v14) Q
          obtain ⟨j16, ej16, hj16, k⟩ := k
          refine rx_aw_iald (pc := 90) (n := 6) j16 ej16 rfl rfl rfl hj16 (by decide) ?_
          show rx_aw 164 91 [.ref 90, .int a0, .int (hi 98 j1)] [.int (hi14 97 j16), .int a0, .ref 90] (rx_hp L t hi14 hl14 v14) Q
          refine rx_aw_s 2 (pc := 91) rfl ?_
          show rx_aw 164 93 [.ref 90, .int a0, .int (hi 98 j1)] [.int (1 : Int32), .int (-1 : Int32), .int (hi14 97 j16), .int a0, .ref 90] (rx_hp L t hi14 hl14 v14) Q
          refine rx_w_callI (j := 165) (pc := 93) rfl rfl rfl rfl rfl ?_
          refine rx_aw.mono k (fun r h2 k => ?_)
          obtain ⟨z17, rfl, hi17, hl17, v17, rfl, k⟩ := k
          refine ⟨z17, rfl, ?_⟩
          show rx_aw 164 96 [.ref 90, .int a0, .int (hi 98 j1)] [.int z17] (rx_hp L t hi17 hl17 v17) Q
          refine rx_aw_s 1 (pc := 96) rfl ?_
          refine rx_w_if (c := z17 = 0) ⟨fun c18 => ?_, fun c18 => ?_⟩
          · have k := k.1 c18
            show rx_aw 164 113 [.ref 90, .int a0, .int (hi 98 j1)] [] (rx_hp L t hi17 hl17 v17) Q
            refine rx_aw_s 1 (pc := 113) rfl ?_
            show rx_aw 164 114 [.ref 90, .int a0, .int (hi 98 j1)] [.int (0 : Int32)] (rx_hp L t hi17 hl17 v17) Q
            exact rx_aw_ret (pc := 114) rfl k
          · have k := k.2 c18
            show rx_aw 164 99 [.ref 90, .int a0, .int (hi 98 j1)] [] (rx_hp L t hi17 hl17 v17) Q
            refine rx_aw_s 3 (pc := 99) rfl ?_
            show rx_aw 164 103 [.ref 90, .int a0, .int (hi 98 j1)] [.int (6 : Int32), .int a0, .ref 90] (rx_hp L t hi17 hl17 v17) Q
            refine rx_w_callI (j := 197) (pc := 103) rfl rfl rfl rfl rfl ?_
            refine rx_aw.mono k (fun r h2 k => ?_)
            obtain ⟨z19, rfl, hi19, hl19, v19, rfl, k⟩ := k
            refine ⟨z19, rfl, ?_⟩
            show rx_aw 164 106 [.ref 90, .int a0, .int (hi 98 j1)] [.int z19] (rx_hp L t hi19 hl19 v19) Q
            refine rx_aw_s 1 (pc := 106) rfl ?_
            refine rx_w_if (c := z19 = 0) ⟨fun c20 => ?_, fun c20 => ?_⟩
            · have k := k.1 c20
              show rx_aw 164 113 [.ref 90, .int a0, .int (hi 98 j1)] [] (rx_hp L t hi19 hl19 v19) Q
              refine rx_aw_s 1 (pc := 113) rfl ?_
              show rx_aw 164 114 [.ref 90, .int a0, .int (hi 98 j1)] [.int (0 : Int32)] (rx_hp L t hi19 hl19 v19) Q
              exact rx_aw_ret (pc := 114) rfl k
            · have k := k.2 c20
              show rx_aw 164 109 [.ref 90, .int a0, .int (hi 98 j1)] [] (rx_hp L t hi19 hl19 v19) Q
              refine rx_aw_s 2 (pc := 109) rfl ?_
              show rx_aw 164 114 [.ref 90, .int a0, .int (hi 98 j1)] [.int (1 : Int32)] (rx_hp L t hi19 hl19 v19) Q
              exact rx_aw_ret (pc := 114) rfl k
  · have k := k.2 c2
    show rx_aw 164 11 [.ref 90, .int a0, .int (hi 98 j1)] [] (rx_hp L t hi hl v) Q
    refine rx_aw_s 5 (pc := 11) rfl ?_
    show rx_aw 164 18 [.ref 90, .int a0, .int (hi 98 j1)] [.int a0, .ref 97, .int a0, .ref 90] (rx_hp L t hi hl v) Q
    obtain ⟨j21, ej21, hj21, k⟩ := k
    refine rx_aw_iald (pc := 18) (n := 6) j21 ej21 rfl rfl rfl hj21 (by decide) ?_
    show rx_aw 164 19 [.ref 90, .int a0, .int (hi 98 j1)] [.int (hi 97 j21), .int a0, .ref 90] (rx_hp L t hi hl v) Q
    refine rx_aw_s 2 (pc := 19) rfl ?_
    show rx_aw 164 21 [.ref 90, .int a0, .int (hi 98 j1)] [.int (1 : Int32), .int (-1 : Int32), .int (hi 97 j21), .int a0, .ref 90] (rx_hp L t hi hl v) Q
    refine rx_w_callI (j := 165) (pc := 21) rfl rfl rfl rfl rfl ?_
    refine rx_aw.mono k (fun r h2 k => ?_)
    obtain ⟨z22, rfl, hi22, hl22, v22, rfl, k⟩ := k
    refine ⟨z22, rfl, ?_⟩
    show rx_aw 164 24 [.ref 90, .int a0, .int (hi 98 j1)] [.int z22] (rx_hp L t hi22 hl22 v22) Q
    exact rx_w_zret (pc := 24) rfl rfl k
set_option maxRecDepth 100000 in
/-- CartFloorModel.go(IIIZ)Z -/
theorem w165_go_r {L : Nat} {t : List (Nat × Nat)} {hi : Nat → Nat → Int32} {hl : Nat → Nat → Int64} {v : Nat → Nat → Option Nat} {Q : Option Value → rx_H → Prop} {a0 : Int32} {a1 : Int32} {a2 : Int32} {a3 : Int32} (k : (∃ j1 : Nat, a0 = nI j1 ∧ j1 < 6 ∧ rx_me 166 [.ref 90, .int a0, .int (hi 94 j1)] (rx_hp L t hi hl v) (fun r h2 => r = none ∧ rx_ok2 L t h2 (fun hi2 hl2 v2 => rx_me 172 [.ref 90, .int a0, .int a1, .int a2, .int a3] (rx_hp L t hi2 hl2 v2) (fun r h2 => ∃ z3 : Int32, r = some (.int z3) ∧ rx_ok2 L t h2 (fun hi3 hl3 v3 => ((0 ≤ z3 → rx_aw 165 37 [.ref 90, .int a0, .int a1, .int a2, .int a3, .int (hi 94 j1), .int z3, .int z3, rx_no, rx_no] [] (rx_hp L t hi3 hl3 v3) Q) ∧ (¬ (0 ≤ z3) → Q (some (.int (0 : Int32))) (rx_hp L t hi3 hl3 v3))))))))) : rx_me 165 [.ref 90, .int a0, .int a1, .int a2, .int a3] (rx_hp L t hi hl v) Q := by
  show rx_aw 165 0 [.ref 90, .int a0, .int a1, .int a2, .int a3, rx_no, rx_no, rx_no, rx_no, rx_no] [] (rx_hp L t hi hl v) Q
  refine rx_aw_s 3 (pc := 0) rfl ?_
  show rx_aw 165 5 [.ref 90, .int a0, .int a1, .int a2, .int a3, rx_no, rx_no, rx_no, rx_no, rx_no] [.int a0, .ref 94] (rx_hp L t hi hl v) Q
  obtain ⟨j1, ej1, hj1, k⟩ := k
  refine rx_aw_iald (pc := 5) (n := 6) j1 ej1 rfl rfl rfl hj1 (by decide) ?_
  show rx_aw 165 6 [.ref 90, .int a0, .int a1, .int a2, .int a3, rx_no, rx_no, rx_no, rx_no, rx_no] [.int (hi 94 j1)] (rx_hp L t hi hl v) Q
  refine rx_aw_s 4 (pc := 6) rfl ?_
  show rx_aw 165 12 [.ref 90, .int a0, .int a1, .int a2, .int a3, .int (hi 94 j1), rx_no, rx_no, rx_no, rx_no] [.int (hi 94 j1), .int a0, .ref 90] (rx_hp L t hi hl v) Q
  refine rx_w_callV (j := 166) (pc := 12) rfl rfl rfl rfl rfl ?_
  refine rx_aw.mono k (fun r h2 k => ?_)
  obtain ⟨rfl, hi2, hl2, v2, rfl, k⟩ := k
  refine ⟨rfl, ?_⟩
  show rx_aw 165 15 [.ref 90, .int a0, .int a1, .int a2, .int a3, .int (hi 94 j1), rx_no, rx_no, rx_no, rx_no] [] (rx_hp L t hi2 hl2 v2) Q
  refine rx_aw_s 5 (pc := 15) rfl ?_
  show rx_aw 165 21 [.ref 90, .int a0, .int a1, .int a2, .int a3, .int (hi 94 j1), rx_no, rx_no, rx_no, rx_no] [.int a3, .int a2, .int a1, .int a0, .ref 90] (rx_hp L t hi2 hl2 v2) Q
  refine rx_w_callI (j := 172) (pc := 21) rfl rfl rfl rfl rfl ?_
  refine rx_aw.mono k (fun r h2 k => ?_)
  obtain ⟨z3, rfl, hi3, hl3, v3, rfl, k⟩ := k
  refine ⟨z3, rfl, ?_⟩
  show rx_aw 165 24 [.ref 90, .int a0, .int a1, .int a2, .int a3, .int (hi 94 j1), rx_no, rx_no, rx_no, rx_no] [.int z3] (rx_hp L t hi3 hl3 v3) Q
  refine rx_aw_s 3 (pc := 24) rfl ?_
  refine rx_w_if (c := 0 ≤ z3) ⟨fun c4 => ?_, fun c4 => ?_⟩
  · have k := k.1 c4
    show rx_aw 165 33 [.ref 90, .int a0, .int a1, .int a2, .int a3, .int (hi 94 j1), .int z3, rx_no, rx_no, rx_no] [] (rx_hp L t hi3 hl3 v3) Q
    refine rx_aw_s 2 (pc := 33) rfl ?_
    show rx_aw 165 37 [.ref 90, .int a0, .int a1, .int a2, .int a3, .int (hi 94 j1), .int z3, .int z3, rx_no, rx_no] [] (rx_hp L t hi3 hl3 v3) Q
    exact k
  · have k := k.2 c4
    show rx_aw 165 31 [.ref 90, .int a0, .int a1, .int a2, .int a3, .int (hi 94 j1), .int z3, rx_no, rx_no, rx_no] [] (rx_hp L t hi3 hl3 v3) Q
    refine rx_aw_s 1 (pc := 31) rfl ?_
    show rx_aw 165 32 [.ref 90, .int a0, .int a1, .int a2, .int a3, .int (hi 94 j1), .int z3, rx_no, rx_no, rx_no] [.int (0 : Int32)] (rx_hp L t hi3 hl3 v3) Q
    exact rx_aw_ret (pc := 32) rfl k
set_option maxRecDepth 100000 in
theorem w165_go_r_37 {L : Nat} {t : List (Nat × Nat)} {hi : Nat → Nat → Int32} {hl : Nat → Nat → Int64} {v : Nat → Nat → Option Nat} {Q : Option Value → rx_H → Prop} {x1 : Int32} {x2 : Int32} {x3 : Int32} {x4 : Int32} {x5 : Int32} {x6 : Int32} {x7 : Int32} (k : ((x7 < x5 → (∃ j6 : Nat, (((402 : Int32) * x1) + x5) = nI j6 ∧ j6 < 2412 ∧ (∃ j7 : Nat, (((402 : Int32) * x1) + x5) = nI j7 ∧ j7 < 2412 ∧ rx_aw 165 184 [.ref 90, .int x1, .int x2, .int x3, .int x4, .int x5, .int x6, .int (((4 : Int32) * (hi 101 j6)) + (hi 102 j7)), .int x5, rx_no] [] (rx_hp L t hi hl v) Q))) ∧ (¬ (x7 < x5) → rx_aw 165 47 [.ref 90, .int x1, .int x2, .int x3, .int x4, .int x5, .int x6, .int x7, .int (0 : Int32), rx_no] [] (rx_hp L t hi hl v) Q))) : rx_aw 165 37 [.ref 90, .int x1, .int x2, .int x3, .int x4, .int x5, .int x6, .int x7, rx_no, rx_no] [] (rx_hp L t hi hl v) Q := by
  refine rx_aw_s 3 (pc := 37) rfl ?_
  refine rx_w_if (c := x7 < x5) ⟨fun c5 => ?_, fun c5 => ?_⟩
  · have k := k.1 c5
    show rx_aw 165 149 [.ref 90, .int x1, .int x2, .int x3, .int x4, .int x5, .int x6, .int x7, rx_no, rx_no] [] (rx_hp L t hi hl v) Q
    refine rx_aw_s 8 (pc := 149) rfl ?_
    show rx_aw 165 162 [.ref 90, .int x1, .int x2, .int x3, .int x4, .int x5, .int x6, .int x7, rx_no, rx_no] [.int (((402 : Int32) * x1) + x5), .ref 101, .int (4 : Int32)] (rx_hp L t hi hl v) Q
    obtain ⟨j6, ej6, hj6, k⟩ := k
    refine rx_aw_iald (pc := 162) (n := 2412) j6 ej6 rfl rfl rfl hj6 (by decide) ?_
    show rx_aw 165 163 [.ref 90, .int x1, .int x2, .int x3, .int x4, .int x5, .int x6, .int x7, rx_no, rx_no] [.int (hi 101 j6), .int (4 : Int32)] (rx_hp L t hi hl v) Q
    refine rx_aw_s 8 (pc := 163) rfl ?_
    show rx_aw 165 176 [.ref 90, .int x1, .int x2, .int x3, .int x4, .int x5, .int x6, .int x7, rx_no, rx_no] [.int (((402 : Int32) * x1) + x5), .ref 102, .int ((4 : Int32) * (hi 101 j6))] (rx_hp L t hi hl v) Q
    obtain ⟨j7, ej7, hj7, k⟩ := k
    refine rx_aw_iald (pc := 176) (n := 2412) j7 ej7 rfl rfl rfl hj7 (by decide) ?_
    show rx_aw 165 177 [.ref 90, .int x1, .int x2, .int x3, .int x4, .int x5, .int x6, .int x7, rx_no, rx_no] [.int (hi 102 j7), .int ((4 : Int32) * (hi 101 j6))] (rx_hp L t hi hl v) Q
    refine rx_aw_s 4 (pc := 177) rfl ?_
    show rx_aw 165 184 [.ref 90, .int x1, .int x2, .int x3, .int x4, .int x5, .int x6, .int (((4 : Int32) * (hi 101 j6)) + (hi 102 j7)), .int x5, rx_no] [] (rx_hp L t hi hl v) Q
    exact k
  · have k := k.2 c5
    show rx_aw 165 44 [.ref 90, .int x1, .int x2, .int x3, .int x4, .int x5, .int x6, .int x7, rx_no, rx_no] [] (rx_hp L t hi hl v) Q
    refine rx_aw_s 2 (pc := 44) rfl ?_
    show rx_aw 165 47 [.ref 90, .int x1, .int x2, .int x3, .int x4, .int x5, .int x6, .int x7, .int (0 : Int32), rx_no] [] (rx_hp L t hi hl v) Q
    exact k
set_option maxRecDepth 100000 in
theorem w165_go_r_184 {L : Nat} {t : List (Nat × Nat)} {hi : Nat → Nat → Int32} {hl : Nat → Nat → Int64} {v : Nat → Nat → Option Nat} {Q : Option Value → rx_H → Prop} {x1 : Int32} {x2 : Int32} {x3 : Int32} {x4 : Int32} {x5 : Int32} {x6 : Int32} {x7 : Int32} {x8 : Int32} (k : ((x6 ≤ x8 → (∃ j9 : Nat, x1 = nI j9 ∧ j9 < 6 ∧ rx_me 191 [.ref 90] (rx_hp L t (rx_u hi 94 j9 x6) hl v) (fun r h2 => r = none ∧ rx_ok2 L t h2 (fun hi10 hl10 v10 => Q (some (.int (1 : Int32))) (rx_hp L t hi10 hl10 v10))))) ∧ (¬ (x6 ≤ x8) → rx_aw 165 194 [.ref 90, .int x1, .int x2, .int x3, .int x4, .int x5, .int x6, .int x7, .int x8, .int (0 : Int32)] [] (rx_hp L t hi hl v) Q))) : rx_aw 165 184 [.ref 90, .int x1, .int x2, .int x3, .int x4, .int x5, .int x6, .int x7, .int x8, rx_no] [] (rx_hp L t hi hl v) Q := by
  refine rx_aw_s 3 (pc := 184) rfl ?_
  refine rx_w_if (c := x6 ≤ x8) ⟨fun c8 => ?_, fun c8 => ?_⟩
  · have k := k.1 c8
    show rx_aw 165 248 [.ref 90, .int x1, .int x2, .int x3, .int x4, .int x5, .int x6, .int x7, .int x8, rx_no] [] (rx_hp L t hi hl v) Q
    refine rx_aw_s 4 (pc := 248) rfl ?_
    show rx_aw 165 255 [.ref 90, .int x1, .int x2, .int x3, .int x4, .int x5, .int x6, .int x7, .int x8, rx_no] [.int x6, .int x1, .ref 94] (rx_hp L t hi hl v) Q
    obtain ⟨j9, ej9, hj9, k⟩ := k
    refine rx_aw_iast (pc := 255) (n := 6) j9 ej9 rfl rfl (by decide) rfl hj9 (by decide) ?_
    show rx_aw 165 256 [.ref 90, .int x1, .int x2, .int x3, .int x4, .int x5, .int x6, .int x7, .int x8, rx_no] [] (rx_hp L t (rx_u hi 94 j9 x6) hl v) Q
    refine rx_aw_s 1 (pc := 256) rfl ?_
    show rx_aw 165 257 [.ref 90, .int x1, .int x2, .int x3, .int x4, .int x5, .int x6, .int x7, .int x8, rx_no] [.ref 90] (rx_hp L t (rx_u hi 94 j9 x6) hl v) Q
    refine rx_w_callV (j := 191) (pc := 257) rfl rfl rfl rfl rfl ?_
    refine rx_aw.mono k (fun r h2 k => ?_)
    obtain ⟨rfl, hi10, hl10, v10, rfl, k⟩ := k
    refine ⟨rfl, ?_⟩
    show rx_aw 165 260 [.ref 90, .int x1, .int x2, .int x3, .int x4, .int x5, .int x6, .int x7, .int x8, rx_no] [] (rx_hp L t hi10 hl10 v10) Q
    refine rx_aw_s 1 (pc := 260) rfl ?_
    show rx_aw 165 261 [.ref 90, .int x1, .int x2, .int x3, .int x4, .int x5, .int x6, .int x7, .int x8, rx_no] [.int (1 : Int32)] (rx_hp L t hi10 hl10 v10) Q
    exact rx_aw_ret (pc := 261) rfl k
  · have k := k.2 c8
    show rx_aw 165 191 [.ref 90, .int x1, .int x2, .int x3, .int x4, .int x5, .int x6, .int x7, .int x8, rx_no] [] (rx_hp L t hi hl v) Q
    refine rx_aw_s 2 (pc := 191) rfl ?_
    show rx_aw 165 194 [.ref 90, .int x1, .int x2, .int x3, .int x4, .int x5, .int x6, .int x7, .int x8, .int (0 : Int32)] [] (rx_hp L t hi hl v) Q
    exact k
set_option maxRecDepth 100000 in
theorem w165_go_r_47 {L : Nat} {t : List (Nat × Nat)} {hi : Nat → Nat → Int32} {hl : Nat → Nat → Int64} {v : Nat → Nat → Option Nat} {Q : Option Value → rx_H → Prop} {x1 : Int32} {x2 : Int32} {x3 : Int32} {x4 : Int32} {x5 : Int32} {x6 : Int32} {x7 : Int32} {x8 : Int32} (k : (((256 : Int32) ≤ x8 → rx_aw 165 37 [.ref 90, .int x1, .int x2, .int x3, .int x4, .int x5, .int x6, .int (x7 + (-1 : Int32)), rx_no, rx_no] [] (rx_hp L t hi hl v) Q) ∧ (¬ ((256 : Int32) ≤ x8) → (∃ j12 : Nat, (((256 : Int32) * x7) + x8) = nI j12 ∧ j12 < 102912 ∧ (((hi 115 j12) = 0 → (∃ j14 : Nat, (((256 : Int32) * x7) + x8) = nI j14 ∧ j14 < 102912 ∧ rx_aw 165 47 [.ref 90, .int x1, .int x2, .int x3, .int x4, .int x5, .int x6, .int x7, .int (x8 + (1 : Int32)), rx_no] [] (rx_hp L t (rx_u hi 116 j14 (1000000 : Int32)) hl v) Q)) ∧ (¬ ((hi 115 j12) = 0) → ((x6 ≤ x7 → rx_me 177 [.ref 90, .int x1, .int x2, .int x3, .int x4, .int x8, .int x7] (rx_hp L t hi hl v) (fun r h2 => ∃ z16 : Int32, r = some (.int z16) ∧ rx_ok2 L t h2 (fun hi16 hl16 v16 => ((z16 = 0 → (∃ j18 : Nat, (((256 : Int32) * x7) + x8) = nI j18 ∧ j18 < 102912 ∧ rx_aw 165 47 [.ref 90, .int x1, .int x2, .int x3, .int x4, .int x5, .int x6, .int x7, .int (x8 + (1 : Int32)), rx_no] [] (rx_hp L t (rx_u hi16 116 j18 (1000000 : Int32)) hl16 v16) Q)) ∧ (¬ (z16 = 0) → (∃ j19 : Nat, (((256 : Int32) * x7) + x8) = nI j19 ∧ j19 < 102912 ∧ rx_aw 165 47 [.ref 90, .int x1, .int x2, .int x3, .int x4, .int x5, .int x6, .int x7, .int (x8 + (1 : Int32)), rx_no] [] (rx_hp L t (rx_u hi16 116 j19 (0 : Int32)) hl16 v16) Q)))))) ∧ (¬ (x6 ≤ x7) → rx_me 188 [.ref 90, .int x1, .int x8, .int x7] (rx_hp L t hi hl v) (fun r h2 => ∃ z20 : Int32, r = some (.int z20) ∧ rx_ok2 L t h2 (fun hi20 hl20 v20 => (∃ j21 : Nat, (((256 : Int32) * x7) + x8) = nI j21 ∧ j21 < 102912 ∧ rx_aw 165 47 [.ref 90, .int x1, .int x2, .int x3, .int x4, .int x5, .int x6, .int x7, .int (x8 + (1 : Int32)), rx_no] [] (rx_hp L t (rx_u hi20 116 j21 z20) hl20 v20) Q))))))))))) : rx_aw 165 47 [.ref 90, .int x1, .int x2, .int x3, .int x4, .int x5, .int x6, .int x7, .int x8, rx_no] [] (rx_hp L t hi hl v) Q := by
  refine rx_aw_s 3 (pc := 47) rfl ?_
  refine rx_w_if (c := (256 : Int32) ≤ x8) ⟨fun c11 => ?_, fun c11 => ?_⟩
  · have k := k.1 c11
    show rx_aw 165 143 [.ref 90, .int x1, .int x2, .int x3, .int x4, .int x5, .int x6, .int x7, .int x8, rx_no] [] (rx_hp L t hi hl v) Q
    refine rx_aw_s 2 (pc := 143) rfl ?_
    show rx_aw 165 37 [.ref 90, .int x1, .int x2, .int x3, .int x4, .int x5, .int x6, .int (x7 + (-1 : Int32)), .int x8, rx_no] [] (rx_hp L t hi hl v) Q
    exact rx_aw_le (ls := [.ref 90, .int x1, .int x2, .int x3, .int x4, .int x5, .int x6, .int (x7 + (-1 : Int32)), rx_no, rx_no]) ⟨Or.inr rfl, ⟨Or.inr rfl, ⟨Or.inr rfl, ⟨Or.inr rfl, ⟨Or.inr rfl, ⟨Or.inr rfl, ⟨Or.inr rfl, ⟨Or.inr rfl, ⟨Or.inl rfl, ⟨Or.inl rfl, trivial⟩⟩⟩⟩⟩⟩⟩⟩⟩⟩ k
  · have k := k.2 c11
    show rx_aw 165 55 [.ref 90, .int x1, .int x2, .int x3, .int x4, .int x5, .int x6, .int x7, .int x8, rx_no] [] (rx_hp L t hi hl v) Q
    refine rx_aw_s 9 (pc := 55) rfl ?_
    show rx_aw 165 73 [.ref 90, .int x1, .int x2, .int x3, .int x4, .int x5, .int x6, .int x7, .int x8, .int (1000000 : Int32)] [.int (((256 : Int32) * x7) + x8), .ref 115] (rx_hp L t hi hl v) Q
    obtain ⟨j12, ej12, hj12, k⟩ := k
    refine rx_aw_bald (pc := 73) (n := 102912) j12 ej12 rfl (Or.inr rfl) (by decide) rfl hj12 (by decide) ?_
    show rx_aw 165 74 [.ref 90, .int x1, .int x2, .int x3, .int x4, .int x5, .int x6, .int x7, .int x8, .int (1000000 : Int32)] [.int (hi 115 j12)] (rx_hp L t hi hl v) Q
    refine rx_aw_s 1 (pc := 74) rfl ?_
    refine rx_w_if (c := (hi 115 j12) = 0) ⟨fun c13 => ?_, fun c13 => ?_⟩
    · have k := k.1 c13
      show rx_aw 165 121 [.ref 90, .int x1, .int x2, .int x3, .int x4, .int x5, .int x6, .int x7, .int x8, .int (1000000 : Int32)] [] (rx_hp L t hi hl v) Q
      refine rx_aw_s 8 (pc := 121) rfl ?_
      show rx_aw 165 136 [.ref 90, .int x1, .int x2, .int x3, .int x4, .int x5, .int x6, .int x7, .int x8, .int (1000000 : Int32)] [.int (1000000 : Int32), .int (((256 : Int32) * x7) + x8), .ref 116] (rx_hp L t hi hl v) Q
      obtain ⟨j14, ej14, hj14, k⟩ := k
      refine rx_aw_iast (pc := 136) (n := 102912) j14 ej14 rfl rfl (by decide) rfl hj14 (by decide) ?_
      show rx_aw 165 137 [.ref 90, .int x1, .int x2, .int x3, .int x4, .int x5, .int x6, .int x7, .int x8, .int (1000000 : Int32)] [] (rx_hp L t (rx_u hi 116 j14 (1000000 : Int32)) hl v) Q
      refine rx_aw_s 2 (pc := 137) rfl ?_
      show rx_aw 165 47 [.ref 90, .int x1, .int x2, .int x3, .int x4, .int x5, .int x6, .int x7, .int (x8 + (1 : Int32)), .int (1000000 : Int32)] [] (rx_hp L t (rx_u hi 116 j14 (1000000 : Int32)) hl v) Q
      exact rx_aw_le (ls := [.ref 90, .int x1, .int x2, .int x3, .int x4, .int x5, .int x6, .int x7, .int (x8 + (1 : Int32)), rx_no]) ⟨Or.inr rfl, ⟨Or.inr rfl, ⟨Or.inr rfl, ⟨Or.inr rfl, ⟨Or.inr rfl, ⟨Or.inr rfl, ⟨Or.inr rfl, ⟨Or.inr rfl, ⟨Or.inr rfl, ⟨Or.inl rfl, trivial⟩⟩⟩⟩⟩⟩⟩⟩⟩⟩ k
    · have k := k.2 c13
      show rx_aw 165 77 [.ref 90, .int x1, .int x2, .int x3, .int x4, .int x5, .int x6, .int x7, .int x8, .int (1000000 : Int32)] [] (rx_hp L t hi hl v) Q
      refine rx_aw_s 3 (pc := 77) rfl ?_
      refine rx_w_if (c := x6 ≤ x7) ⟨fun c15 => ?_, fun c15 => ?_⟩
      · have k := k.1 c15
        show rx_aw 165 96 [.ref 90, .int x1, .int x2, .int x3, .int x4, .int x5, .int x6, .int x7, .int x8, .int (1000000 : Int32)] [] (rx_hp L t hi hl v) Q
        refine rx_aw_s 7 (pc := 96) rfl ?_
        show rx_aw 165 106 [.ref 90, .int x1, .int x2, .int x3, .int x4, .int x5, .int x6, .int x7, .int x8, .int (1000000 : Int32)] [.int x7, .int x8, .int x4, .int x3, .int x2, .int x1, .ref 90] (rx_hp L t hi hl v) Q
        refine rx_w_callI (j := 177) (pc := 106) rfl rfl rfl rfl rfl ?_
        refine rx_aw.mono k (fun r h2 k => ?_)
        obtain ⟨z16, rfl, hi16, hl16, v16, rfl, k⟩ := k
        refine ⟨z16, rfl, ?_⟩
        show rx_aw 165 109 [.ref 90, .int x1, .int x2, .int x3, .int x4, .int x5, .int x6, .int x7, .int x8, .int (1000000 : Int32)] [.int z16] (rx_hp L t hi16 hl16 v16) Q
        refine rx_aw_s 1 (pc := 109) rfl ?_
        refine rx_w_if (c := z16 = 0) ⟨fun c17 => ?_, fun c17 => ?_⟩
        · have k := k.1 c17
          show rx_aw 165 116 [.ref 90, .int x1, .int x2, .int x3, .int x4, .int x5, .int x6, .int x7, .int x8, .int (1000000 : Int32)] [] (rx_hp L t hi16 hl16 v16) Q
          refine rx_aw_s 10 (pc := 116) rfl ?_
          show rx_aw 165 136 [.ref 90, .int x1, .int x2, .int x3, .int x4, .int x5, .int x6, .int x7, .int x8, .int (1000000 : Int32)] [.int (1000000 : Int32), .int (((256 : Int32) * x7) + x8), .ref 116] (rx_hp L t hi16 hl16 v16) Q
          obtain ⟨j18, ej18, hj18, k⟩ := k
          refine rx_aw_iast (pc := 136) (n := 102912) j18 ej18 rfl rfl (by decide) rfl hj18 (by decide) ?_
          show rx_aw 165 137 [.ref 90, .int x1, .int x2, .int x3, .int x4, .int x5, .int x6, .int x7, .int x8, .int (1000000 : Int32)] [] (rx_hp L t (rx_u hi16 116 j18 (1000000 : Int32)) hl16 v16) Q
          refine rx_aw_s 2 (pc := 137) rfl ?_
          show rx_aw 165 47 [.ref 90, .int x1, .int x2, .int x3, .int x4, .int x5, .int x6, .int x7, .int (x8 + (1 : Int32)), .int (1000000 : Int32)] [] (rx_hp L t (rx_u hi16 116 j18 (1000000 : Int32)) hl16 v16) Q
          exact rx_aw_le (ls := [.ref 90, .int x1, .int x2, .int x3, .int x4, .int x5, .int x6, .int x7, .int (x8 + (1 : Int32)), rx_no]) ⟨Or.inr rfl, ⟨Or.inr rfl, ⟨Or.inr rfl, ⟨Or.inr rfl, ⟨Or.inr rfl, ⟨Or.inr rfl, ⟨Or.inr rfl, ⟨Or.inr rfl, ⟨Or.inr rfl, ⟨Or.inl rfl, trivial⟩⟩⟩⟩⟩⟩⟩⟩⟩⟩ k
        · have k := k.2 c17
          show rx_aw 165 112 [.ref 90, .int x1, .int x2, .int x3, .int x4, .int x5, .int x6, .int x7, .int x8, .int (1000000 : Int32)] [] (rx_hp L t hi16 hl16 v16) Q
          refine rx_aw_s 11 (pc := 112) rfl ?_
          show rx_aw 165 136 [.ref 90, .int x1, .int x2, .int x3, .int x4, .int x5, .int x6, .int x7, .int x8, .int (0 : Int32)] [.int (0 : Int32), .int (((256 : Int32) * x7) + x8), .ref 116] (rx_hp L t hi16 hl16 v16) Q
          obtain ⟨j19, ej19, hj19, k⟩ := k
          refine rx_aw_iast (pc := 136) (n := 102912) j19 ej19 rfl rfl (by decide) rfl hj19 (by decide) ?_
          show rx_aw 165 137 [.ref 90, .int x1, .int x2, .int x3, .int x4, .int x5, .int x6, .int x7, .int x8, .int (0 : Int32)] [] (rx_hp L t (rx_u hi16 116 j19 (0 : Int32)) hl16 v16) Q
          refine rx_aw_s 2 (pc := 137) rfl ?_
          show rx_aw 165 47 [.ref 90, .int x1, .int x2, .int x3, .int x4, .int x5, .int x6, .int x7, .int (x8 + (1 : Int32)), .int (0 : Int32)] [] (rx_hp L t (rx_u hi16 116 j19 (0 : Int32)) hl16 v16) Q
          exact rx_aw_le (ls := [.ref 90, .int x1, .int x2, .int x3, .int x4, .int x5, .int x6, .int x7, .int (x8 + (1 : Int32)), rx_no]) ⟨Or.inr rfl, ⟨Or.inr rfl, ⟨Or.inr rfl, ⟨Or.inr rfl, ⟨Or.inr rfl, ⟨Or.inr rfl, ⟨Or.inr rfl, ⟨Or.inr rfl, ⟨Or.inr rfl, ⟨Or.inl rfl, trivial⟩⟩⟩⟩⟩⟩⟩⟩⟩⟩ k
      · have k := k.2 c15
        show rx_aw 165 84 [.ref 90, .int x1, .int x2, .int x3, .int x4, .int x5, .int x6, .int x7, .int x8, .int (1000000 : Int32)] [] (rx_hp L t hi hl v) Q
        refine rx_aw_s 4 (pc := 84) rfl ?_
        show rx_aw 165 90 [.ref 90, .int x1, .int x2, .int x3, .int x4, .int x5, .int x6, .int x7, .int x8, .int (1000000 : Int32)] [.int x7, .int x8, .int x1, .ref 90] (rx_hp L t hi hl v) Q
        refine rx_w_callI (j := 188) (pc := 90) rfl rfl rfl rfl rfl ?_
        refine rx_aw.mono k (fun r h2 k => ?_)
        obtain ⟨z20, rfl, hi20, hl20, v20, rfl, k⟩ := k
        refine ⟨z20, rfl, ?_⟩
        show rx_aw 165 93 [.ref 90, .int x1, .int x2, .int x3, .int x4, .int x5, .int x6, .int x7, .int x8, .int (1000000 : Int32)] [.int z20] (rx_hp L t hi20 hl20 v20) Q
        refine rx_aw_s 10 (pc := 93) rfl ?_
        show rx_aw 165 136 [.ref 90, .int x1, .int x2, .int x3, .int x4, .int x5, .int x6, .int x7, .int x8, .int z20] [.int z20, .int (((256 : Int32) * x7) + x8), .ref 116] (rx_hp L t hi20 hl20 v20) Q
        obtain ⟨j21, ej21, hj21, k⟩ := k
        refine rx_aw_iast (pc := 136) (n := 102912) j21 ej21 rfl rfl (by decide) rfl hj21 (by decide) ?_
        show rx_aw 165 137 [.ref 90, .int x1, .int x2, .int x3, .int x4, .int x5, .int x6, .int x7, .int x8, .int z20] [] (rx_hp L t (rx_u hi20 116 j21 z20) hl20 v20) Q
        refine rx_aw_s 2 (pc := 137) rfl ?_
        show rx_aw 165 47 [.ref 90, .int x1, .int x2, .int x3, .int x4, .int x5, .int x6, .int x7, .int (x8 + (1 : Int32)), .int z20] [] (rx_hp L t (rx_u hi20 116 j21 z20) hl20 v20) Q
        exact rx_aw_le (ls := [.ref 90, .int x1, .int x2, .int x3, .int x4, .int x5, .int x6, .int x7, .int (x8 + (1 : Int32)), rx_no]) ⟨Or.inr rfl, ⟨Or.inr rfl, ⟨Or.inr rfl, ⟨Or.inr rfl, ⟨Or.inr rfl, ⟨Or.inr rfl, ⟨Or.inr rfl, ⟨Or.inr rfl, ⟨Or.inr rfl, ⟨Or.inl rfl, trivial⟩⟩⟩⟩⟩⟩⟩⟩⟩⟩ k
set_option maxRecDepth 100000 in
theorem w165_go_r_194 {L : Nat} {t : List (Nat × Nat)} {hi : Nat → Nat → Int32} {hl : Nat → Nat → Int64} {v : Nat → Nat → Option Nat} {Q : Option Value → rx_H → Prop} {x1 : Int32} {x2 : Int32} {x3 : Int32} {x4 : Int32} {x5 : Int32} {x6 : Int32} {x7 : Int32} {x8 : Int32} {x9 : Int32} (k : rx_me 190 [.ref 90, .int x1, .int x7, .int x9, .int x8] (rx_hp L t hi hl v) (fun r h2 => ∃ z22 : Int32, r = some (.int z22) ∧ rx_ok2 L t h2 (fun hi22 hl22 v22 => ((z22 = 0 → rx_aw 165 194 [.ref 90, .int x1, .int x2, .int x3, .int x4, .int x5, .int x6, .int x7, .int x8, .int (x9 + (1 : Int32))] [] (rx_hp L t hi22 hl22 v22) Q) ∧ (¬ (z22 = 0) → (∃ j24 : Nat, (((400 : Int32) * x1) + x8) = nI j24 ∧ j24 < 2400 ∧ rx_aw 165 184 [.ref 90, .int x1, .int x2, .int x3, .int x4, .int x5, .int x6, .int (((4 : Int32) * ((rx_u hi22 95 j24 x9) 90 33)) + ((rx_u hi22 95 j24 x9) 90 34)), .int (x8 + (1 : Int32)), rx_no] [] (rx_hp L t (rx_u hi22 95 j24 x9) hl22 v22) Q)))))) : rx_aw 165 194 [.ref 90, .int x1, .int x2, .int x3, .int x4, .int x5, .int x6, .int x7, .int x8, .int x9] [] (rx_hp L t hi hl v) Q := by
  refine rx_aw_s 5 (pc := 194) rfl ?_
  show rx_aw 165 202 [.ref 90, .int x1, .int x2, .int x3, .int x4, .int x5, .int x6, .int x7, .int x8, .int x9] [.int x8, .int x9, .int x7, .int x1, .ref 90] (rx_hp L t hi hl v) Q
  refine rx_w_callI (j := 190) (pc := 202) rfl rfl rfl rfl rfl ?_
  refine rx_aw.mono k (fun r h2 k => ?_)
  obtain ⟨z22, rfl, hi22, hl22, v22, rfl, k⟩ := k
  refine ⟨z22, rfl, ?_⟩
  show rx_aw 165 205 [.ref 90, .int x1, .int x2, .int x3, .int x4, .int x5, .int x6, .int x7, .int x8, .int x9] [.int z22] (rx_hp L t hi22 hl22 v22) Q
  refine rx_aw_s 1 (pc := 205) rfl ?_
  refine rx_w_ifn (c := z22 = 0) ⟨fun c23 => ?_, fun c23 => ?_⟩
  · have k := k.1 c23
    show rx_aw 165 208 [.ref 90, .int x1, .int x2, .int x3, .int x4, .int x5, .int x6, .int x7, .int x8, .int x9] [] (rx_hp L t hi22 hl22 v22) Q
    refine rx_aw_s 2 (pc := 208) rfl ?_
    show rx_aw 165 194 [.ref 90, .int x1, .int x2, .int x3, .int x4, .int x5, .int x6, .int x7, .int x8, .int (x9 + (1 : Int32))] [] (rx_hp L t hi22 hl22 v22) Q
    exact k
  · have k := k.2 c23
    show rx_aw 165 214 [.ref 90, .int x1, .int x2, .int x3, .int x4, .int x5, .int x6, .int x7, .int x8, .int x9] [] (rx_hp L t hi22 hl22 v22) Q
    refine rx_aw_s 8 (pc := 214) rfl ?_
    show rx_aw 165 228 [.ref 90, .int x1, .int x2, .int x3, .int x4, .int x5, .int x6, .int x7, .int x8, .int x9] [.int x9, .int (((400 : Int32) * x1) + x8), .ref 95] (rx_hp L t hi22 hl22 v22) Q
    obtain ⟨j24, ej24, hj24, k⟩ := k
    refine rx_aw_iast (pc := 228) (n := 2400) j24 ej24 rfl rfl (by decide) rfl hj24 (by decide) ?_
    show rx_aw 165 229 [.ref 90, .int x1, .int x2, .int x3, .int x4, .int x5, .int x6, .int x7, .int x8, .int x9] [] (rx_hp L t (rx_u hi22 95 j24 x9) hl22 v22) Q
    refine rx_aw_s 10 (pc := 229) rfl ?_
    show rx_aw 165 184 [.ref 90, .int x1, .int x2, .int x3, .int x4, .int x5, .int x6, .int (((4 : Int32) * ((rx_u hi22 95 j24 x9) 90 33)) + ((rx_u hi22 95 j24 x9) 90 34)), .int (x8 + (1 : Int32)), .int x9] [] (rx_hp L t (rx_u hi22 95 j24 x9) hl22 v22) Q
    exact rx_aw_le (ls := [.ref 90, .int x1, .int x2, .int x3, .int x4, .int x5, .int x6, .int (((4 : Int32) * ((rx_u hi22 95 j24 x9) 90 33)) + ((rx_u hi22 95 j24 x9) 90 34)), .int (x8 + (1 : Int32)), rx_no]) ⟨Or.inr rfl, ⟨Or.inr rfl, ⟨Or.inr rfl, ⟨Or.inr rfl, ⟨Or.inr rfl, ⟨Or.inr rfl, ⟨Or.inr rfl, ⟨Or.inr rfl, ⟨Or.inr rfl, ⟨Or.inl rfl, trivial⟩⟩⟩⟩⟩⟩⟩⟩⟩⟩ k
set_option maxRecDepth 100000 in
/-- CartFloorModel.look(II)V -/
theorem w166_look_r {L : Nat} {t : List (Nat × Nat)} {hi : Nat → Nat → Int32} {hl : Nat → Nat → Int64} {v : Nat → Nat → Option Nat} {Q : Option Value → rx_H → Prop} {a0 : Int32} {a1 : Int32} (k : (∃ j1 : Nat, (((402 : Int32) * a0) + a1) = nI j1 ∧ j1 < 2412 ∧ rx_me 167 [.ref 90] (rx_hp L t hi hl v) (fun r h2 => ∃ z2 : Int64, r = some (.long z2) ∧ rx_ok2 L t h2 (fun hi2 hl2 v2 => rx_aw 166 26 [.ref 90, .int a0, .int a1, .int (hi 103 j1), .int (401 : Int32), rx_no, rx_no, rx_no] [] (rx_hp L t hi2 (rx_u hl2 90 43 z2) v2) Q)))) : rx_me 166 [.ref 90, .int a0, .int a1] (rx_hp L t hi hl v) Q := by
  show rx_aw 166 0 [.ref 90, .int a0, .int a1, rx_no, rx_no, rx_no, rx_no, rx_no] [] (rx_hp L t hi hl v) Q
  refine rx_aw_s 7 (pc := 0) rfl ?_
  show rx_aw 166 11 [.ref 90, .int a0, .int a1, rx_no, rx_no, rx_no, rx_no, rx_no] [.int (((402 : Int32) * a0) + a1), .ref 103] (rx_hp L t hi hl v) Q
  obtain ⟨j1, ej1, hj1, k⟩ := k
  refine rx_aw_iald (pc := 11) (n := 2412) j1 ej1 rfl rfl rfl hj1 (by decide) ?_
  show rx_aw 166 12 [.ref 90, .int a0, .int a1, rx_no, rx_no, rx_no, rx_no, rx_no] [.int (hi 103 j1)] (rx_hp L t hi hl v) Q
  refine rx_aw_s 3 (pc := 12) rfl ?_
  show rx_aw 166 15 [.ref 90, .int a0, .int a1, .int (hi 103 j1), rx_no, rx_no, rx_no, rx_no] [.ref 90, .ref 90] (rx_hp L t hi hl v) Q
  refine rx_w_callL (j := 167) (pc := 15) rfl rfl rfl rfl rfl ?_
  refine rx_aw.mono k (fun r h2 k => ?_)
  obtain ⟨z2, rfl, hi2, hl2, v2, rfl, k⟩ := k
  refine ⟨z2, rfl, ?_⟩
  show rx_aw 166 18 [.ref 90, .int a0, .int a1, .int (hi 103 j1), rx_no, rx_no, rx_no, rx_no] [.long z2, .ref 90] (rx_hp L t hi2 hl2 v2) Q
  refine rx_aw_s 3 (pc := 18) rfl ?_
  show rx_aw 166 26 [.ref 90, .int a0, .int a1, .int (hi 103 j1), .int (401 : Int32), rx_no, rx_no, rx_no] [] (rx_hp L t hi2 (rx_u hl2 90 43 z2) v2) Q
  exact k
set_option maxRecDepth 100000 in
theorem w166_look_r_26 {L : Nat} {t : List (Nat × Nat)} {hi : Nat → Nat → Int32} {hl : Nat → Nat → Int64} {v : Nat → Nat → Option Nat} {Q : Option Value → rx_H → Prop} {x1 : Int32} {x2 : Int32} {x3 : Int32} {x4 : Int32} (k : ((x4 < 0 → Q none (rx_hp L t hi hl v)) ∧ (¬ (x4 < 0) → rx_aw 166 37 [.ref 90, .int x1, .int x2, .int x3, .int x4, .long (0 : Int64), rx_no, .int (0 : Int32)] [] (rx_hp L t hi hl v) Q))) : rx_aw 166 26 [.ref 90, .int x1, .int x2, .int x3, .int x4, rx_no, rx_no, rx_no] [] (rx_hp L t hi hl v) Q := by
  refine rx_aw_s 2 (pc := 26) rfl ?_
  refine rx_w_if (c := x4 < 0) ⟨fun c3 => ?_, fun c3 => ?_⟩
  · have k := k.1 c3
    show rx_aw 166 194 [.ref 90, .int x1, .int x2, .int x3, .int x4, rx_no, rx_no, rx_no] [] (rx_hp L t hi hl v) Q
    exact rx_aw_ret (pc := 194) rfl k
  · have k := k.2 c3
    show rx_aw 166 31 [.ref 90, .int x1, .int x2, .int x3, .int x4, rx_no, rx_no, rx_no] [] (rx_hp L t hi hl v) Q
    refine rx_aw_s 4 (pc := 31) rfl ?_
    show rx_aw 166 37 [.ref 90, .int x1, .int x2, .int x3, .int x4, .long (0 : Int64), rx_no, .int (0 : Int32)] [] (rx_hp L t hi hl v) Q
    exact k
set_option maxRecDepth 100000 in
theorem w166_look_r_37 {L : Nat} {t : List (Nat × Nat)} {hi : Nat → Nat → Int32} {hl : Nat → Nat → Int64} {v : Nat → Nat → Option Nat} {Q : Option Value → rx_H → Prop} {x1 : Int32} {x2 : Int32} {x3 : Int32} {x4 : Int32} {x5 : Int64} {x7 : Int32} (k : (((hi 90 6) ≤ x7 → (∃ j5 : Nat, x4 = nI j5 ∧ j5 < 402 ∧ rx_me 170 [.ref 90, .int x1, .int x3] (rx_hp L t hi (rx_u hl 117 j5 x5) v) (fun r h2 => ∃ z6 : Int32, r = some (.int z6) ∧ rx_ok2 L t h2 (fun hi6 hl6 v6 => ((z6 = 0 → (∃ j8 : Nat, x4 = nI j8 ∧ j8 < 402 ∧ (((402 : Int32) ≤ (x4 + (1 : Int32)) → (∃ j10 : Nat, x4 = nI j10 ∧ j10 < 402 ∧ (∃ j11 : Nat, x4 = nI j11 ∧ j11 < 402 ∧ (((402 : Int32) ≤ (x4 + (1 : Int32)) → (∃ j13 : Nat, x4 = nI j13 ∧ j13 < 402 ∧ rx_aw 166 26 [.ref 90, .int x1, .int x2, .int x3, .int (x4 + (-1 : Int32)), rx_no, rx_no, rx_no] [] (rx_hp L t hi6 (rx_u (rx_u (rx_u hl6 119 j8 (0 : Int64)) 118 j10 (x5 ||| (0 : Int64))) 120 j13 (((rx_u (rx_u hl6 119 j8 (0 : Int64)) 118 j10 (x5 ||| (0 : Int64))) 119 j11) ||| (0 : Int64))) v6) Q)) ∧ (¬ ((402 : Int32) ≤ (x4 + (1 : Int32))) → (∃ j14 : Nat, (x4 + (1 : Int32)) = nI j14 ∧ j14 < 402 ∧ (∃ j15 : Nat, x4 = nI j15 ∧ j15 < 402 ∧ rx_aw 166 26 [.ref 90, .int x1, .int x2, .int x3, .int (x4 + (-1 : Int32)), rx_no, rx_no, rx_no] [] (rx_hp L t hi6 (rx_u (rx_u (rx_u hl6 119 j8 (0 : Int64)) 118 j10 (x5 ||| (0 : Int64))) 120 j15 (((rx_u (rx_u hl6 119 j8 (0 : Int64)) 118 j10 (x5 ||| (0 : Int64))) 119 j11) ||| ((rx_u (rx_u hl6 119 j8 (0 : Int64)) 118 j10 (x5 ||| (0 : Int64))) 120 j14))) v6) Q))))))) ∧ (¬ ((402 : Int32) ≤ (x4 + (1 : Int32))) → (∃ j16 : Nat, (x4 + (1 : Int32)) = nI j16 ∧ j16 < 402 ∧ (∃ j17 : Nat, x4 = nI j17 ∧ j17 < 402 ∧ (∃ j18 : Nat, x4 = nI j18 ∧ j18 < 402 ∧ (((402 : Int32) ≤ (x4 + (1 : Int32)) → (∃ j20 : Nat, x4 = nI j20 ∧ j20 < 402 ∧ rx_aw 166 26 [.ref 90, .int x1, .int x2, .int x3, .int (x4 + (-1 : Int32)), rx_no, rx_no, rx_no] [] (rx_hp L t hi6 (rx_u (rx_u (rx_u hl6 119 j8 (0 : Int64)) 118 j17 (x5 ||| ((rx_u hl6 119 j8 (0 : Int64)) 118 j16))) 120 j20 (((rx_u (rx_u hl6 119 j8 (0 : Int64)) 118 j17 (x5 ||| ((rx_u hl6 119 j8 (0 : Int64)) 118 j16))) 119 j18) ||| (0 : Int64))) v6) Q)) ∧ (¬ ((402 : Int32) ≤ (x4 + (1 : Int32))) → (∃ j21 : Nat, (x4 + (1 : Int32)) = nI j21 ∧ j21 < 402 ∧ (∃ j22 : Nat, x4 = nI j22 ∧ j22 < 402 ∧ rx_aw 166 26 [.ref 90, .int x1, .int x2, .int x3, .int (x4 + (-1 : Int32)), rx_no, rx_no, rx_no] [] (rx_hp L t hi6 (rx_u (rx_u (rx_u hl6 119 j8 (0 : Int64)) 118 j17 (x5 ||| ((rx_u hl6 119 j8 (0 : Int64)) 118 j16))) 120 j22 (((rx_u (rx_u hl6 119 j8 (0 : Int64)) 118 j17 (x5 ||| ((rx_u hl6 119 j8 (0 : Int64)) 118 j16))) 119 j18) ||| ((rx_u (rx_u hl6 119 j8 (0 : Int64)) 118 j17 (x5 ||| ((rx_u hl6 119 j8 (0 : Int64)) 118 j16))) 120 j21))) v6) Q))))))))))) ∧ (¬ (z6 = 0) → rx_me 171 [.ref 90, .int x4, .int x3] (rx_hp L t hi6 hl6 v6) (fun r h2 => ∃ z23 : Int64, r = some (.long z23) ∧ rx_ok2 L t h2 (fun hi23 hl23 v23 => (∃ j24 : Nat, x4 = nI j24 ∧ j24 < 402 ∧ (((402 : Int32) ≤ (x4 + (1 : Int32)) → (∃ j26 : Nat, x4 = nI j26 ∧ j26 < 402 ∧ (∃ j27 : Nat, x4 = nI j27 ∧ j27 < 402 ∧ (((402 : Int32) ≤ (x4 + (1 : Int32)) → (∃ j29 : Nat, x4 = nI j29 ∧ j29 < 402 ∧ rx_aw 166 26 [.ref 90, .int x1, .int x2, .int x3, .int (x4 + (-1 : Int32)), rx_no, rx_no, rx_no] [] (rx_hp L t hi23 (rx_u (rx_u (rx_u hl23 119 j24 z23) 118 j26 (x5 ||| (0 : Int64))) 120 j29 (((rx_u (rx_u hl23 119 j24 z23) 118 j26 (x5 ||| (0 : Int64))) 119 j27) ||| (0 : Int64))) v23) Q)) ∧ (¬ ((402 : Int32) ≤ (x4 + (1 : Int32))) → (∃ j30 : Nat, (x4 + (1 : Int32)) = nI j30 ∧ j30 < 402 ∧ (∃ j31 : Nat, x4 = nI j31 ∧ j31 < 402 ∧ rx_aw 166 26 [.ref 90, .int x1, .int x2, .int x3, .int (x4 + (-1 : Int32)), rx_no, rx_no, rx_no] [] (rx_hp L t hi23 (rx_u (rx_u (rx_u hl23 119 j24 z23) 118 j26 (x5 ||| (0 : Int64))) 120 j31 (((rx_u (rx_u hl23 119 j24 z23) 118 j26 (x5 ||| (0 : Int64))) 119 j27) ||| ((rx_u (rx_u hl23 119 j24 z23) 118 j26 (x5 ||| (0 : Int64))) 120 j30))) v23) Q))))))) ∧ (¬ ((402 : Int32) ≤ (x4 + (1 : Int32))) → (∃ j32 : Nat, (x4 + (1 : Int32)) = nI j32 ∧ j32 < 402 ∧ (∃ j33 : Nat, x4 = nI j33 ∧ j33 < 402 ∧ (∃ j34 : Nat, x4 = nI j34 ∧ j34 < 402 ∧ (((402 : Int32) ≤ (x4 + (1 : Int32)) → (∃ j36 : Nat, x4 = nI j36 ∧ j36 < 402 ∧ rx_aw 166 26 [.ref 90, .int x1, .int x2, .int x3, .int (x4 + (-1 : Int32)), rx_no, rx_no, rx_no] [] (rx_hp L t hi23 (rx_u (rx_u (rx_u hl23 119 j24 z23) 118 j33 (x5 ||| ((rx_u hl23 119 j24 z23) 118 j32))) 120 j36 (((rx_u (rx_u hl23 119 j24 z23) 118 j33 (x5 ||| ((rx_u hl23 119 j24 z23) 118 j32))) 119 j34) ||| (0 : Int64))) v23) Q)) ∧ (¬ ((402 : Int32) ≤ (x4 + (1 : Int32))) → (∃ j37 : Nat, (x4 + (1 : Int32)) = nI j37 ∧ j37 < 402 ∧ (∃ j38 : Nat, x4 = nI j38 ∧ j38 < 402 ∧ rx_aw 166 26 [.ref 90, .int x1, .int x2, .int x3, .int (x4 + (-1 : Int32)), rx_no, rx_no, rx_no] [] (rx_hp L t hi23 (rx_u (rx_u (rx_u hl23 119 j24 z23) 118 j33 (x5 ||| ((rx_u hl23 119 j24 z23) 118 j32))) 120 j38 (((rx_u (rx_u hl23 119 j24 z23) 118 j33 (x5 ||| ((rx_u hl23 119 j24 z23) 118 j32))) 119 j34) ||| ((rx_u (rx_u hl23 119 j24 z23) 118 j33 (x5 ||| ((rx_u hl23 119 j24 z23) 118 j32))) 120 j37))) v23) Q)))))))))))))))))) ∧ (¬ ((hi 90 6) ≤ x7) → ((x7 = x1 → rx_aw 166 37 [.ref 90, .int x1, .int x2, .int x3, .int x4, .long (x5 ||| (0 : Int64)), rx_no, .int (x7 + (1 : Int32))] [] (rx_hp L t hi hl v) Q) ∧ (¬ (x7 = x1) → (∃ j40 : Nat, (((402 : Int32) * x7) + x4) = nI j40 ∧ j40 < 2412 ∧ rx_aw 166 37 [.ref 90, .int x1, .int x2, .int x3, .int x4, .long (x5 ||| (hl 106 j40)), rx_no, .int (x7 + (1 : Int32))] [] (rx_hp L t hi hl v) Q)))))) : rx_aw 166 37 [.ref 90, .int x1, .int x2, .int x3, .int x4, .long x5, rx_no, .int x7] [] (rx_hp L t hi hl v) Q := by
  refine rx_aw_s 4 (pc := 37) rfl ?_
  refine rx_w_if (c := (hi 90 6) ≤ x7) ⟨fun c4 => ?_, fun c4 => ?_⟩
  · have k := k.1 c4
    show rx_aw 166 81 [.ref 90, .int x1, .int x2, .int x3, .int x4, .long x5, rx_no, .int x7] [] (rx_hp L t hi hl v) Q
    refine rx_aw_s 4 (pc := 81) rfl ?_
    show rx_aw 166 89 [.ref 90, .int x1, .int x2, .int x3, .int x4, .long x5, rx_no, .int x7] [.long x5, .int x4, .ref 117] (rx_hp L t hi hl v) Q
    obtain ⟨j5, ej5, hj5, k⟩ := k
    refine rx_aw_last (pc := 89) (n := 402) j5 ej5 rfl rfl (by decide) rfl hj5 (by decide) ?_
    show rx_aw 166 90 [.ref 90, .int x1, .int x2, .int x3, .int x4, .long x5, rx_no, .int x7] [] (rx_hp L t hi (rx_u hl 117 j5 x5) v) Q
    refine rx_aw_s 6 (pc := 90) rfl ?_
    show rx_aw 166 99 [.ref 90, .int x1, .int x2, .int x3, .int x4, .long x5, rx_no, .int x7] [.int x3, .int x1, .ref 90, .int x4, .ref 119] (rx_hp L t hi (rx_u hl 117 j5 x5) v) Q
    refine rx_w_callI (j := 170) (pc := 99) rfl rfl rfl rfl rfl ?_
    refine rx_aw.mono k (fun r h2 k => ?_)
    obtain ⟨z6, rfl, hi6, hl6, v6, rfl, k⟩ := k
    refine ⟨z6, rfl, ?_⟩
    show rx_aw 166 102 [.ref 90, .int x1, .int x2, .int x3, .int x4, .long x5, rx_no, .int x7] [.int z6, .int x4, .ref 119] (rx_hp L t hi6 hl6 v6) Q
    refine rx_aw_s 1 (pc := 102) rfl ?_
    refine rx_w_if (c := z6 = 0) ⟨fun c7 => ?_, fun c7 => ?_⟩
    · have k := k.1 c7
      show rx_aw 166 115 [.ref 90, .int x1, .int x2, .int x3, .int x4, .long x5, rx_no, .int x7] [.int x4, .ref 119] (rx_hp L t hi6 hl6 v6) Q
      refine rx_aw_s 1 (pc := 115) rfl ?_
      show rx_aw 166 116 [.ref 90, .int x1, .int x2, .int x3, .int x4, .long x5, rx_no, .int x7] [.long (0 : Int64), .int x4, .ref 119] (rx_hp L t hi6 hl6 v6) Q
      obtain ⟨j8, ej8, hj8, k⟩ := k
      refine rx_aw_last (pc := 116) (n := 402) j8 ej8 rfl rfl (by decide) rfl hj8 (by decide) ?_
      show rx_aw 166 117 [.ref 90, .int x1, .int x2, .int x3, .int x4, .long x5, rx_no, .int x7] [] (rx_hp L t hi6 (rx_u hl6 119 j8 (0 : Int64)) v6) Q
      refine rx_aw_s 9 (pc := 117) rfl ?_
      refine rx_w_if (c := (402 : Int32) ≤ (x4 + (1 : Int32))) ⟨fun c9 => ?_, fun c9 => ?_⟩
      · have k := k.1 c9
        show rx_aw 166 147 [.ref 90, .int x1, .int x2, .int x3, .int x4, .long x5, rx_no, .int x7] [.long x5, .int x4, .ref 118] (rx_hp L t hi6 (rx_u hl6 119 j8 (0 : Int64)) v6) Q
        refine rx_aw_s 2 (pc := 147) rfl ?_
        show rx_aw 166 149 [.ref 90, .int x1, .int x2, .int x3, .int x4, .long x5, rx_no, .int x7] [.long (x5 ||| (0 : Int64)), .int x4, .ref 118] (rx_hp L t hi6 (rx_u hl6 119 j8 (0 : Int64)) v6) Q
        obtain ⟨j10, ej10, hj10, k⟩ := k
        refine rx_aw_last (pc := 149) (n := 402) j10 ej10 rfl rfl (by decide) rfl hj10 (by decide) ?_
        show rx_aw 166 150 [.ref 90, .int x1, .int x2, .int x3, .int x4, .long x5, rx_no, .int x7] [] (rx_hp L t hi6 (rx_u (rx_u hl6 119 j8 (0 : Int64)) 118 j10 (x5 ||| (0 : Int64))) v6) Q
        refine rx_aw_s 6 (pc := 150) rfl ?_
        show rx_aw 166 162 [.ref 90, .int x1, .int x2, .int x3, .int x4, .long x5, rx_no, .int x7] [.int x4, .ref 119, .int x4, .ref 120] (rx_hp L t hi6 (rx_u (rx_u hl6 119 j8 (0 : Int64)) 118 j10 (x5 ||| (0 : Int64))) v6) Q
        obtain ⟨j11, ej11, hj11, k⟩ := k
        refine rx_aw_lald (pc := 162) (n := 402) j11 ej11 rfl rfl (by decide) rfl hj11 (by decide) ?_
        show rx_aw 166 163 [.ref 90, .int x1, .int x2, .int x3, .int x4, .long x5, rx_no, .int x7] [.long ((rx_u (rx_u hl6 119 j8 (0 : Int64)) 118 j10 (x5 ||| (0 : Int64))) 119 j11), .int x4, .ref 120] (rx_hp L t hi6 (rx_u (rx_u hl6 119 j8 (0 : Int64)) 118 j10 (x5 ||| (0 : Int64))) v6) Q
        refine rx_aw_s 5 (pc := 163) rfl ?_
        refine rx_w_if (c := (402 : Int32) ≤ (x4 + (1 : Int32))) ⟨fun c12 => ?_, fun c12 => ?_⟩
        · have k := k.1 c12
          show rx_aw 166 185 [.ref 90, .int x1, .int x2, .int x3, .int x4, .long x5, rx_no, .int x7] [.long ((rx_u (rx_u hl6 119 j8 (0 : Int64)) 118 j10 (x5 ||| (0 : Int64))) 119 j11), .int x4, .ref 120] (rx_hp L t hi6 (rx_u (rx_u hl6 119 j8 (0 : Int64)) 118 j10 (x5 ||| (0 : Int64))) v6) Q
          refine rx_aw_s 2 (pc := 185) rfl ?_
          show rx_aw 166 187 [.ref 90, .int x1, .int x2, .int x3, .int x4, .long x5, rx_no, .int x7] [.long (((rx_u (rx_u hl6 119 j8 (0 : Int64)) 118 j10 (x5 ||| (0 : Int64))) 119 j11) ||| (0 : Int64)), .int x4, .ref 120] (rx_hp L t hi6 (rx_u (rx_u hl6 119 j8 (0 : Int64)) 118 j10 (x5 ||| (0 : Int64))) v6) Q
          obtain ⟨j13, ej13, hj13, k⟩ := k
          refine rx_aw_last (pc := 187) (n := 402) j13 ej13 rfl rfl (by decide) rfl hj13 (by decide) ?_
          show rx_aw 166 188 [.ref 90, .int x1, .int x2, .int x3, .int x4, .long x5, rx_no, .int x7] [] (rx_hp L t hi6 (rx_u (rx_u (rx_u hl6 119 j8 (0 : Int64)) 118 j10 (x5 ||| (0 : Int64))) 120 j13 (((rx_u (rx_u hl6 119 j8 (0 : Int64)) 118 j10 (x5 ||| (0 : Int64))) 119 j11) ||| (0 : Int64))) v6) Q
          refine rx_aw_s 2 (pc := 188) rfl ?_
          show rx_aw 166 26 [.ref 90, .int x1, .int x2, .int x3, .int (x4 + (-1 : Int32)), .long x5, rx_no, .int x7] [] (rx_hp L t hi6 (rx_u (rx_u (rx_u hl6 119 j8 (0 : Int64)) 118 j10 (x5 ||| (0 : Int64))) 120 j13 (((rx_u (rx_u hl6 119 j8 (0 : Int64)) 118 j10 (x5 ||| (0 : Int64))) 119 j11) ||| (0 : Int64))) v6) Q
          exact rx_aw_le (ls := [.ref 90, .int x1, .int x2, .int x3, .int (x4 + (-1 : Int32)), rx_no, rx_no, rx_no]) ⟨Or.inr rfl, ⟨Or.inr rfl, ⟨Or.inr rfl, ⟨Or.inr rfl, ⟨Or.inr rfl, ⟨Or.inl rfl, ⟨Or.inl rfl, ⟨Or.inl rfl, trivial⟩⟩⟩⟩⟩⟩⟩⟩ k
        · have k := k.2 c12
          show rx_aw 166 173 [.ref 90, .int x1, .int x2, .int x3, .int x4, .long x5, rx_no, .int x7] [.long ((rx_u (rx_u hl6 119 j8 (0 : Int64)) 118 j10 (x5 ||| (0 : Int64))) 119 j11), .int x4, .ref 120] (rx_hp L t hi6 (rx_u (rx_u hl6 119 j8 (0 : Int64)) 118 j10 (x5 ||| (0 : Int64))) v6) Q
          refine rx_aw_s 5 (pc := 173) rfl ?_
          show rx_aw 166 181 [.ref 90, .int x1, .int x2, .int x3, .int x4, .long x5, rx_no, .int x7] [.int (x4 + (1 : Int32)), .ref 120, .long ((rx_u (rx_u hl6 119 j8 (0 : Int64)) 118 j10 (x5 ||| (0 : Int64))) 119 j11), .int x4, .ref 120] (rx_hp L t hi6 (rx_u (rx_u hl6 119 j8 (0 : Int64)) 118 j10 (x5 ||| (0 : Int64))) v6) Q
          obtain ⟨j14, ej14, hj14, k⟩ := k
          refine rx_aw_lald (pc := 181) (n := 402) j14 ej14 rfl rfl (by decide) rfl hj14 (by decide) ?_
          show rx_aw 166 182 [.ref 90, .int x1, .int x2, .int x3, .int x4, .long x5, rx_no, .int x7] [.long ((rx_u (rx_u hl6 119 j8 (0 : Int64)) 118 j10 (x5 ||| (0 : Int64))) 120 j14), .long ((rx_u (rx_u hl6 119 j8 (0 : Int64)) 118 j10 (x5 ||| (0 : Int64))) 119 j11), .int x4, .ref 120] (rx_hp L t hi6 (rx_u (rx_u hl6 119 j8 (0 : Int64)) 118 j10 (x5 ||| (0 : Int64))) v6) Q
          refine rx_aw_s 2 (pc := 182) rfl ?_
          show rx_aw 166 187 [.ref 90, .int x1, .int x2, .int x3, .int x4, .long x5, rx_no, .int x7] [.long (((rx_u (rx_u hl6 119 j8 (0 : Int64)) 118 j10 (x5 ||| (0 : Int64))) 119 j11) ||| ((rx_u (rx_u hl6 119 j8 (0 : Int64)) 118 j10 (x5 ||| (0 : Int64))) 120 j14)), .int x4, .ref 120] (rx_hp L t hi6 (rx_u (rx_u hl6 119 j8 (0 : Int64)) 118 j10 (x5 ||| (0 : Int64))) v6) Q
          obtain ⟨j15, ej15, hj15, k⟩ := k
          refine rx_aw_last (pc := 187) (n := 402) j15 ej15 rfl rfl (by decide) rfl hj15 (by decide) ?_
          show rx_aw 166 188 [.ref 90, .int x1, .int x2, .int x3, .int x4, .long x5, rx_no, .int x7] [] (rx_hp L t hi6 (rx_u (rx_u (rx_u hl6 119 j8 (0 : Int64)) 118 j10 (x5 ||| (0 : Int64))) 120 j15 (((rx_u (rx_u hl6 119 j8 (0 : Int64)) 118 j10 (x5 ||| (0 : Int64))) 119 j11) ||| ((rx_u (rx_u hl6 119 j8 (0 : Int64)) 118 j10 (x5 ||| (0 : Int64))) 120 j14))) v6) Q
          refine rx_aw_s 2 (pc := 188) rfl ?_
          show rx_aw 166 26 [.ref 90, .int x1, .int x2, .int x3, .int (x4 + (-1 : Int32)), .long x5, rx_no, .int x7] [] (rx_hp L t hi6 (rx_u (rx_u (rx_u hl6 119 j8 (0 : Int64)) 118 j10 (x5 ||| (0 : Int64))) 120 j15 (((rx_u (rx_u hl6 119 j8 (0 : Int64)) 118 j10 (x5 ||| (0 : Int64))) 119 j11) ||| ((rx_u (rx_u hl6 119 j8 (0 : Int64)) 118 j10 (x5 ||| (0 : Int64))) 120 j14))) v6) Q
          exact rx_aw_le (ls := [.ref 90, .int x1, .int x2, .int x3, .int (x4 + (-1 : Int32)), rx_no, rx_no, rx_no]) ⟨Or.inr rfl, ⟨Or.inr rfl, ⟨Or.inr rfl, ⟨Or.inr rfl, ⟨Or.inr rfl, ⟨Or.inl rfl, ⟨Or.inl rfl, ⟨Or.inl rfl, trivial⟩⟩⟩⟩⟩⟩⟩⟩ k
      · have k := k.2 c9
        show rx_aw 166 135 [.ref 90, .int x1, .int x2, .int x3, .int x4, .long x5, rx_no, .int x7] [.long x5, .int x4, .ref 118] (rx_hp L t hi6 (rx_u hl6 119 j8 (0 : Int64)) v6) Q
        refine rx_aw_s 5 (pc := 135) rfl ?_
        show rx_aw 166 143 [.ref 90, .int x1, .int x2, .int x3, .int x4, .long x5, rx_no, .int x7] [.int (x4 + (1 : Int32)), .ref 118, .long x5, .int x4, .ref 118] (rx_hp L t hi6 (rx_u hl6 119 j8 (0 : Int64)) v6) Q
        obtain ⟨j16, ej16, hj16, k⟩ := k
        refine rx_aw_lald (pc := 143) (n := 402) j16 ej16 rfl rfl (by decide) rfl hj16 (by decide) ?_
        show rx_aw 166 144 [.ref 90, .int x1, .int x2, .int x3, .int x4, .long x5, rx_no, .int x7] [.long ((rx_u hl6 119 j8 (0 : Int64)) 118 j16), .long x5, .int x4, .ref 118] (rx_hp L t hi6 (rx_u hl6 119 j8 (0 : Int64)) v6) Q
        refine rx_aw_s 2 (pc := 144) rfl ?_
        show rx_aw 166 149 [.ref 90, .int x1, .int x2, .int x3, .int x4, .long x5, rx_no, .int x7] [.long (x5 ||| ((rx_u hl6 119 j8 (0 : Int64)) 118 j16)), .int x4, .ref 118] (rx_hp L t hi6 (rx_u hl6 119 j8 (0 : Int64)) v6) Q
        obtain ⟨j17, ej17, hj17, k⟩ := k
        refine rx_aw_last (pc := 149) (n := 402) j17 ej17 rfl rfl (by decide) rfl hj17 (by decide) ?_
        show rx_aw 166 150 [.ref 90, .int x1, .int x2, .int x3, .int x4, .long x5, rx_no, .int x7] [] (rx_hp L t hi6 (rx_u (rx_u hl6 119 j8 (0 : Int64)) 118 j17 (x5 ||| ((rx_u hl6 119 j8 (0 : Int64)) 118 j16))) v6) Q
        refine rx_aw_s 6 (pc := 150) rfl ?_
        show rx_aw 166 162 [.ref 90, .int x1, .int x2, .int x3, .int x4, .long x5, rx_no, .int x7] [.int x4, .ref 119, .int x4, .ref 120] (rx_hp L t hi6 (rx_u (rx_u hl6 119 j8 (0 : Int64)) 118 j17 (x5 ||| ((rx_u hl6 119 j8 (0 : Int64)) 118 j16))) v6) Q
        obtain ⟨j18, ej18, hj18, k⟩ := k
        refine rx_aw_lald (pc := 162) (n := 402) j18 ej18 rfl rfl (by decide) rfl hj18 (by decide) ?_
        show rx_aw 166 163 [.ref 90, .int x1, .int x2, .int x3, .int x4, .long x5, rx_no, .int x7] [.long ((rx_u (rx_u hl6 119 j8 (0 : Int64)) 118 j17 (x5 ||| ((rx_u hl6 119 j8 (0 : Int64)) 118 j16))) 119 j18), .int x4, .ref 120] (rx_hp L t hi6 (rx_u (rx_u hl6 119 j8 (0 : Int64)) 118 j17 (x5 ||| ((rx_u hl6 119 j8 (0 : Int64)) 118 j16))) v6) Q
        refine rx_aw_s 5 (pc := 163) rfl ?_
        refine rx_w_if (c := (402 : Int32) ≤ (x4 + (1 : Int32))) ⟨fun c19 => ?_, fun c19 => ?_⟩
        · have k := k.1 c19
          show rx_aw 166 185 [.ref 90, .int x1, .int x2, .int x3, .int x4, .long x5, rx_no, .int x7] [.long ((rx_u (rx_u hl6 119 j8 (0 : Int64)) 118 j17 (x5 ||| ((rx_u hl6 119 j8 (0 : Int64)) 118 j16))) 119 j18), .int x4, .ref 120] (rx_hp L t hi6 (rx_u (rx_u hl6 119 j8 (0 : Int64)) 118 j17 (x5 ||| ((rx_u hl6 119 j8 (0 : Int64)) 118 j16))) v6) Q
          refine rx_aw_s 2 (pc := 185) rfl ?_
          show rx_aw 166 187 [.ref 90, .int x1, .int x2, .int x3, .int x4, .long x5, rx_no, .int x7] [.long (((rx_u (rx_u hl6 119 j8 (0 : Int64)) 118 j17 (x5 ||| ((rx_u hl6 119 j8 (0 : Int64)) 118 j16))) 119 j18) ||| (0 : Int64)), .int x4, .ref 120] (rx_hp L t hi6 (rx_u (rx_u hl6 119 j8 (0 : Int64)) 118 j17 (x5 ||| ((rx_u hl6 119 j8 (0 : Int64)) 118 j16))) v6) Q
          obtain ⟨j20, ej20, hj20, k⟩ := k
          refine rx_aw_last (pc := 187) (n := 402) j20 ej20 rfl rfl (by decide) rfl hj20 (by decide) ?_
          show rx_aw 166 188 [.ref 90, .int x1, .int x2, .int x3, .int x4, .long x5, rx_no, .int x7] [] (rx_hp L t hi6 (rx_u (rx_u (rx_u hl6 119 j8 (0 : Int64)) 118 j17 (x5 ||| ((rx_u hl6 119 j8 (0 : Int64)) 118 j16))) 120 j20 (((rx_u (rx_u hl6 119 j8 (0 : Int64)) 118 j17 (x5 ||| ((rx_u hl6 119 j8 (0 : Int64)) 118 j16))) 119 j18) ||| (0 : Int64))) v6) Q
          refine rx_aw_s 2 (pc := 188) rfl ?_
          show rx_aw 166 26 [.ref 90, .int x1, .int x2, .int x3, .int (x4 + (-1 : Int32)), .long x5, rx_no, .int x7] [] (rx_hp L t hi6 (rx_u (rx_u (rx_u hl6 119 j8 (0 : Int64)) 118 j17 (x5 ||| ((rx_u hl6 119 j8 (0 : Int64)) 118 j16))) 120 j20 (((rx_u (rx_u hl6 119 j8 (0 : Int64)) 118 j17 (x5 ||| ((rx_u hl6 119 j8 (0 : Int64)) 118 j16))) 119 j18) ||| (0 : Int64))) v6) Q
          exact rx_aw_le (ls := [.ref 90, .int x1, .int x2, .int x3, .int (x4 + (-1 : Int32)), rx_no, rx_no, rx_no]) ⟨Or.inr rfl, ⟨Or.inr rfl, ⟨Or.inr rfl, ⟨Or.inr rfl, ⟨Or.inr rfl, ⟨Or.inl rfl, ⟨Or.inl rfl, ⟨Or.inl rfl, trivial⟩⟩⟩⟩⟩⟩⟩⟩ k
        · have k := k.2 c19
          show rx_aw 166 173 [.ref 90, .int x1, .int x2, .int x3, .int x4, .long x5, rx_no, .int x7] [.long ((rx_u (rx_u hl6 119 j8 (0 : Int64)) 118 j17 (x5 ||| ((rx_u hl6 119 j8 (0 : Int64)) 118 j16))) 119 j18), .int x4, .ref 120] (rx_hp L t hi6 (rx_u (rx_u hl6 119 j8 (0 : Int64)) 118 j17 (x5 ||| ((rx_u hl6 119 j8 (0 : Int64)) 118 j16))) v6) Q
          refine rx_aw_s 5 (pc := 173) rfl ?_
          show rx_aw 166 181 [.ref 90, .int x1, .int x2, .int x3, .int x4, .long x5, rx_no, .int x7] [.int (x4 + (1 : Int32)), .ref 120, .long ((rx_u (rx_u hl6 119 j8 (0 : Int64)) 118 j17 (x5 ||| ((rx_u hl6 119 j8 (0 : Int64)) 118 j16))) 119 j18), .int x4, .ref 120] (rx_hp L t hi6 (rx_u (rx_u hl6 119 j8 (0 : Int64)) 118 j17 (x5 ||| ((rx_u hl6 119 j8 (0 : Int64)) 118 j16))) v6) Q
          obtain ⟨j21, ej21, hj21, k⟩ := k
          refine rx_aw_lald (pc := 181) (n := 402) j21 ej21 rfl rfl (by decide) rfl hj21 (by decide) ?_
          show rx_aw 166 182 [.ref 90, .int x1, .int x2, .int x3, .int x4, .long x5, rx_no, .int x7] [.long ((rx_u (rx_u hl6 119 j8 (0 : Int64)) 118 j17 (x5 ||| ((rx_u hl6 119 j8 (0 : Int64)) 118 j16))) 120 j21), .long ((rx_u (rx_u hl6 119 j8 (0 : Int64)) 118 j17 (x5 ||| ((rx_u hl6 119 j8 (0 : Int64)) 118 j16))) 119 j18), .int x4, .ref 120] (rx_hp L t hi6 (rx_u (rx_u hl6 119 j8 (0 : Int64)) 118 j17 (x5 ||| ((rx_u hl6 119 j8 (0 : Int64)) 118 j16))) v6) Q
          refine rx_aw_s 2 (pc := 182) rfl ?_
          show rx_aw 166 187 [.ref 90, .int x1, .int x2, .int x3, .int x4, .long x5, rx_no, .int x7] [.long (((rx_u (rx_u hl6 119 j8 (0 : Int64)) 118 j17 (x5 ||| ((rx_u hl6 119 j8 (0 : Int64)) 118 j16))) 119 j18) ||| ((rx_u (rx_u hl6 119 j8 (0 : Int64)) 118 j17 (x5 ||| ((rx_u hl6 119 j8 (0 : Int64)) 118 j16))) 120 j21)), .int x4, .ref 120] (rx_hp L t hi6 (rx_u (rx_u hl6 119 j8 (0 : Int64)) 118 j17 (x5 ||| ((rx_u hl6 119 j8 (0 : Int64)) 118 j16))) v6) Q
          obtain ⟨j22, ej22, hj22, k⟩ := k
          refine rx_aw_last (pc := 187) (n := 402) j22 ej22 rfl rfl (by decide) rfl hj22 (by decide) ?_
          show rx_aw 166 188 [.ref 90, .int x1, .int x2, .int x3, .int x4, .long x5, rx_no, .int x7] [] (rx_hp L t hi6 (rx_u (rx_u (rx_u hl6 119 j8 (0 : Int64)) 118 j17 (x5 ||| ((rx_u hl6 119 j8 (0 : Int64)) 118 j16))) 120 j22 (((rx_u (rx_u hl6 119 j8 (0 : Int64)) 118 j17 (x5 ||| ((rx_u hl6 119 j8 (0 : Int64)) 118 j16))) 119 j18) ||| ((rx_u (rx_u hl6 119 j8 (0 : Int64)) 118 j17 (x5 ||| ((rx_u hl6 119 j8 (0 : Int64)) 118 j16))) 120 j21))) v6) Q
          refine rx_aw_s 2 (pc := 188) rfl ?_
          show rx_aw 166 26 [.ref 90, .int x1, .int x2, .int x3, .int (x4 + (-1 : Int32)), .long x5, rx_no, .int x7] [] (rx_hp L t hi6 (rx_u (rx_u (rx_u hl6 119 j8 (0 : Int64)) 118 j17 (x5 ||| ((rx_u hl6 119 j8 (0 : Int64)) 118 j16))) 120 j22 (((rx_u (rx_u hl6 119 j8 (0 : Int64)) 118 j17 (x5 ||| ((rx_u hl6 119 j8 (0 : Int64)) 118 j16))) 119 j18) ||| ((rx_u (rx_u hl6 119 j8 (0 : Int64)) 118 j17 (x5 ||| ((rx_u hl6 119 j8 (0 : Int64)) 118 j16))) 120 j21))) v6) Q
          exact rx_aw_le (ls := [.ref 90, .int x1, .int x2, .int x3, .int (x4 + (-1 : Int32)), rx_no, rx_no, rx_no]) ⟨Or.inr rfl, ⟨Or.inr rfl, ⟨Or.inr rfl, ⟨Or.inr rfl, ⟨Or.inr rfl, ⟨Or.inl rfl, ⟨Or.inl rfl, ⟨Or.inl rfl, trivial⟩⟩⟩⟩⟩⟩⟩⟩ k
    · have k := k.2 c7
      show rx_aw 166 105 [.ref 90, .int x1, .int x2, .int x3, .int x4, .long x5, rx_no, .int x7] [.int x4, .ref 119] (rx_hp L t hi6 hl6 v6) Q
      refine rx_aw_s 3 (pc := 105) rfl ?_
      show rx_aw 166 109 [.ref 90, .int x1, .int x2, .int x3, .int x4, .long x5, rx_no, .int x7] [.int x3, .int x4, .ref 90, .int x4, .ref 119] (rx_hp L t hi6 hl6 v6) Q
      refine rx_w_callL (j := 171) (pc := 109) rfl rfl rfl rfl rfl ?_
      refine rx_aw.mono k (fun r h2 k => ?_)
      obtain ⟨z23, rfl, hi23, hl23, v23, rfl, k⟩ := k
      refine ⟨z23, rfl, ?_⟩
      show rx_aw 166 112 [.ref 90, .int x1, .int x2, .int x3, .int x4, .long x5, rx_no, .int x7] [.long z23, .int x4, .ref 119] (rx_hp L t hi23 hl23 v23) Q
      refine rx_aw_s 1 (pc := 112) rfl ?_
      show rx_aw 166 116 [.ref 90, .int x1, .int x2, .int x3, .int x4, .long x5, rx_no, .int x7] [.long z23, .int x4, .ref 119] (rx_hp L t hi23 hl23 v23) Q
      obtain ⟨j24, ej24, hj24, k⟩ := k
      refine rx_aw_last (pc := 116) (n := 402) j24 ej24 rfl rfl (by decide) rfl hj24 (by decide) ?_
      show rx_aw 166 117 [.ref 90, .int x1, .int x2, .int x3, .int x4, .long x5, rx_no, .int x7] [] (rx_hp L t hi23 (rx_u hl23 119 j24 z23) v23) Q
      refine rx_aw_s 9 (pc := 117) rfl ?_
      refine rx_w_if (c := (402 : Int32) ≤ (x4 + (1 : Int32))) ⟨fun c25 => ?_, fun c25 => ?_⟩
      · have k := k.1 c25
        show rx_aw 166 147 [.ref 90, .int x1, .int x2, .int x3, .int x4, .long x5, rx_no, .int x7] [.long x5, .int x4, .ref 118] (rx_hp L t hi23 (rx_u hl23 119 j24 z23) v23) Q
        refine rx_aw_s 2 (pc := 147) rfl ?_
        show rx_aw 166 149 [.ref 90, .int x1, .int x2, .int x3, .int x4, .long x5, rx_no, .int x7] [.long (x5 ||| (0 : Int64)), .int x4, .ref 118] (rx_hp L t hi23 (rx_u hl23 119 j24 z23) v23) Q
        obtain ⟨j26, ej26, hj26, k⟩ := k
        refine rx_aw_last (pc := 149) (n := 402) j26 ej26 rfl rfl (by decide) rfl hj26 (by decide) ?_
        show rx_aw 166 150 [.ref 90, .int x1, .int x2, .int x3, .int x4, .long x5, rx_no, .int x7] [] (rx_hp L t hi23 (rx_u (rx_u hl23 119 j24 z23) 118 j26 (x5 ||| (0 : Int64))) v23) Q
        refine rx_aw_s 6 (pc := 150) rfl ?_
        show rx_aw 166 162 [.ref 90, .int x1, .int x2, .int x3, .int x4, .long x5, rx_no, .int x7] [.int x4, .ref 119, .int x4, .ref 120] (rx_hp L t hi23 (rx_u (rx_u hl23 119 j24 z23) 118 j26 (x5 ||| (0 : Int64))) v23) Q
        obtain ⟨j27, ej27, hj27, k⟩ := k
        refine rx_aw_lald (pc := 162) (n := 402) j27 ej27 rfl rfl (by decide) rfl hj27 (by decide) ?_
        show rx_aw 166 163 [.ref 90, .int x1, .int x2, .int x3, .int x4, .long x5, rx_no, .int x7] [.long ((rx_u (rx_u hl23 119 j24 z23) 118 j26 (x5 ||| (0 : Int64))) 119 j27), .int x4, .ref 120] (rx_hp L t hi23 (rx_u (rx_u hl23 119 j24 z23) 118 j26 (x5 ||| (0 : Int64))) v23) Q
        refine rx_aw_s 5 (pc := 163) rfl ?_
        refine rx_w_if (c := (402 : Int32) ≤ (x4 + (1 : Int32))) ⟨fun c28 => ?_, fun c28 => ?_⟩
        · have k := k.1 c28
          show rx_aw 166 185 [.ref 90, .int x1, .int x2, .int x3, .int x4, .long x5, rx_no, .int x7] [.long ((rx_u (rx_u hl23 119 j24 z23) 118 j26 (x5 ||| (0 : Int64))) 119 j27), .int x4, .ref 120] (rx_hp L t hi23 (rx_u (rx_u hl23 119 j24 z23) 118 j26 (x5 ||| (0 : Int64))) v23) Q
          refine rx_aw_s 2 (pc := 185) rfl ?_
          show rx_aw 166 187 [.ref 90, .int x1, .int x2, .int x3, .int x4, .long x5, rx_no, .int x7] [.long (((rx_u (rx_u hl23 119 j24 z23) 118 j26 (x5 ||| (0 : Int64))) 119 j27) ||| (0 : Int64)), .int x4, .ref 120] (rx_hp L t hi23 (rx_u (rx_u hl23 119 j24 z23) 118 j26 (x5 ||| (0 : Int64))) v23) Q
          obtain ⟨j29, ej29, hj29, k⟩ := k
          refine rx_aw_last (pc := 187) (n := 402) j29 ej29 rfl rfl (by decide) rfl hj29 (by decide) ?_
          show rx_aw 166 188 [.ref 90, .int x1, .int x2, .int x3, .int x4, .long x5, rx_no, .int x7] [] (rx_hp L t hi23 (rx_u (rx_u (rx_u hl23 119 j24 z23) 118 j26 (x5 ||| (0 : Int64))) 120 j29 (((rx_u (rx_u hl23 119 j24 z23) 118 j26 (x5 ||| (0 : Int64))) 119 j27) ||| (0 : Int64))) v23) Q
          refine rx_aw_s 2 (pc := 188) rfl ?_
          show rx_aw 166 26 [.ref 90, .int x1, .int x2, .int x3, .int (x4 + (-1 : Int32)), .long x5, rx_no, .int x7] [] (rx_hp L t hi23 (rx_u (rx_u (rx_u hl23 119 j24 z23) 118 j26 (x5 ||| (0 : Int64))) 120 j29 (((rx_u (rx_u hl23 119 j24 z23) 118 j26 (x5 ||| (0 : Int64))) 119 j27) ||| (0 : Int64))) v23) Q
          exact rx_aw_le (ls := [.ref 90, .int x1, .int x2, .int x3, .int (x4 + (-1 : Int32)), rx_no, rx_no, rx_no]) ⟨Or.inr rfl, ⟨Or.inr rfl, ⟨Or.inr rfl, ⟨Or.inr rfl, ⟨Or.inr rfl, ⟨Or.inl rfl, ⟨Or.inl rfl, ⟨Or.inl rfl, trivial⟩⟩⟩⟩⟩⟩⟩⟩ k
        · have k := k.2 c28
          show rx_aw 166 173 [.ref 90, .int x1, .int x2, .int x3, .int x4, .long x5, rx_no, .int x7] [.long ((rx_u (rx_u hl23 119 j24 z23) 118 j26 (x5 ||| (0 : Int64))) 119 j27), .int x4, .ref 120] (rx_hp L t hi23 (rx_u (rx_u hl23 119 j24 z23) 118 j26 (x5 ||| (0 : Int64))) v23) Q
          refine rx_aw_s 5 (pc := 173) rfl ?_
          show rx_aw 166 181 [.ref 90, .int x1, .int x2, .int x3, .int x4, .long x5, rx_no, .int x7] [.int (x4 + (1 : Int32)), .ref 120, .long ((rx_u (rx_u hl23 119 j24 z23) 118 j26 (x5 ||| (0 : Int64))) 119 j27), .int x4, .ref 120] (rx_hp L t hi23 (rx_u (rx_u hl23 119 j24 z23) 118 j26 (x5 ||| (0 : Int64))) v23) Q
          obtain ⟨j30, ej30, hj30, k⟩ := k
          refine rx_aw_lald (pc := 181) (n := 402) j30 ej30 rfl rfl (by decide) rfl hj30 (by decide) ?_
          show rx_aw 166 182 [.ref 90, .int x1, .int x2, .int x3, .int x4, .long x5, rx_no, .int x7] [.long ((rx_u (rx_u hl23 119 j24 z23) 118 j26 (x5 ||| (0 : Int64))) 120 j30), .long ((rx_u (rx_u hl23 119 j24 z23) 118 j26 (x5 ||| (0 : Int64))) 119 j27), .int x4, .ref 120] (rx_hp L t hi23 (rx_u (rx_u hl23 119 j24 z23) 118 j26 (x5 ||| (0 : Int64))) v23) Q
          refine rx_aw_s 2 (pc := 182) rfl ?_
          show rx_aw 166 187 [.ref 90, .int x1, .int x2, .int x3, .int x4, .long x5, rx_no, .int x7] [.long (((rx_u (rx_u hl23 119 j24 z23) 118 j26 (x5 ||| (0 : Int64))) 119 j27) ||| ((rx_u (rx_u hl23 119 j24 z23) 118 j26 (x5 ||| (0 : Int64))) 120 j30)), .int x4, .ref 120] (rx_hp L t hi23 (rx_u (rx_u hl23 119 j24 z23) 118 j26 (x5 ||| (0 : Int64))) v23) Q
          obtain ⟨j31, ej31, hj31, k⟩ := k
          refine rx_aw_last (pc := 187) (n := 402) j31 ej31 rfl rfl (by decide) rfl hj31 (by decide) ?_
          show rx_aw 166 188 [.ref 90, .int x1, .int x2, .int x3, .int x4, .long x5, rx_no, .int x7] [] (rx_hp L t hi23 (rx_u (rx_u (rx_u hl23 119 j24 z23) 118 j26 (x5 ||| (0 : Int64))) 120 j31 (((rx_u (rx_u hl23 119 j24 z23) 118 j26 (x5 ||| (0 : Int64))) 119 j27) ||| ((rx_u (rx_u hl23 119 j24 z23) 118 j26 (x5 ||| (0 : Int64))) 120 j30))) v23) Q
          refine rx_aw_s 2 (pc := 188) rfl ?_
          show rx_aw 166 26 [.ref 90, .int x1, .int x2, .int x3, .int (x4 + (-1 : Int32)), .long x5, rx_no, .int x7] [] (rx_hp L t hi23 (rx_u (rx_u (rx_u hl23 119 j24 z23) 118 j26 (x5 ||| (0 : Int64))) 120 j31 (((rx_u (rx_u hl23 119 j24 z23) 118 j26 (x5 ||| (0 : Int64))) 119 j27) ||| ((rx_u (rx_u hl23 119 j24 z23) 118 j26 (x5 ||| (0 : Int64))) 120 j30))) v23) Q
          exact rx_aw_le (ls := [.ref 90, .int x1, .int x2, .int x3, .int (x4 + (-1 : Int32)), rx_no, rx_no, rx_no]) ⟨Or.inr rfl, ⟨Or.inr rfl, ⟨Or.inr rfl, ⟨Or.inr rfl, ⟨Or.inr rfl, ⟨Or.inl rfl, ⟨Or.inl rfl, ⟨Or.inl rfl, trivial⟩⟩⟩⟩⟩⟩⟩⟩ k
      · have k := k.2 c25
        show rx_aw 166 135 [.ref 90, .int x1, .int x2, .int x3, .int x4, .long x5, rx_no, .int x7] [.long x5, .int x4, .ref 118] (rx_hp L t hi23 (rx_u hl23 119 j24 z23) v23) Q
        refine rx_aw_s 5 (pc := 135) rfl ?_
        show rx_aw 166 143 [.ref 90, .int x1, .int x2, .int x3, .int x4, .long x5, rx_no, .int x7] [.int (x4 + (1 : Int32)), .ref 118, .long x5, .int x4, .ref 118] (rx_hp L t hi23 (rx_u hl23 119 j24 z23) v23) Q
        obtain ⟨j32, ej32, hj32, k⟩ := k
        refine rx_aw_lald (pc := 143) (n := 402) j32 ej32 rfl rfl (by decide) rfl hj32 (by decide) ?_
        show rx_aw 166 144 [.ref 90, .int x1, .int x2, .int x3, .int x4, .long x5, rx_no, .int x7] [.long ((rx_u hl23 119 j24 z23) 118 j32), .long x5, .int x4, .ref 118] (rx_hp L t hi23 (rx_u hl23 119 j24 z23) v23) Q
        refine rx_aw_s 2 (pc := 144) rfl ?_
        show rx_aw 166 149 [.ref 90, .int x1, .int x2, .int x3, .int x4, .long x5, rx_no, .int x7] [.long (x5 ||| ((rx_u hl23 119 j24 z23) 118 j32)), .int x4, .ref 118] (rx_hp L t hi23 (rx_u hl23 119 j24 z23) v23) Q
        obtain ⟨j33, ej33, hj33, k⟩ := k
        refine rx_aw_last (pc := 149) (n := 402) j33 ej33 rfl rfl (by decide) rfl hj33 (by decide) ?_
        show rx_aw 166 150 [.ref 90, .int x1, .int x2, .int x3, .int x4, .long x5, rx_no, .int x7] [] (rx_hp L t hi23 (rx_u (rx_u hl23 119 j24 z23) 118 j33 (x5 ||| ((rx_u hl23 119 j24 z23) 118 j32))) v23) Q
        refine rx_aw_s 6 (pc := 150) rfl ?_
        show rx_aw 166 162 [.ref 90, .int x1, .int x2, .int x3, .int x4, .long x5, rx_no, .int x7] [.int x4, .ref 119, .int x4, .ref 120] (rx_hp L t hi23 (rx_u (rx_u hl23 119 j24 z23) 118 j33 (x5 ||| ((rx_u hl23 119 j24 z23) 118 j32))) v23) Q
        obtain ⟨j34, ej34, hj34, k⟩ := k
        refine rx_aw_lald (pc := 162) (n := 402) j34 ej34 rfl rfl (by decide) rfl hj34 (by decide) ?_
        show rx_aw 166 163 [.ref 90, .int x1, .int x2, .int x3, .int x4, .long x5, rx_no, .int x7] [.long ((rx_u (rx_u hl23 119 j24 z23) 118 j33 (x5 ||| ((rx_u hl23 119 j24 z23) 118 j32))) 119 j34), .int x4, .ref 120] (rx_hp L t hi23 (rx_u (rx_u hl23 119 j24 z23) 118 j33 (x5 ||| ((rx_u hl23 119 j24 z23) 118 j32))) v23) Q
        refine rx_aw_s 5 (pc := 163) rfl ?_
        refine rx_w_if (c := (402 : Int32) ≤ (x4 + (1 : Int32))) ⟨fun c35 => ?_, fun c35 => ?_⟩
        · have k := k.1 c35
          show rx_aw 166 185 [.ref 90, .int x1, .int x2, .int x3, .int x4, .long x5, rx_no, .int x7] [.long ((rx_u (rx_u hl23 119 j24 z23) 118 j33 (x5 ||| ((rx_u hl23 119 j24 z23) 118 j32))) 119 j34), .int x4, .ref 120] (rx_hp L t hi23 (rx_u (rx_u hl23 119 j24 z23) 118 j33 (x5 ||| ((rx_u hl23 119 j24 z23) 118 j32))) v23) Q
          refine rx_aw_s 2 (pc := 185) rfl ?_
          show rx_aw 166 187 [.ref 90, .int x1, .int x2, .int x3, .int x4, .long x5, rx_no, .int x7] [.long (((rx_u (rx_u hl23 119 j24 z23) 118 j33 (x5 ||| ((rx_u hl23 119 j24 z23) 118 j32))) 119 j34) ||| (0 : Int64)), .int x4, .ref 120] (rx_hp L t hi23 (rx_u (rx_u hl23 119 j24 z23) 118 j33 (x5 ||| ((rx_u hl23 119 j24 z23) 118 j32))) v23) Q
          obtain ⟨j36, ej36, hj36, k⟩ := k
          refine rx_aw_last (pc := 187) (n := 402) j36 ej36 rfl rfl (by decide) rfl hj36 (by decide) ?_
          show rx_aw 166 188 [.ref 90, .int x1, .int x2, .int x3, .int x4, .long x5, rx_no, .int x7] [] (rx_hp L t hi23 (rx_u (rx_u (rx_u hl23 119 j24 z23) 118 j33 (x5 ||| ((rx_u hl23 119 j24 z23) 118 j32))) 120 j36 (((rx_u (rx_u hl23 119 j24 z23) 118 j33 (x5 ||| ((rx_u hl23 119 j24 z23) 118 j32))) 119 j34) ||| (0 : Int64))) v23) Q
          refine rx_aw_s 2 (pc := 188) rfl ?_
          show rx_aw 166 26 [.ref 90, .int x1, .int x2, .int x3, .int (x4 + (-1 : Int32)), .long x5, rx_no, .int x7] [] (rx_hp L t hi23 (rx_u (rx_u (rx_u hl23 119 j24 z23) 118 j33 (x5 ||| ((rx_u hl23 119 j24 z23) 118 j32))) 120 j36 (((rx_u (rx_u hl23 119 j24 z23) 118 j33 (x5 ||| ((rx_u hl23 119 j24 z23) 118 j32))) 119 j34) ||| (0 : Int64))) v23) Q
          exact rx_aw_le (ls := [.ref 90, .int x1, .int x2, .int x3, .int (x4 + (-1 : Int32)), rx_no, rx_no, rx_no]) ⟨Or.inr rfl, ⟨Or.inr rfl, ⟨Or.inr rfl, ⟨Or.inr rfl, ⟨Or.inr rfl, ⟨Or.inl rfl, ⟨Or.inl rfl, ⟨Or.inl rfl, trivial⟩⟩⟩⟩⟩⟩⟩⟩ k
        · have k := k.2 c35
          show rx_aw 166 173 [.ref 90, .int x1, .int x2, .int x3, .int x4, .long x5, rx_no, .int x7] [.long ((rx_u (rx_u hl23 119 j24 z23) 118 j33 (x5 ||| ((rx_u hl23 119 j24 z23) 118 j32))) 119 j34), .int x4, .ref 120] (rx_hp L t hi23 (rx_u (rx_u hl23 119 j24 z23) 118 j33 (x5 ||| ((rx_u hl23 119 j24 z23) 118 j32))) v23) Q
          refine rx_aw_s 5 (pc := 173) rfl ?_
          show rx_aw 166 181 [.ref 90, .int x1, .int x2, .int x3, .int x4, .long x5, rx_no, .int x7] [.int (x4 + (1 : Int32)), .ref 120, .long ((rx_u (rx_u hl23 119 j24 z23) 118 j33 (x5 ||| ((rx_u hl23 119 j24 z23) 118 j32))) 119 j34), .int x4, .ref 120] (rx_hp L t hi23 (rx_u (rx_u hl23 119 j24 z23) 118 j33 (x5 ||| ((rx_u hl23 119 j24 z23) 118 j32))) v23) Q
          obtain ⟨j37, ej37, hj37, k⟩ := k
          refine rx_aw_lald (pc := 181) (n := 402) j37 ej37 rfl rfl (by decide) rfl hj37 (by decide) ?_
          show rx_aw 166 182 [.ref 90, .int x1, .int x2, .int x3, .int x4, .long x5, rx_no, .int x7] [.long ((rx_u (rx_u hl23 119 j24 z23) 118 j33 (x5 ||| ((rx_u hl23 119 j24 z23) 118 j32))) 120 j37), .long ((rx_u (rx_u hl23 119 j24 z23) 118 j33 (x5 ||| ((rx_u hl23 119 j24 z23) 118 j32))) 119 j34), .int x4, .ref 120] (rx_hp L t hi23 (rx_u (rx_u hl23 119 j24 z23) 118 j33 (x5 ||| ((rx_u hl23 119 j24 z23) 118 j32))) v23) Q
          refine rx_aw_s 2 (pc := 182) rfl ?_
          show rx_aw 166 187 [.ref 90, .int x1, .int x2, .int x3, .int x4, .long x5, rx_no, .int x7] [.long (((rx_u (rx_u hl23 119 j24 z23) 118 j33 (x5 ||| ((rx_u hl23 119 j24 z23) 118 j32))) 119 j34) ||| ((rx_u (rx_u hl23 119 j24 z23) 118 j33 (x5 ||| ((rx_u hl23 119 j24 z23) 118 j32))) 120 j37)), .int x4, .ref 120] (rx_hp L t hi23 (rx_u (rx_u hl23 119 j24 z23) 118 j33 (x5 ||| ((rx_u hl23 119 j24 z23) 118 j32))) v23) Q
          obtain ⟨j38, ej38, hj38, k⟩ := k
          refine rx_aw_last (pc := 187) (n := 402) j38 ej38 rfl rfl (by decide) rfl hj38 (by decide) ?_
          show rx_aw 166 188 [.ref 90, .int x1, .int x2, .int x3, .int x4, .long x5, rx_no, .int x7] [] (rx_hp L t hi23 (rx_u (rx_u (rx_u hl23 119 j24 z23) 118 j33 (x5 ||| ((rx_u hl23 119 j24 z23) 118 j32))) 120 j38 (((rx_u (rx_u hl23 119 j24 z23) 118 j33 (x5 ||| ((rx_u hl23 119 j24 z23) 118 j32))) 119 j34) ||| ((rx_u (rx_u hl23 119 j24 z23) 118 j33 (x5 ||| ((rx_u hl23 119 j24 z23) 118 j32))) 120 j37))) v23) Q
          refine rx_aw_s 2 (pc := 188) rfl ?_
          show rx_aw 166 26 [.ref 90, .int x1, .int x2, .int x3, .int (x4 + (-1 : Int32)), .long x5, rx_no, .int x7] [] (rx_hp L t hi23 (rx_u (rx_u (rx_u hl23 119 j24 z23) 118 j33 (x5 ||| ((rx_u hl23 119 j24 z23) 118 j32))) 120 j38 (((rx_u (rx_u hl23 119 j24 z23) 118 j33 (x5 ||| ((rx_u hl23 119 j24 z23) 118 j32))) 119 j34) ||| ((rx_u (rx_u hl23 119 j24 z23) 118 j33 (x5 ||| ((rx_u hl23 119 j24 z23) 118 j32))) 120 j37))) v23) Q
          exact rx_aw_le (ls := [.ref 90, .int x1, .int x2, .int x3, .int (x4 + (-1 : Int32)), rx_no, rx_no, rx_no]) ⟨Or.inr rfl, ⟨Or.inr rfl, ⟨Or.inr rfl, ⟨Or.inr rfl, ⟨Or.inr rfl, ⟨Or.inl rfl, ⟨Or.inl rfl, ⟨Or.inl rfl, trivial⟩⟩⟩⟩⟩⟩⟩⟩ k
  · have k := k.2 c4
    show rx_aw 166 46 [.ref 90, .int x1, .int x2, .int x3, .int x4, .long x5, rx_no, .int x7] [] (rx_hp L t hi hl v) Q
    refine rx_aw_s 4 (pc := 46) rfl ?_
    refine rx_w_ifn (c := x7 = x1) ⟨fun c39 => ?_, fun c39 => ?_⟩
    · have k := k.1 c39
      show rx_aw 166 54 [.ref 90, .int x1, .int x2, .int x3, .int x4, .long x5, rx_no, .int x7] [.long x5] (rx_hp L t hi hl v) Q
      refine rx_aw_s 6 (pc := 54) rfl ?_
      show rx_aw 166 37 [.ref 90, .int x1, .int x2, .int x3, .int x4, .long (x5 ||| (0 : Int64)), rx_no, .int (x7 + (1 : Int32))] [] (rx_hp L t hi hl v) Q
      exact k
    · have k := k.2 c39
      show rx_aw 166 58 [.ref 90, .int x1, .int x2, .int x3, .int x4, .long x5, rx_no, .int x7] [.long x5] (rx_hp L t hi hl v) Q
      refine rx_aw_s 7 (pc := 58) rfl ?_
      show rx_aw 166 71 [.ref 90, .int x1, .int x2, .int x3, .int x4, .long x5, rx_no, .int x7] [.int (((402 : Int32) * x7) + x4), .ref 106, .long x5] (rx_hp L t hi hl v) Q
      obtain ⟨j40, ej40, hj40, k⟩ := k
      refine rx_aw_lald (pc := 71) (n := 2412) j40 ej40 rfl rfl (by decide) rfl hj40 (by decide) ?_
      show rx_aw 166 72 [.ref 90, .int x1, .int x2, .int x3, .int x4, .long x5, rx_no, .int x7] [.long (hl 106 j40), .long x5] (rx_hp L t hi hl v) Q
      refine rx_aw_s 4 (pc := 72) rfl ?_
      show rx_aw 166 37 [.ref 90, .int x1, .int x2, .int x3, .int x4, .long (x5 ||| (hl 106 j40)), rx_no, .int (x7 + (1 : Int32))] [] (rx_hp L t hi hl v) Q
      exact k
set_option maxRecDepth 100000 in
/-- CartFloorModel.barred()J -/
theorem w167_barred_r {L : Nat} {t : List (Nat × Nat)} {hi : Nat → Nat → Int32} {hl : Nat → Nat → Int64} {v : Nat → Nat → Option Nat} {Q : Option Value → rx_H → Prop}  (k : rx_aw 167 4 [.ref 90, .long (0 : Int64), rx_no, .int (0 : Int32)] [] (rx_hp L t hi hl v) Q) : rx_me 167 [.ref 90] (rx_hp L t hi hl v) Q := by
  show rx_aw 167 0 [.ref 90, rx_no, rx_no, rx_no] [] (rx_hp L t hi hl v) Q
  refine rx_aw_s 4 (pc := 0) rfl ?_
  show rx_aw 167 4 [.ref 90, .long (0 : Int64), rx_no, .int (0 : Int32)] [] (rx_hp L t hi hl v) Q
  exact k
set_option maxRecDepth 100000 in
theorem w167_barred_r_4 {L : Nat} {t : List (Nat × Nat)} {hi : Nat → Nat → Int32} {hl : Nat → Nat → Int64} {v : Nat → Nat → Option Nat} {Q : Option Value → rx_H → Prop} {x1 : Int64} {x3 : Int32} (k : (((hi 90 2) ≤ x3 → Q (some (.long x1)) (rx_hp L t hi hl v)) ∧ (¬ ((hi 90 2) ≤ x3) → rx_me 168 [.ref 90, .int x3] (rx_hp L t hi hl v) (fun r h2 => ∃ z2 : Int32, r = some (.int z2) ∧ rx_ok2 L t h2 (fun hi2 hl2 v2 => ((z2 = 0 → rx_aw 167 4 [.ref 90, .long (x1 ||| (0 : Int64)), rx_no, .int (x3 + (1 : Int32))] [] (rx_hp L t hi2 hl2 v2) Q) ∧ (¬ (z2 = 0) → rx_me 169 [.int x3] (rx_hp L t hi2 hl2 v2) (fun r h2 => ∃ z4 : Int64, r = some (.long z4) ∧ rx_ok2 L t h2 (fun hi4 hl4 v4 => rx_aw 167 4 [.ref 90, .long (x1 ||| z4), rx_no, .int (x3 + (1 : Int32))] [] (rx_hp L t hi4 hl4 v4) Q))))))))) : rx_aw 167 4 [.ref 90, .long x1, rx_no, .int x3] [] (rx_hp L t hi hl v) Q := by
  refine rx_aw_s 4 (pc := 4) rfl ?_
  refine rx_w_if (c := (hi 90 2) ≤ x3) ⟨fun c1 => ?_, fun c1 => ?_⟩
  · have k := k.1 c1
    show rx_aw 167 37 [.ref 90, .long x1, rx_no, .int x3] [] (rx_hp L t hi hl v) Q
    refine rx_aw_s 1 (pc := 37) rfl ?_
    show rx_aw 167 38 [.ref 90, .long x1, rx_no, .int x3] [.long x1] (rx_hp L t hi hl v) Q
    exact rx_aw_ret (pc := 38) rfl k
  · have k := k.2 c1
    show rx_aw 167 12 [.ref 90, .long x1, rx_no, .int x3] [] (rx_hp L t hi hl v) Q
    refine rx_aw_s 3 (pc := 12) rfl ?_
    show rx_aw 167 15 [.ref 90, .long x1, rx_no, .int x3] [.int x3, .ref 90, .long x1] (rx_hp L t hi hl v) Q
    refine rx_w_callI (j := 168) (pc := 15) rfl rfl rfl rfl rfl ?_
    refine rx_aw.mono k (fun r h2 k => ?_)
    obtain ⟨z2, rfl, hi2, hl2, v2, rfl, k⟩ := k
    refine ⟨z2, rfl, ?_⟩
    show rx_aw 167 18 [.ref 90, .long x1, rx_no, .int x3] [.int z2, .long x1] (rx_hp L t hi2 hl2 v2) Q
    refine rx_aw_s 1 (pc := 18) rfl ?_
    refine rx_w_if (c := z2 = 0) ⟨fun c3 => ?_, fun c3 => ?_⟩
    · have k := k.1 c3
      show rx_aw 167 28 [.ref 90, .long x1, rx_no, .int x3] [.long x1] (rx_hp L t hi2 hl2 v2) Q
      refine rx_aw_s 5 (pc := 28) rfl ?_
      show rx_aw 167 4 [.ref 90, .long (x1 ||| (0 : Int64)), rx_no, .int (x3 + (1 : Int32))] [] (rx_hp L t hi2 hl2 v2) Q
      exact k
    · have k := k.2 c3
      show rx_aw 167 21 [.ref 90, .long x1, rx_no, .int x3] [.long x1] (rx_hp L t hi2 hl2 v2) Q
      refine rx_aw_s 1 (pc := 21) rfl ?_
      show rx_aw 167 22 [.ref 90, .long x1, rx_no, .int x3] [.int x3, .long x1] (rx_hp L t hi2 hl2 v2) Q
      refine rx_w_callL (j := 169) (pc := 22) rfl rfl rfl rfl rfl ?_
      refine rx_aw.mono k (fun r h2 k => ?_)
      obtain ⟨z4, rfl, hi4, hl4, v4, rfl, k⟩ := k
      refine ⟨z4, rfl, ?_⟩
      show rx_aw 167 25 [.ref 90, .long x1, rx_no, .int x3] [.long z4, .long x1] (rx_hp L t hi4 hl4 v4) Q
      refine rx_aw_s 5 (pc := 25) rfl ?_
      show rx_aw 167 4 [.ref 90, .long (x1 ||| z4), rx_no, .int (x3 + (1 : Int32))] [] (rx_hp L t hi4 hl4 v4) Q
      exact k
set_option maxRecDepth 100000 in
/-- CartFloorModel.isBarred(I)Z -/
theorem w168_isBarred_r {L : Nat} {t : List (Nat × Nat)} {hi : Nat → Nat → Int32} {hl : Nat → Nat → Int64} {v : Nat → Nat → Option Nat} {Q : Option Value → rx_H → Prop} {a0 : Int32} (k : (∃ j1 : Nat, a0 = nI j1 ∧ j1 < 64 ∧ (((hi 91 j1) = (1 : Int32) → Q (some (.int (1 : Int32))) (rx_hp L t hi hl v)) ∧ (¬ ((hi 91 j1) = (1 : Int32)) → (¬ (hi 90 0) = 0 ∧ (∃ j3 : Nat, (a0 / (hi 90 0)) = nI j3 ∧ j3 < 8 ∧ (((hi 92 j3) = 0 → Q (some (.int (0 : Int32))) (rx_hp L t hi hl v)) ∧ (¬ ((hi 92 j3) = 0) → Q (some (.int (1 : Int32))) (rx_hp L t hi hl v))))))))) : rx_me 168 [.ref 90, .int a0] (rx_hp L t hi hl v) Q := by
  show rx_aw 168 0 [.ref 90, .int a0] [] (rx_hp L t hi hl v) Q
  refine rx_aw_s 3 (pc := 0) rfl ?_
  show rx_aw 168 5 [.ref 90, .int a0] [.int a0, .ref 91] (rx_hp L t hi hl v) Q
  obtain ⟨j1, ej1, hj1, k⟩ := k
  refine rx_aw_iald (pc := 5) (n := 64) j1 ej1 rfl rfl rfl hj1 (by decide) ?_
  show rx_aw 168 6 [.ref 90, .int a0] [.int (hi 91 j1)] (rx_hp L t hi hl v) Q
  refine rx_aw_s 2 (pc := 6) rfl ?_
  refine rx_w_if (c := (hi 91 j1) = (1 : Int32)) ⟨fun c2 => ?_, fun c2 => ?_⟩
  · have k := k.1 c2
    show rx_aw 168 24 [.ref 90, .int a0] [] (rx_hp L t hi hl v) Q
    refine rx_aw_s 2 (pc := 24) rfl ?_
    show rx_aw 168 29 [.ref 90, .int a0] [.int (1 : Int32)] (rx_hp L t hi hl v) Q
    exact rx_aw_ret (pc := 29) rfl k
  · have k := k.2 c2
    show rx_aw 168 10 [.ref 90, .int a0] [] (rx_hp L t hi hl v) Q
    refine rx_aw_s 5 (pc := 10) rfl ?_
    show rx_aw 168 19 [.ref 90, .int a0] [.int (hi 90 0), .int a0, .ref 92] (rx_hp L t hi hl v) Q
    refine rx_aw_div (pc := 19) rfl k.1 ?_
    have k := k.2
    show rx_aw 168 20 [.ref 90, .int a0] [.int (a0 / (hi 90 0)), .ref 92] (rx_hp L t hi hl v) Q
    obtain ⟨j3, ej3, hj3, k⟩ := k
    refine rx_aw_bald (pc := 20) (n := 8) j3 ej3 rfl (Or.inr rfl) (by decide) rfl hj3 (by decide) ?_
    show rx_aw 168 21 [.ref 90, .int a0] [.int (hi 92 j3)] (rx_hp L t hi hl v) Q
    refine rx_aw_s 1 (pc := 21) rfl ?_
    refine rx_w_if (c := (hi 92 j3) = 0) ⟨fun c4 => ?_, fun c4 => ?_⟩
    · have k := k.1 c4
      show rx_aw 168 28 [.ref 90, .int a0] [] (rx_hp L t hi hl v) Q
      refine rx_aw_s 1 (pc := 28) rfl ?_
      show rx_aw 168 29 [.ref 90, .int a0] [.int (0 : Int32)] (rx_hp L t hi hl v) Q
      exact rx_aw_ret (pc := 29) rfl k
    · have k := k.2 c4
      show rx_aw 168 24 [.ref 90, .int a0] [] (rx_hp L t hi hl v) Q
      refine rx_aw_s 2 (pc := 24) rfl ?_
      show rx_aw 168 29 [.ref 90, .int a0] [.int (1 : Int32)] (rx_hp L t hi hl v) Q
      exact rx_aw_ret (pc := 29) rfl k
set_option maxRecDepth 100000 in
/-- CartFloorModel.bit(I)J -/
theorem w169_bit_r {L : Nat} {t : List (Nat × Nat)} {hi : Nat → Nat → Int32} {hl : Nat → Nat → Int64} {v : Nat → Nat → Option Nat} {Q : Option Value → rx_H → Prop} {a0 : Int32} (k : Q (some (.long ((1 : Int64) <<< (Int32.toInt64 a0 &&& 63)))) (rx_hp L t hi hl v)) : rx_me 169 [.int a0] (rx_hp L t hi hl v) Q := by
  show rx_aw 169 0 [.int a0] [] (rx_hp L t hi hl v) Q
  refine rx_aw_s 3 (pc := 0) rfl ?_
  show rx_aw 169 3 [.int a0] [.long ((1 : Int64) <<< (Int32.toInt64 a0 &&& 63))] (rx_hp L t hi hl v) Q
  exact rx_aw_ret (pc := 3) rfl k
set_option maxRecDepth 100000 in
/-- CartFloorModel.minds(II)Z -/
theorem w170_minds_r {L : Nat} {t : List (Nat × Nat)} {hi : Nat → Nat → Int32} {hl : Nat → Nat → Int64} {v : Nat → Nat → Option Nat} {Q : Option Value → rx_H → Prop} {a0 : Int32} {a1 : Int32} (k : (∃ j1 : Nat, a0 = nI j1 ∧ j1 < 6 ∧ (((hi 93 j1) = (1 : Int32) → ((a1 < 0 → Q (some (.int (0 : Int32))) (rx_hp L t hi hl v)) ∧ (¬ (a1 < 0) → Q (some (.int (1 : Int32))) (rx_hp L t hi hl v)))) ∧ (¬ ((hi 93 j1) = (1 : Int32)) → Q (some (.int (1 : Int32))) (rx_hp L t hi hl v))))) : rx_me 170 [.ref 90, .int a0, .int a1] (rx_hp L t hi hl v) Q := by
  show rx_aw 170 0 [.ref 90, .int a0, .int a1] [] (rx_hp L t hi hl v) Q
  refine rx_aw_s 3 (pc := 0) rfl ?_
  show rx_aw 170 5 [.ref 90, .int a0, .int a1] [.int a0, .ref 93] (rx_hp L t hi hl v) Q
  obtain ⟨j1, ej1, hj1, k⟩ := k
  refine rx_aw_iald (pc := 5) (n := 6) j1 ej1 rfl rfl rfl hj1 (by decide) ?_
  show rx_aw 170 6 [.ref 90, .int a0, .int a1] [.int (hi 93 j1)] (rx_hp L t hi hl v) Q
  refine rx_aw_s 2 (pc := 6) rfl ?_
  refine rx_w_ifn (c := (hi 93 j1) = (1 : Int32)) ⟨fun c2 => ?_, fun c2 => ?_⟩
  · have k := k.1 c2
    show rx_aw 170 10 [.ref 90, .int a0, .int a1] [] (rx_hp L t hi hl v) Q
    refine rx_aw_s 2 (pc := 10) rfl ?_
    refine rx_w_if (c := a1 < 0) ⟨fun c3 => ?_, fun c3 => ?_⟩
    · have k := k.1 c3
      show rx_aw 170 18 [.ref 90, .int a0, .int a1] [] (rx_hp L t hi hl v) Q
      refine rx_aw_s 1 (pc := 18) rfl ?_
      show rx_aw 170 19 [.ref 90, .int a0, .int a1] [.int (0 : Int32)] (rx_hp L t hi hl v) Q
      exact rx_aw_ret (pc := 19) rfl k
    · have k := k.2 c3
      show rx_aw 170 14 [.ref 90, .int a0, .int a1] [] (rx_hp L t hi hl v) Q
      refine rx_aw_s 2 (pc := 14) rfl ?_
      show rx_aw 170 19 [.ref 90, .int a0, .int a1] [.int (1 : Int32)] (rx_hp L t hi hl v) Q
      exact rx_aw_ret (pc := 19) rfl k
  · have k := k.2 c2
    show rx_aw 170 14 [.ref 90, .int a0, .int a1] [] (rx_hp L t hi hl v) Q
    refine rx_aw_s 2 (pc := 14) rfl ?_
    show rx_aw 170 19 [.ref 90, .int a0, .int a1] [.int (1 : Int32)] (rx_hp L t hi hl v) Q
    exact rx_aw_ret (pc := 19) rfl k
set_option maxRecDepth 100000 in
/-- CartFloorModel.shelfSquares(II)J -/
theorem w171_shelfSquares_r {L : Nat} {t : List (Nat × Nat)} {hi : Nat → Nat → Int32} {hl : Nat → Nat → Int64} {v : Nat → Nat → Option Nat} {Q : Option Value → rx_H → Prop} {a0 : Int32} {a1 : Int32} (k : rx_aw 171 5 [.ref 90, .int a0, .int a1, .long (0 : Int64), rx_no, .int (0 : Int32)] [] (rx_hp L t hi hl v) Q) : rx_me 171 [.ref 90, .int a0, .int a1] (rx_hp L t hi hl v) Q := by
  show rx_aw 171 0 [.ref 90, .int a0, .int a1, rx_no, rx_no, rx_no] [] (rx_hp L t hi hl v) Q
  refine rx_aw_s 4 (pc := 0) rfl ?_
  show rx_aw 171 5 [.ref 90, .int a0, .int a1, .long (0 : Int64), rx_no, .int (0 : Int32)] [] (rx_hp L t hi hl v) Q
  exact k
set_option maxRecDepth 100000 in
theorem w171_shelfSquares_r_5 {L : Nat} {t : List (Nat × Nat)} {hi : Nat → Nat → Int32} {hl : Nat → Nat → Int64} {v : Nat → Nat → Option Nat} {Q : Option Value → rx_H → Prop} {x1 : Int32} {x2 : Int32} {x3 : Int64} {x5 : Int32} (k : (((hi 90 21) ≤ x5 → Q (some (.long x3)) (rx_hp L t hi hl v)) ∧ (¬ ((hi 90 21) ≤ x5) → ((x5 = x2 → rx_aw 171 5 [.ref 90, .int x1, .int x2, .long (x3 ||| (0 : Int64)), rx_no, .int (x5 + (1 : Int32))] [] (rx_hp L t hi hl v) Q) ∧ (¬ (x5 = x2) → (∃ j3 : Nat, (((402 : Int32) * x5) + x1) = nI j3 ∧ j3 < 4824 ∧ rx_me 169 [.int (hi 108 j3)] (rx_hp L t hi hl v) (fun r h2 => ∃ z4 : Int64, r = some (.long z4) ∧ rx_ok2 L t h2 (fun hi4 hl4 v4 => rx_aw 171 5 [.ref 90, .int x1, .int x2, .long (x3 ||| z4), rx_no, .int (x5 + (1 : Int32))] [] (rx_hp L t hi4 hl4 v4) Q)))))))) : rx_aw 171 5 [.ref 90, .int x1, .int x2, .long x3, rx_no, .int x5] [] (rx_hp L t hi hl v) Q := by
  refine rx_aw_s 4 (pc := 5) rfl ?_
  refine rx_w_if (c := (hi 90 21) ≤ x5) ⟨fun c1 => ?_, fun c1 => ?_⟩
  · have k := k.1 c1
    show rx_aw 171 49 [.ref 90, .int x1, .int x2, .long x3, rx_no, .int x5] [] (rx_hp L t hi hl v) Q
    refine rx_aw_s 1 (pc := 49) rfl ?_
    show rx_aw 171 50 [.ref 90, .int x1, .int x2, .long x3, rx_no, .int x5] [.long x3] (rx_hp L t hi hl v) Q
    exact rx_aw_ret (pc := 50) rfl k
  · have k := k.2 c1
    show rx_aw 171 14 [.ref 90, .int x1, .int x2, .long x3, rx_no, .int x5] [] (rx_hp L t hi hl v) Q
    refine rx_aw_s 4 (pc := 14) rfl ?_
    refine rx_w_ifn (c := x5 = x2) ⟨fun c2 => ?_, fun c2 => ?_⟩
    · have k := k.1 c2
      show rx_aw 171 21 [.ref 90, .int x1, .int x2, .long x3, rx_no, .int x5] [.long x3] (rx_hp L t hi hl v) Q
      refine rx_aw_s 6 (pc := 21) rfl ?_
      show rx_aw 171 5 [.ref 90, .int x1, .int x2, .long (x3 ||| (0 : Int64)), rx_no, .int (x5 + (1 : Int32))] [] (rx_hp L t hi hl v) Q
      exact k
    · have k := k.2 c2
      show rx_aw 171 25 [.ref 90, .int x1, .int x2, .long x3, rx_no, .int x5] [.long x3] (rx_hp L t hi hl v) Q
      refine rx_aw_s 7 (pc := 25) rfl ?_
      show rx_aw 171 37 [.ref 90, .int x1, .int x2, .long x3, rx_no, .int x5] [.int (((402 : Int32) * x5) + x1), .ref 108, .long x3] (rx_hp L t hi hl v) Q
      obtain ⟨j3, ej3, hj3, k⟩ := k
      refine rx_aw_iald (pc := 37) (n := 4824) j3 ej3 rfl rfl rfl hj3 (by decide) ?_
      show rx_aw 171 38 [.ref 90, .int x1, .int x2, .long x3, rx_no, .int x5] [.int (hi 108 j3), .long x3] (rx_hp L t hi hl v) Q
      refine rx_w_callL (j := 169) (pc := 38) rfl rfl rfl rfl rfl ?_
      refine rx_aw.mono k (fun r h2 k => ?_)
      obtain ⟨z4, rfl, hi4, hl4, v4, rfl, k⟩ := k
      refine ⟨z4, rfl, ?_⟩
      show rx_aw 171 41 [.ref 90, .int x1, .int x2, .long x3, rx_no, .int x5] [.long z4, .long x3] (rx_hp L t hi4 hl4 v4) Q
      refine rx_aw_s 4 (pc := 41) rfl ?_
      show rx_aw 171 5 [.ref 90, .int x1, .int x2, .long (x3 ||| z4), rx_no, .int (x5 + (1 : Int32))] [] (rx_hp L t hi4 hl4 v4) Q
      exact k
set_option maxRecDepth 100000 in
/-- CartFloorModel.goalTick(IIIZ)I -/
theorem w172_goalTick_r {L : Nat} {t : List (Nat × Nat)} {hi : Nat → Nat → Int32} {hl : Nat → Nat → Int64} {v : Nat → Nat → Option Nat} {Q : Option Value → rx_H → Prop} {a0 : Int32} {a1 : Int32} {a2 : Int32} {a3 : Int32} (k : (∃ j1 : Nat, a0 = nI j1 ∧ j1 < 6 ∧ rx_aw 172 16 [.ref 90, .int a0, .int a1, .int a2, .int a3, .int (hi 94 j1), .int ((256 : Int32) * (hi 94 j1)), rx_no, rx_no, rx_no] [] (rx_hp L t hi hl v) Q)) : rx_me 172 [.ref 90, .int a0, .int a1, .int a2, .int a3] (rx_hp L t hi hl v) Q := by
  show rx_aw 172 0 [.ref 90, .int a0, .int a1, .int a2, .int a3, rx_no, rx_no, rx_no, rx_no, rx_no] [] (rx_hp L t hi hl v) Q
  refine rx_aw_s 3 (pc := 0) rfl ?_
  show rx_aw 172 5 [.ref 90, .int a0, .int a1, .int a2, .int a3, rx_no, rx_no, rx_no, rx_no, rx_no] [.int a0, .ref 94] (rx_hp L t hi hl v) Q
  obtain ⟨j1, ej1, hj1, k⟩ := k
  refine rx_aw_iald (pc := 5) (n := 6) j1 ej1 rfl rfl rfl hj1 (by decide) ?_
  show rx_aw 172 6 [.ref 90, .int a0, .int a1, .int a2, .int a3, rx_no, rx_no, rx_no, rx_no, rx_no] [.int (hi 94 j1)] (rx_hp L t hi hl v) Q
  refine rx_aw_s 5 (pc := 6) rfl ?_
  show rx_aw 172 16 [.ref 90, .int a0, .int a1, .int a2, .int a3, .int (hi 94 j1), .int ((256 : Int32) * (hi 94 j1)), rx_no, rx_no, rx_no] [] (rx_hp L t hi hl v) Q
  exact k
set_option maxRecDepth 100000 in
theorem w172_goalTick_r_16 {L : Nat} {t : List (Nat × Nat)} {hi : Nat → Nat → Int32} {hl : Nat → Nat → Int64} {v : Nat → Nat → Option Nat} {Q : Option Value → rx_H → Prop} {x1 : Int32} {x2 : Int32} {x3 : Int32} {x4 : Int32} {x5 : Int32} {x6 : Int32} (k : (((102912 : Int32) ≤ x6 → rx_me 173 [.ref 90, .int x1, .int x5] (rx_hp L t hi hl v) (fun r h2 => ∃ z3 : Int32, r = some (.int z3) ∧ rx_ok2 L t h2 (fun hi3 hl3 v3 => ((z3 = 0 → Q (some (.int (-1 : Int32))) (rx_hp L t hi3 hl3 v3)) ∧ (¬ (z3 = 0) → rx_me 174 [.ref 90, .int x1, .int x5] (rx_hp L t hi3 hl3 v3) (fun r h2 => ∃ z5 : Int32, r = some (.int z5) ∧ rx_ok2 L t h2 (fun hi5 hl5 v5 => ((z5 = 0 → (∃ j7 : Nat, (((402 : Int32) * x1) + x5) = nI j7 ∧ j7 < 2412 ∧ (∃ j8 : Nat, (((402 : Int32) * x1) + x5) = nI j8 ∧ j8 < 2412 ∧ (∃ j9 : Nat, ((((256 : Int32) * x5) + ((4 : Int32) * (hi5 101 j7))) + (hi5 102 j8)) = nI j9 ∧ j9 < 102912 ∧ rx_aw 172 103 [.ref 90, .int x1, .int x2, .int x3, .int x4, .int x5, .int (((402 : Int32) * x1) + x5), .int x5, rx_no, rx_no] [] (rx_hp L t (rx_u hi5 115 j9 (vp_nar .boolean (1 : Int32))) hl5 v5) Q)))) ∧ (¬ (z5 = 0) → Q (some (.int (-1 : Int32))) (rx_hp L t hi5 hl5 v5)))))))))) ∧ (¬ ((102912 : Int32) ≤ x6) → (∃ j10 : Nat, x6 = nI j10 ∧ j10 < 102912 ∧ rx_aw 172 16 [.ref 90, .int x1, .int x2, .int x3, .int x4, .int x5, .int (x6 + (1 : Int32)), rx_no, rx_no, rx_no] [] (rx_hp L t (rx_u hi 115 j10 (vp_nar .boolean (0 : Int32))) hl v) Q)))) : rx_aw 172 16 [.ref 90, .int x1, .int x2, .int x3, .int x4, .int x5, .int x6, rx_no, rx_no, rx_no] [] (rx_hp L t hi hl v) Q := by
  refine rx_aw_s 3 (pc := 16) rfl ?_
  refine rx_w_if (c := (102912 : Int32) ≤ x6) ⟨fun c2 => ?_, fun c2 => ?_⟩
  · have k := k.1 c2
    show rx_aw 172 37 [.ref 90, .int x1, .int x2, .int x3, .int x4, .int x5, .int x6, rx_no, rx_no, rx_no] [] (rx_hp L t hi hl v) Q
    refine rx_aw_s 9 (pc := 37) rfl ?_
    show rx_aw 172 51 [.ref 90, .int x1, .int x2, .int x3, .int x4, .int x5, .int (((402 : Int32) * x1) + x5), rx_no, rx_no, rx_no] [.int x5, .int x1, .ref 90] (rx_hp L t hi hl v) Q
    refine rx_w_callI (j := 173) (pc := 51) rfl rfl rfl rfl rfl ?_
    refine rx_aw.mono k (fun r h2 k => ?_)
    obtain ⟨z3, rfl, hi3, hl3, v3, rfl, k⟩ := k
    refine ⟨z3, rfl, ?_⟩
    show rx_aw 172 54 [.ref 90, .int x1, .int x2, .int x3, .int x4, .int x5, .int (((402 : Int32) * x1) + x5), rx_no, rx_no, rx_no] [.int z3] (rx_hp L t hi3 hl3 v3) Q
    refine rx_aw_s 1 (pc := 54) rfl ?_
    refine rx_w_if (c := z3 = 0) ⟨fun c4 => ?_, fun c4 => ?_⟩
    · have k := k.1 c4
      show rx_aw 172 67 [.ref 90, .int x1, .int x2, .int x3, .int x4, .int x5, .int (((402 : Int32) * x1) + x5), rx_no, rx_no, rx_no] [] (rx_hp L t hi3 hl3 v3) Q
      refine rx_aw_s 1 (pc := 67) rfl ?_
      show rx_aw 172 68 [.ref 90, .int x1, .int x2, .int x3, .int x4, .int x5, .int (((402 : Int32) * x1) + x5), rx_no, rx_no, rx_no] [.int (-1 : Int32)] (rx_hp L t hi3 hl3 v3) Q
      exact rx_aw_ret (pc := 68) rfl k
    · have k := k.2 c4
      show rx_aw 172 57 [.ref 90, .int x1, .int x2, .int x3, .int x4, .int x5, .int (((402 : Int32) * x1) + x5), rx_no, rx_no, rx_no] [] (rx_hp L t hi3 hl3 v3) Q
      refine rx_aw_s 3 (pc := 57) rfl ?_
      show rx_aw 172 61 [.ref 90, .int x1, .int x2, .int x3, .int x4, .int x5, .int (((402 : Int32) * x1) + x5), rx_no, rx_no, rx_no] [.int x5, .int x1, .ref 90] (rx_hp L t hi3 hl3 v3) Q
      refine rx_w_callI (j := 174) (pc := 61) rfl rfl rfl rfl rfl ?_
      refine rx_aw.mono k (fun r h2 k => ?_)
      obtain ⟨z5, rfl, hi5, hl5, v5, rfl, k⟩ := k
      refine ⟨z5, rfl, ?_⟩
      show rx_aw 172 64 [.ref 90, .int x1, .int x2, .int x3, .int x4, .int x5, .int (((402 : Int32) * x1) + x5), rx_no, rx_no, rx_no] [.int z5] (rx_hp L t hi5 hl5 v5) Q
      refine rx_aw_s 1 (pc := 64) rfl ?_
      refine rx_w_if (c := z5 = 0) ⟨fun c6 => ?_, fun c6 => ?_⟩
      · have k := k.1 c6
        show rx_aw 172 69 [.ref 90, .int x1, .int x2, .int x3, .int x4, .int x5, .int (((402 : Int32) * x1) + x5), rx_no, rx_no, rx_no] [] (rx_hp L t hi5 hl5 v5) Q
        refine rx_aw_s 9 (pc := 69) rfl ?_
        show rx_aw 172 86 [.ref 90, .int x1, .int x2, .int x3, .int x4, .int x5, .int (((402 : Int32) * x1) + x5), rx_no, rx_no, rx_no] [.int (((402 : Int32) * x1) + x5), .ref 101, .int (4 : Int32), .int ((256 : Int32) * x5), .ref 115] (rx_hp L t hi5 hl5 v5) Q
        obtain ⟨j7, ej7, hj7, k⟩ := k
        refine rx_aw_iald (pc := 86) (n := 2412) j7 ej7 rfl rfl rfl hj7 (by decide) ?_
        show rx_aw 172 87 [.ref 90, .int x1, .int x2, .int x3, .int x4, .int x5, .int (((402 : Int32) * x1) + x5), rx_no, rx_no, rx_no] [.int (hi5 101 j7), .int (4 : Int32), .int ((256 : Int32) * x5), .ref 115] (rx_hp L t hi5 hl5 v5) Q
        refine rx_aw_s 5 (pc := 87) rfl ?_
        show rx_aw 172 95 [.ref 90, .int x1, .int x2, .int x3, .int x4, .int x5, .int (((402 : Int32) * x1) + x5), rx_no, rx_no, rx_no] [.int (((402 : Int32) * x1) + x5), .ref 102, .int (((256 : Int32) * x5) + ((4 : Int32) * (hi5 101 j7))), .ref 115] (rx_hp L t hi5 hl5 v5) Q
        obtain ⟨j8, ej8, hj8, k⟩ := k
        refine rx_aw_iald (pc := 95) (n := 2412) j8 ej8 rfl rfl rfl hj8 (by decide) ?_
        show rx_aw 172 96 [.ref 90, .int x1, .int x2, .int x3, .int x4, .int x5, .int (((402 : Int32) * x1) + x5), rx_no, rx_no, rx_no] [.int (hi5 102 j8), .int (((256 : Int32) * x5) + ((4 : Int32) * (hi5 101 j7))), .ref 115] (rx_hp L t hi5 hl5 v5) Q
        refine rx_aw_s 2 (pc := 96) rfl ?_
        show rx_aw 172 98 [.ref 90, .int x1, .int x2, .int x3, .int x4, .int x5, .int (((402 : Int32) * x1) + x5), rx_no, rx_no, rx_no] [.int (1 : Int32), .int ((((256 : Int32) * x5) + ((4 : Int32) * (hi5 101 j7))) + (hi5 102 j8)), .ref 115] (rx_hp L t hi5 hl5 v5) Q
        obtain ⟨j9, ej9, hj9, k⟩ := k
        refine rx_aw_zast (pc := 98) (n := 102912) j9 ej9 rfl rfl (by decide) rfl hj9 (by decide) ?_
        show rx_aw 172 99 [.ref 90, .int x1, .int x2, .int x3, .int x4, .int x5, .int (((402 : Int32) * x1) + x5), rx_no, rx_no, rx_no] [] (rx_hp L t (rx_u hi5 115 j9 (vp_nar .boolean (1 : Int32))) hl5 v5) Q
        refine rx_aw_s 2 (pc := 99) rfl ?_
        show rx_aw 172 103 [.ref 90, .int x1, .int x2, .int x3, .int x4, .int x5, .int (((402 : Int32) * x1) + x5), .int x5, rx_no, rx_no] [] (rx_hp L t (rx_u hi5 115 j9 (vp_nar .boolean (1 : Int32))) hl5 v5) Q
        exact k
      · have k := k.2 c6
        show rx_aw 172 67 [.ref 90, .int x1, .int x2, .int x3, .int x4, .int x5, .int (((402 : Int32) * x1) + x5), rx_no, rx_no, rx_no] [] (rx_hp L t hi5 hl5 v5) Q
        refine rx_aw_s 1 (pc := 67) rfl ?_
        show rx_aw 172 68 [.ref 90, .int x1, .int x2, .int x3, .int x4, .int x5, .int (((402 : Int32) * x1) + x5), rx_no, rx_no, rx_no] [.int (-1 : Int32)] (rx_hp L t hi5 hl5 v5) Q
        exact rx_aw_ret (pc := 68) rfl k
  · have k := k.2 c2
    show rx_aw 172 23 [.ref 90, .int x1, .int x2, .int x3, .int x4, .int x5, .int x6, rx_no, rx_no, rx_no] [] (rx_hp L t hi hl v) Q
    refine rx_aw_s 4 (pc := 23) rfl ?_
    show rx_aw 172 30 [.ref 90, .int x1, .int x2, .int x3, .int x4, .int x5, .int x6, rx_no, rx_no, rx_no] [.int (0 : Int32), .int x6, .ref 115] (rx_hp L t hi hl v) Q
    obtain ⟨j10, ej10, hj10, k⟩ := k
    refine rx_aw_zast (pc := 30) (n := 102912) j10 ej10 rfl rfl (by decide) rfl hj10 (by decide) ?_
    show rx_aw 172 31 [.ref 90, .int x1, .int x2, .int x3, .int x4, .int x5, .int x6, rx_no, rx_no, rx_no] [] (rx_hp L t (rx_u hi 115 j10 (vp_nar .boolean (0 : Int32))) hl v) Q
    refine rx_aw_s 2 (pc := 31) rfl ?_
    show rx_aw 172 16 [.ref 90, .int x1, .int x2, .int x3, .int x4, .int x5, .int (x6 + (1 : Int32)), rx_no, rx_no, rx_no] [] (rx_hp L t (rx_u hi 115 j10 (vp_nar .boolean (0 : Int32))) hl v) Q
    exact k
set_option maxRecDepth 100000 in
theorem w172_goalTick_r_103 {L : Nat} {t : List (Nat × Nat)} {hi : Nat → Nat → Int32} {hl : Nat → Nat → Int64} {v : Nat → Nat → Option Nat} {Q : Option Value → rx_H → Prop} {x1 : Int32} {x2 : Int32} {x3 : Int32} {x4 : Int32} {x5 : Int32} {x6 : Int32} {x7 : Int32} (k : (((400 : Int32) < x7 → Q (some (.int (-1 : Int32))) (rx_hp L t hi hl v)) ∧ (¬ ((400 : Int32) < x7) → rx_aw 172 114 [.ref 90, .int x1, .int x2, .int x3, .int x4, .int x5, .int x6, .int x7, .int (0 : Int32), rx_no] [] (rx_hp L t hi hl v) Q))) : rx_aw 172 103 [.ref 90, .int x1, .int x2, .int x3, .int x4, .int x5, .int x6, .int x7, rx_no, rx_no] [] (rx_hp L t hi hl v) Q := by
  refine rx_aw_s 3 (pc := 103) rfl ?_
  refine rx_w_if (c := (400 : Int32) < x7) ⟨fun c11 => ?_, fun c11 => ?_⟩
  · have k := k.1 c11
    show rx_aw 172 273 [.ref 90, .int x1, .int x2, .int x3, .int x4, .int x5, .int x6, .int x7, rx_no, rx_no] [] (rx_hp L t hi hl v) Q
    refine rx_aw_s 1 (pc := 273) rfl ?_
    show rx_aw 172 274 [.ref 90, .int x1, .int x2, .int x3, .int x4, .int x5, .int x6, .int x7, rx_no, rx_no] [.int (-1 : Int32)] (rx_hp L t hi hl v) Q
    exact rx_aw_ret (pc := 274) rfl k
  · have k := k.2 c11
    show rx_aw 172 111 [.ref 90, .int x1, .int x2, .int x3, .int x4, .int x5, .int x6, .int x7, rx_no, rx_no] [] (rx_hp L t hi hl v) Q
    refine rx_aw_s 2 (pc := 111) rfl ?_
    show rx_aw 172 114 [.ref 90, .int x1, .int x2, .int x3, .int x4, .int x5, .int x6, .int x7, .int (0 : Int32), rx_no] [] (rx_hp L t hi hl v) Q
    exact k
set_option maxRecDepth 100000 in
theorem w172_goalTick_r_114 {L : Nat} {t : List (Nat × Nat)} {hi : Nat → Nat → Int32} {hl : Nat → Nat → Int64} {v : Nat → Nat → Option Nat} {Q : Option Value → rx_H → Prop} {x1 : Int32} {x2 : Int32} {x3 : Int32} {x4 : Int32} {x5 : Int32} {x6 : Int32} {x7 : Int32} {x8 : Int32} (k : (((256 : Int32) ≤ x8 → rx_aw 172 167 [.ref 90, .int x1, .int x2, .int x3, .int x4, .int x5, .int x6, .int x7, .int (0 : Int32), rx_no] [] (rx_hp L t hi hl v) Q) ∧ (¬ ((256 : Int32) ≤ x8) → (∃ j13 : Nat, (((256 : Int32) * x7) + x8) = nI j13 ∧ j13 < 102912 ∧ (((hi 115 j13) = 0 → rx_aw 172 114 [.ref 90, .int x1, .int x2, .int x3, .int x4, .int x5, .int x6, .int x7, .int (x8 + (1 : Int32)), rx_no] [] (rx_hp L t hi hl v) Q) ∧ (¬ ((hi 115 j13) = 0) → rx_me 177 [.ref 90, .int x1, .int x2, .int x3, .int x4, .int x8, .int x7] (rx_hp L t hi hl v) (fun r h2 => ∃ z15 : Int32, r = some (.int z15) ∧ rx_ok2 L t h2 (fun hi15 hl15 v15 => ((z15 = 0 → rx_aw 172 114 [.ref 90, .int x1, .int x2, .int x3, .int x4, .int x5, .int x6, .int x7, .int (x8 + (1 : Int32)), rx_no] [] (rx_hp L t hi15 hl15 v15) Q) ∧ (¬ (z15 = 0) → Q (some (.int x7)) (rx_hp L t hi15 hl15 v15))))))))))) : rx_aw 172 114 [.ref 90, .int x1, .int x2, .int x3, .int x4, .int x5, .int x6, .int x7, .int x8, rx_no] [] (rx_hp L t hi hl v) Q := by
  refine rx_aw_s 3 (pc := 114) rfl ?_
  refine rx_w_if (c := (256 : Int32) ≤ x8) ⟨fun c12 => ?_, fun c12 => ?_⟩
  · have k := k.1 c12
    show rx_aw 172 164 [.ref 90, .int x1, .int x2, .int x3, .int x4, .int x5, .int x6, .int x7, .int x8, rx_no] [] (rx_hp L t hi hl v) Q
    refine rx_aw_s 2 (pc := 164) rfl ?_
    show rx_aw 172 167 [.ref 90, .int x1, .int x2, .int x3, .int x4, .int x5, .int x6, .int x7, .int (0 : Int32), rx_no] [] (rx_hp L t hi hl v) Q
    exact k
  · have k := k.2 c12
    show rx_aw 172 122 [.ref 90, .int x1, .int x2, .int x3, .int x4, .int x5, .int x6, .int x7, .int x8, rx_no] [] (rx_hp L t hi hl v) Q
    refine rx_aw_s 7 (pc := 122) rfl ?_
    show rx_aw 172 135 [.ref 90, .int x1, .int x2, .int x3, .int x4, .int x5, .int x6, .int x7, .int x8, rx_no] [.int (((256 : Int32) * x7) + x8), .ref 115] (rx_hp L t hi hl v) Q
    obtain ⟨j13, ej13, hj13, k⟩ := k
    refine rx_aw_bald (pc := 135) (n := 102912) j13 ej13 rfl (Or.inr rfl) (by decide) rfl hj13 (by decide) ?_
    show rx_aw 172 136 [.ref 90, .int x1, .int x2, .int x3, .int x4, .int x5, .int x6, .int x7, .int x8, rx_no] [.int (hi 115 j13)] (rx_hp L t hi hl v) Q
    refine rx_aw_s 1 (pc := 136) rfl ?_
    refine rx_w_if (c := (hi 115 j13) = 0) ⟨fun c14 => ?_, fun c14 => ?_⟩
    · have k := k.1 c14
      show rx_aw 172 158 [.ref 90, .int x1, .int x2, .int x3, .int x4, .int x5, .int x6, .int x7, .int x8, rx_no] [] (rx_hp L t hi hl v) Q
      refine rx_aw_s 2 (pc := 158) rfl ?_
      show rx_aw 172 114 [.ref 90, .int x1, .int x2, .int x3, .int x4, .int x5, .int x6, .int x7, .int (x8 + (1 : Int32)), rx_no] [] (rx_hp L t hi hl v) Q
      exact k
    · have k := k.2 c14
      show rx_aw 172 139 [.ref 90, .int x1, .int x2, .int x3, .int x4, .int x5, .int x6, .int x7, .int x8, rx_no] [] (rx_hp L t hi hl v) Q
      refine rx_aw_s 7 (pc := 139) rfl ?_
      show rx_aw 172 149 [.ref 90, .int x1, .int x2, .int x3, .int x4, .int x5, .int x6, .int x7, .int x8, rx_no] [.int x7, .int x8, .int x4, .int x3, .int x2, .int x1, .ref 90] (rx_hp L t hi hl v) Q
      refine rx_w_callI (j := 177) (pc := 149) rfl rfl rfl rfl rfl ?_
      refine rx_aw.mono k (fun r h2 k => ?_)
      obtain ⟨z15, rfl, hi15, hl15, v15, rfl, k⟩ := k
      refine ⟨z15, rfl, ?_⟩
      show rx_aw 172 152 [.ref 90, .int x1, .int x2, .int x3, .int x4, .int x5, .int x6, .int x7, .int x8, rx_no] [.int z15] (rx_hp L t hi15 hl15 v15) Q
      refine rx_aw_s 1 (pc := 152) rfl ?_
      refine rx_w_if (c := z15 = 0) ⟨fun c16 => ?_, fun c16 => ?_⟩
      · have k := k.1 c16
        show rx_aw 172 158 [.ref 90, .int x1, .int x2, .int x3, .int x4, .int x5, .int x6, .int x7, .int x8, rx_no] [] (rx_hp L t hi15 hl15 v15) Q
        refine rx_aw_s 2 (pc := 158) rfl ?_
        show rx_aw 172 114 [.ref 90, .int x1, .int x2, .int x3, .int x4, .int x5, .int x6, .int x7, .int (x8 + (1 : Int32)), rx_no] [] (rx_hp L t hi15 hl15 v15) Q
        exact k
      · have k := k.2 c16
        show rx_aw 172 155 [.ref 90, .int x1, .int x2, .int x3, .int x4, .int x5, .int x6, .int x7, .int x8, rx_no] [] (rx_hp L t hi15 hl15 v15) Q
        refine rx_aw_s 1 (pc := 155) rfl ?_
        show rx_aw 172 157 [.ref 90, .int x1, .int x2, .int x3, .int x4, .int x5, .int x6, .int x7, .int x8, rx_no] [.int x7] (rx_hp L t hi15 hl15 v15) Q
        exact rx_aw_ret (pc := 157) rfl k
set_option maxRecDepth 100000 in
theorem w172_goalTick_r_167 {L : Nat} {t : List (Nat × Nat)} {hi : Nat → Nat → Int32} {hl : Nat → Nat → Int64} {v : Nat → Nat → Option Nat} {Q : Option Value → rx_H → Prop} {x1 : Int32} {x2 : Int32} {x3 : Int32} {x4 : Int32} {x5 : Int32} {x6 : Int32} {x7 : Int32} {x8 : Int32} (k : (((256 : Int32) ≤ x8 → rx_aw 172 103 [.ref 90, .int x1, .int x2, .int x3, .int x4, .int x5, .int x6, .int (x7 + (1 : Int32)), rx_no, rx_no] [] (rx_hp L t hi hl v) Q) ∧ (¬ ((256 : Int32) ≤ x8) → (((400 : Int32) ≤ x7 → rx_aw 172 103 [.ref 90, .int x1, .int x2, .int x3, .int x4, .int x5, .int x6, .int (x7 + (1 : Int32)), rx_no, rx_no] [] (rx_hp L t hi hl v) Q) ∧ (¬ ((400 : Int32) ≤ x7) → rx_aw 172 186 [.ref 90, .int x1, .int x2, .int x3, .int x4, .int x5, .int x6, .int x7, .int x8, .int (0 : Int32)] [] (rx_hp L t hi hl v) Q))))) : rx_aw 172 167 [.ref 90, .int x1, .int x2, .int x3, .int x4, .int x5, .int x6, .int x7, .int x8, rx_no] [] (rx_hp L t hi hl v) Q := by
  refine rx_aw_s 3 (pc := 167) rfl ?_
  refine rx_w_if (c := (256 : Int32) ≤ x8) ⟨fun c17 => ?_, fun c17 => ?_⟩
  · have k := k.1 c17
    show rx_aw 172 267 [.ref 90, .int x1, .int x2, .int x3, .int x4, .int x5, .int x6, .int x7, .int x8, rx_no] [] (rx_hp L t hi hl v) Q
    refine rx_aw_s 2 (pc := 267) rfl ?_
    show rx_aw 172 103 [.ref 90, .int x1, .int x2, .int x3, .int x4, .int x5, .int x6, .int (x7 + (1 : Int32)), .int x8, rx_no] [] (rx_hp L t hi hl v) Q
    exact rx_aw_le (ls := [.ref 90, .int x1, .int x2, .int x3, .int x4, .int x5, .int x6, .int (x7 + (1 : Int32)), rx_no, rx_no]) ⟨Or.inr rfl, ⟨Or.inr rfl, ⟨Or.inr rfl, ⟨Or.inr rfl, ⟨Or.inr rfl, ⟨Or.inr rfl, ⟨Or.inr rfl, ⟨Or.inr rfl, ⟨Or.inl rfl, ⟨Or.inl rfl, trivial⟩⟩⟩⟩⟩⟩⟩⟩⟩⟩ k
  · have k := k.2 c17
    show rx_aw 172 175 [.ref 90, .int x1, .int x2, .int x3, .int x4, .int x5, .int x6, .int x7, .int x8, rx_no] [] (rx_hp L t hi hl v) Q
    refine rx_aw_s 3 (pc := 175) rfl ?_
    refine rx_w_if (c := (400 : Int32) ≤ x7) ⟨fun c18 => ?_, fun c18 => ?_⟩
    · have k := k.1 c18
      show rx_aw 172 267 [.ref 90, .int x1, .int x2, .int x3, .int x4, .int x5, .int x6, .int x7, .int x8, rx_no] [] (rx_hp L t hi hl v) Q
      refine rx_aw_s 2 (pc := 267) rfl ?_
      show rx_aw 172 103 [.ref 90, .int x1, .int x2, .int x3, .int x4, .int x5, .int x6, .int (x7 + (1 : Int32)), .int x8, rx_no] [] (rx_hp L t hi hl v) Q
      exact rx_aw_le (ls := [.ref 90, .int x1, .int x2, .int x3, .int x4, .int x5, .int x6, .int (x7 + (1 : Int32)), rx_no, rx_no]) ⟨Or.inr rfl, ⟨Or.inr rfl, ⟨Or.inr rfl, ⟨Or.inr rfl, ⟨Or.inr rfl, ⟨Or.inr rfl, ⟨Or.inr rfl, ⟨Or.inr rfl, ⟨Or.inl rfl, ⟨Or.inl rfl, trivial⟩⟩⟩⟩⟩⟩⟩⟩⟩⟩ k
    · have k := k.2 c18
      show rx_aw 172 183 [.ref 90, .int x1, .int x2, .int x3, .int x4, .int x5, .int x6, .int x7, .int x8, rx_no] [] (rx_hp L t hi hl v) Q
      refine rx_aw_s 2 (pc := 183) rfl ?_
      show rx_aw 172 186 [.ref 90, .int x1, .int x2, .int x3, .int x4, .int x5, .int x6, .int x7, .int x8, .int (0 : Int32)] [] (rx_hp L t hi hl v) Q
      exact k
set_option maxRecDepth 100000 in
theorem w172_goalTick_r_186 {L : Nat} {t : List (Nat × Nat)} {hi : Nat → Nat → Int32} {hl : Nat → Nat → Int64} {v : Nat → Nat → Option Nat} {Q : Option Value → rx_H → Prop} {x1 : Int32} {x2 : Int32} {x3 : Int32} {x4 : Int32} {x5 : Int32} {x6 : Int32} {x7 : Int32} {x8 : Int32} {x9 : Int32} (k : (((4 : Int32) < x9 → rx_aw 172 167 [.ref 90, .int x1, .int x2, .int x3, .int x4, .int x5, .int x6, .int x7, .int (x8 + (1 : Int32)), rx_no] [] (rx_hp L t hi hl v) Q) ∧ (¬ ((4 : Int32) < x9) → (∃ j20 : Nat, (((256 : Int32) * x7) + x8) = nI j20 ∧ j20 < 102912 ∧ (((hi 115 j20) = 0 → rx_aw 172 167 [.ref 90, .int x1, .int x2, .int x3, .int x4, .int x5, .int x6, .int x7, .int (x8 + (1 : Int32)), rx_no] [] (rx_hp L t hi hl v) Q) ∧ (¬ ((hi 115 j20) = 0) → rx_me 183 [.ref 90, .int x1, .int (x8 / (4 : Int32)), .int (x8 - x8 / (4 : Int32) * (4 : Int32)), .int x9, .int x7] (rx_hp L t hi hl v) (fun r h2 => ∃ z22 : Int32, r = some (.int z22) ∧ rx_ok2 L t h2 (fun hi22 hl22 v22 => ((z22 = 0 → rx_aw 172 186 [.ref 90, .int x1, .int x2, .int x3, .int x4, .int x5, .int x6, .int x7, .int x8, .int (x9 + (1 : Int32))] [] (rx_hp L t hi22 hl22 v22) Q) ∧ (¬ (z22 = 0) → (∃ j24 : Nat, ((((256 : Int32) * (x7 + (1 : Int32))) + ((4 : Int32) * (hi22 90 33))) + (hi22 90 34)) = nI j24 ∧ j24 < 102912 ∧ rx_aw 172 186 [.ref 90, .int x1, .int x2, .int x3, .int x4, .int x5, .int x6, .int x7, .int x8, .int (x9 + (1 : Int32))] [] (rx_hp L t (rx_u hi22 115 j24 (vp_nar .boolean (1 : Int32))) hl22 v22) Q))))))))))) : rx_aw 172 186 [.ref 90, .int x1, .int x2, .int x3, .int x4, .int x5, .int x6, .int x7, .int x8, .int x9] [] (rx_hp L t hi hl v) Q := by
  refine rx_aw_s 3 (pc := 186) rfl ?_
  refine rx_w_if (c := (4 : Int32) < x9) ⟨fun c19 => ?_, fun c19 => ?_⟩
  · have k := k.1 c19
    show rx_aw 172 261 [.ref 90, .int x1, .int x2, .int x3, .int x4, .int x5, .int x6, .int x7, .int x8, .int x9] [] (rx_hp L t hi hl v) Q
    refine rx_aw_s 2 (pc := 261) rfl ?_
    show rx_aw 172 167 [.ref 90, .int x1, .int x2, .int x3, .int x4, .int x5, .int x6, .int x7, .int (x8 + (1 : Int32)), .int x9] [] (rx_hp L t hi hl v) Q
    exact rx_aw_le (ls := [.ref 90, .int x1, .int x2, .int x3, .int x4, .int x5, .int x6, .int x7, .int (x8 + (1 : Int32)), rx_no]) ⟨Or.inr rfl, ⟨Or.inr rfl, ⟨Or.inr rfl, ⟨Or.inr rfl, ⟨Or.inr rfl, ⟨Or.inr rfl, ⟨Or.inr rfl, ⟨Or.inr rfl, ⟨Or.inr rfl, ⟨Or.inl rfl, trivial⟩⟩⟩⟩⟩⟩⟩⟩⟩⟩ k
  · have k := k.2 c19
    show rx_aw 172 192 [.ref 90, .int x1, .int x2, .int x3, .int x4, .int x5, .int x6, .int x7, .int x8, .int x9] [] (rx_hp L t hi hl v) Q
    refine rx_aw_s 7 (pc := 192) rfl ?_
    show rx_aw 172 205 [.ref 90, .int x1, .int x2, .int x3, .int x4, .int x5, .int x6, .int x7, .int x8, .int x9] [.int (((256 : Int32) * x7) + x8), .ref 115] (rx_hp L t hi hl v) Q
    obtain ⟨j20, ej20, hj20, k⟩ := k
    refine rx_aw_bald (pc := 205) (n := 102912) j20 ej20 rfl (Or.inr rfl) (by decide) rfl hj20 (by decide) ?_
    show rx_aw 172 206 [.ref 90, .int x1, .int x2, .int x3, .int x4, .int x5, .int x6, .int x7, .int x8, .int x9] [.int (hi 115 j20)] (rx_hp L t hi hl v) Q
    refine rx_aw_s 1 (pc := 206) rfl ?_
    refine rx_w_if (c := (hi 115 j20) = 0) ⟨fun c21 => ?_, fun c21 => ?_⟩
    · have k := k.1 c21
      show rx_aw 172 261 [.ref 90, .int x1, .int x2, .int x3, .int x4, .int x5, .int x6, .int x7, .int x8, .int x9] [] (rx_hp L t hi hl v) Q
      refine rx_aw_s 2 (pc := 261) rfl ?_
      show rx_aw 172 167 [.ref 90, .int x1, .int x2, .int x3, .int x4, .int x5, .int x6, .int x7, .int (x8 + (1 : Int32)), .int x9] [] (rx_hp L t hi hl v) Q
      exact rx_aw_le (ls := [.ref 90, .int x1, .int x2, .int x3, .int x4, .int x5, .int x6, .int x7, .int (x8 + (1 : Int32)), rx_no]) ⟨Or.inr rfl, ⟨Or.inr rfl, ⟨Or.inr rfl, ⟨Or.inr rfl, ⟨Or.inr rfl, ⟨Or.inr rfl, ⟨Or.inr rfl, ⟨Or.inr rfl, ⟨Or.inr rfl, ⟨Or.inl rfl, trivial⟩⟩⟩⟩⟩⟩⟩⟩⟩⟩ k
    · have k := k.2 c21
      show rx_aw 172 209 [.ref 90, .int x1, .int x2, .int x3, .int x4, .int x5, .int x6, .int x7, .int x8, .int x9] [] (rx_hp L t hi hl v) Q
      refine rx_aw_s 4 (pc := 209) rfl ?_
      show rx_aw 172 214 [.ref 90, .int x1, .int x2, .int x3, .int x4, .int x5, .int x6, .int x7, .int x8, .int x9] [.int (4 : Int32), .int x8, .int x1, .ref 90] (rx_hp L t hi hl v) Q
      refine rx_aw_div (pc := 214) rfl (by decide) ?_
      show rx_aw 172 215 [.ref 90, .int x1, .int x2, .int x3, .int x4, .int x5, .int x6, .int x7, .int x8, .int x9] [.int (x8 / (4 : Int32)), .int x1, .ref 90] (rx_hp L t hi hl v) Q
      refine rx_aw_s 2 (pc := 215) rfl ?_
      show rx_aw 172 218 [.ref 90, .int x1, .int x2, .int x3, .int x4, .int x5, .int x6, .int x7, .int x8, .int x9] [.int (4 : Int32), .int x8, .int (x8 / (4 : Int32)), .int x1, .ref 90] (rx_hp L t hi hl v) Q
      refine rx_aw_rem (pc := 218) rfl (by decide) ?_
      show rx_aw 172 219 [.ref 90, .int x1, .int x2, .int x3, .int x4, .int x5, .int x6, .int x7, .int x8, .int x9] [.int (x8 - x8 / (4 : Int32) * (4 : Int32)), .int (x8 / (4 : Int32)), .int x1, .ref 90] (rx_hp L t hi hl v) Q
      refine rx_aw_s 2 (pc := 219) rfl ?_
      show rx_aw 172 223 [.ref 90, .int x1, .int x2, .int x3, .int x4, .int x5, .int x6, .int x7, .int x8, .int x9] [.int x7, .int x9, .int (x8 - x8 / (4 : Int32) * (4 : Int32)), .int (x8 / (4 : Int32)), .int x1, .ref 90] (rx_hp L t hi hl v) Q
      refine rx_w_callI (j := 183) (pc := 223) rfl rfl rfl rfl rfl ?_
      refine rx_aw.mono k (fun r h2 k => ?_)
      obtain ⟨z22, rfl, hi22, hl22, v22, rfl, k⟩ := k
      refine ⟨z22, rfl, ?_⟩
      show rx_aw 172 226 [.ref 90, .int x1, .int x2, .int x3, .int x4, .int x5, .int x6, .int x7, .int x8, .int x9] [.int z22] (rx_hp L t hi22 hl22 v22) Q
      refine rx_aw_s 1 (pc := 226) rfl ?_
      refine rx_w_if (c := z22 = 0) ⟨fun c23 => ?_, fun c23 => ?_⟩
      · have k := k.1 c23
        show rx_aw 172 255 [.ref 90, .int x1, .int x2, .int x3, .int x4, .int x5, .int x6, .int x7, .int x8, .int x9] [] (rx_hp L t hi22 hl22 v22) Q
        refine rx_aw_s 2 (pc := 255) rfl ?_
        show rx_aw 172 186 [.ref 90, .int x1, .int x2, .int x3, .int x4, .int x5, .int x6, .int x7, .int x8, .int (x9 + (1 : Int32))] [] (rx_hp L t hi22 hl22 v22) Q
        exact k
      · have k := k.2 c23
        show rx_aw 172 229 [.ref 90, .int x1, .int x2, .int x3, .int x4, .int x5, .int x6, .int x7, .int x8, .int x9] [] (rx_hp L t hi22 hl22 v22) Q
        refine rx_aw_s 16 (pc := 229) rfl ?_
        show rx_aw 172 254 [.ref 90, .int x1, .int x2, .int x3, .int x4, .int x5, .int x6, .int x7, .int x8, .int x9] [.int (1 : Int32), .int ((((256 : Int32) * (x7 + (1 : Int32))) + ((4 : Int32) * (hi22 90 33))) + (hi22 90 34)), .ref 115] (rx_hp L t hi22 hl22 v22) Q
        obtain ⟨j24, ej24, hj24, k⟩ := k
        refine rx_aw_zast (pc := 254) (n := 102912) j24 ej24 rfl rfl (by decide) rfl hj24 (by decide) ?_
        show rx_aw 172 255 [.ref 90, .int x1, .int x2, .int x3, .int x4, .int x5, .int x6, .int x7, .int x8, .int x9] [] (rx_hp L t (rx_u hi22 115 j24 (vp_nar .boolean (1 : Int32))) hl22 v22) Q
        refine rx_aw_s 2 (pc := 255) rfl ?_
        show rx_aw 172 186 [.ref 90, .int x1, .int x2, .int x3, .int x4, .int x5, .int x6, .int x7, .int x8, .int (x9 + (1 : Int32))] [] (rx_hp L t (rx_u hi22 115 j24 (vp_nar .boolean (1 : Int32))) hl22 v22) Q
        exact k
set_option maxRecDepth 100000 in
/-- CartFloorModel.fits(II)Z -/
theorem w173_fits_r {L : Nat} {t : List (Nat × Nat)} {hi : Nat → Nat → Int32} {hl : Nat → Nat → Int64} {v : Nat → Nat → Option Nat} {Q : Option Value → rx_H → Prop} {a0 : Int32} {a1 : Int32} (k : (∃ j1 : Nat, (((402 : Int32) * a0) + a1) = nI j1 ∧ j1 < 2412 ∧ rx_me 167 [.ref 90] (rx_hp L t hi hl v) (fun r h2 => ∃ z2 : Int64, r = some (.long z2) ∧ rx_ok2 L t h2 (fun hi2 hl2 v2 => (((lg_cmp ((hl 106 j1) &&& z2) (0 : Int64)) = 0 → (∃ j4 : Nat, (((402 : Int32) * a0) + a1) = nI j4 ∧ j4 < 2412 ∧ rx_me 170 [.ref 90, .int a0, .int (hi2 103 j4)] (rx_hp L t hi2 hl2 v2) (fun r h2 => ∃ z5 : Int32, r = some (.int z5) ∧ rx_ok2 L t h2 (fun hi5 hl5 v5 => ((z5 = 0 → Q (some (.int (1 : Int32))) (rx_hp L t hi5 hl5 v5)) ∧ (¬ (z5 = 0) → (∃ j7 : Nat, (((402 : Int32) * a0) + a1) = nI j7 ∧ j7 < 2412 ∧ (∃ j8 : Nat, (((402 : Int32) * a0) + a1) = nI j8 ∧ j8 < 2412 ∧ rx_me 171 [.ref 90, .int a1, .int (hi5 103 j8)] (rx_hp L t hi5 hl5 v5) (fun r h2 => ∃ z9 : Int64, r = some (.long z9) ∧ rx_ok2 L t h2 (fun hi9 hl9 v9 => (((lg_cmp ((hl5 106 j7) &&& z9) (0 : Int64)) = 0 → Q (some (.int (1 : Int32))) (rx_hp L t hi9 hl9 v9)) ∧ (¬ ((lg_cmp ((hl5 106 j7) &&& z9) (0 : Int64)) = 0) → Q (some (.int (0 : Int32))) (rx_hp L t hi9 hl9 v9))))))))))))) ∧ (¬ ((lg_cmp ((hl 106 j1) &&& z2) (0 : Int64)) = 0) → Q (some (.int (0 : Int32))) (rx_hp L t hi2 hl2 v2))))))) : rx_me 173 [.ref 90, .int a0, .int a1] (rx_hp L t hi hl v) Q := by
  show rx_aw 173 0 [.ref 90, .int a0, .int a1, rx_no] [] (rx_hp L t hi hl v) Q
  refine rx_aw_s 9 (pc := 0) rfl ?_
  show rx_aw 173 13 [.ref 90, .int a0, .int a1, .int (((402 : Int32) * a0) + a1)] [.int (((402 : Int32) * a0) + a1), .ref 106] (rx_hp L t hi hl v) Q
  obtain ⟨j1, ej1, hj1, k⟩ := k
  refine rx_aw_lald (pc := 13) (n := 2412) j1 ej1 rfl rfl (by decide) rfl hj1 (by decide) ?_
  show rx_aw 173 14 [.ref 90, .int a0, .int a1, .int (((402 : Int32) * a0) + a1)] [.long (hl 106 j1)] (rx_hp L t hi hl v) Q
  refine rx_aw_s 1 (pc := 14) rfl ?_
  show rx_aw 173 15 [.ref 90, .int a0, .int a1, .int (((402 : Int32) * a0) + a1)] [.ref 90, .long (hl 106 j1)] (rx_hp L t hi hl v) Q
  refine rx_w_callL (j := 167) (pc := 15) rfl rfl rfl rfl rfl ?_
  refine rx_aw.mono k (fun r h2 k => ?_)
  obtain ⟨z2, rfl, hi2, hl2, v2, rfl, k⟩ := k
  refine ⟨z2, rfl, ?_⟩
  show rx_aw 173 18 [.ref 90, .int a0, .int a1, .int (((402 : Int32) * a0) + a1)] [.long z2, .long (hl 106 j1)] (rx_hp L t hi2 hl2 v2) Q
  refine rx_aw_s 4 (pc := 18) rfl ?_
  refine rx_w_ifn (c := (lg_cmp ((hl 106 j1) &&& z2) (0 : Int64)) = 0) ⟨fun c3 => ?_, fun c3 => ?_⟩
  · have k := k.1 c3
    show rx_aw 173 24 [.ref 90, .int a0, .int a1, .int (((402 : Int32) * a0) + a1)] [] (rx_hp L t hi2 hl2 v2) Q
    refine rx_aw_s 5 (pc := 24) rfl ?_
    show rx_aw 173 31 [.ref 90, .int a0, .int a1, .int (((402 : Int32) * a0) + a1)] [.int (((402 : Int32) * a0) + a1), .ref 103, .int a0, .ref 90] (rx_hp L t hi2 hl2 v2) Q
    obtain ⟨j4, ej4, hj4, k⟩ := k
    refine rx_aw_iald (pc := 31) (n := 2412) j4 ej4 rfl rfl rfl hj4 (by decide) ?_
    show rx_aw 173 32 [.ref 90, .int a0, .int a1, .int (((402 : Int32) * a0) + a1)] [.int (hi2 103 j4), .int a0, .ref 90] (rx_hp L t hi2 hl2 v2) Q
    refine rx_w_callI (j := 170) (pc := 32) rfl rfl rfl rfl rfl ?_
    refine rx_aw.mono k (fun r h2 k => ?_)
    obtain ⟨z5, rfl, hi5, hl5, v5, rfl, k⟩ := k
    refine ⟨z5, rfl, ?_⟩
    show rx_aw 173 35 [.ref 90, .int a0, .int a1, .int (((402 : Int32) * a0) + a1)] [.int z5] (rx_hp L t hi5 hl5 v5) Q
    refine rx_aw_s 1 (pc := 35) rfl ?_
    refine rx_w_if (c := z5 = 0) ⟨fun c6 => ?_, fun c6 => ?_⟩
    · have k := k.1 c6
      show rx_aw 173 61 [.ref 90, .int a0, .int a1, .int (((402 : Int32) * a0) + a1)] [] (rx_hp L t hi5 hl5 v5) Q
      refine rx_aw_s 2 (pc := 61) rfl ?_
      show rx_aw 173 66 [.ref 90, .int a0, .int a1, .int (((402 : Int32) * a0) + a1)] [.int (1 : Int32)] (rx_hp L t hi5 hl5 v5) Q
      exact rx_aw_ret (pc := 66) rfl k
    · have k := k.2 c6
      show rx_aw 173 38 [.ref 90, .int a0, .int a1, .int (((402 : Int32) * a0) + a1)] [] (rx_hp L t hi5 hl5 v5) Q
      refine rx_aw_s 3 (pc := 38) rfl ?_
      show rx_aw 173 43 [.ref 90, .int a0, .int a1, .int (((402 : Int32) * a0) + a1)] [.int (((402 : Int32) * a0) + a1), .ref 106] (rx_hp L t hi5 hl5 v5) Q
      obtain ⟨j7, ej7, hj7, k⟩ := k
      refine rx_aw_lald (pc := 43) (n := 2412) j7 ej7 rfl rfl (by decide) rfl hj7 (by decide) ?_
      show rx_aw 173 44 [.ref 90, .int a0, .int a1, .int (((402 : Int32) * a0) + a1)] [.long (hl5 106 j7)] (rx_hp L t hi5 hl5 v5) Q
      refine rx_aw_s 5 (pc := 44) rfl ?_
      show rx_aw 173 51 [.ref 90, .int a0, .int a1, .int (((402 : Int32) * a0) + a1)] [.int (((402 : Int32) * a0) + a1), .ref 103, .int a1, .ref 90, .long (hl5 106 j7)] (rx_hp L t hi5 hl5 v5) Q
      obtain ⟨j8, ej8, hj8, k⟩ := k
      refine rx_aw_iald (pc := 51) (n := 2412) j8 ej8 rfl rfl rfl hj8 (by decide) ?_
      show rx_aw 173 52 [.ref 90, .int a0, .int a1, .int (((402 : Int32) * a0) + a1)] [.int (hi5 103 j8), .int a1, .ref 90, .long (hl5 106 j7)] (rx_hp L t hi5 hl5 v5) Q
      refine rx_w_callL (j := 171) (pc := 52) rfl rfl rfl rfl rfl ?_
      refine rx_aw.mono k (fun r h2 k => ?_)
      obtain ⟨z9, rfl, hi9, hl9, v9, rfl, k⟩ := k
      refine ⟨z9, rfl, ?_⟩
      show rx_aw 173 55 [.ref 90, .int a0, .int a1, .int (((402 : Int32) * a0) + a1)] [.long z9, .long (hl5 106 j7)] (rx_hp L t hi9 hl9 v9) Q
      refine rx_aw_s 4 (pc := 55) rfl ?_
      refine rx_w_ifn (c := (lg_cmp ((hl5 106 j7) &&& z9) (0 : Int64)) = 0) ⟨fun c10 => ?_, fun c10 => ?_⟩
      · have k := k.1 c10
        show rx_aw 173 61 [.ref 90, .int a0, .int a1, .int (((402 : Int32) * a0) + a1)] [] (rx_hp L t hi9 hl9 v9) Q
        refine rx_aw_s 2 (pc := 61) rfl ?_
        show rx_aw 173 66 [.ref 90, .int a0, .int a1, .int (((402 : Int32) * a0) + a1)] [.int (1 : Int32)] (rx_hp L t hi9 hl9 v9) Q
        exact rx_aw_ret (pc := 66) rfl k
      · have k := k.2 c10
        show rx_aw 173 65 [.ref 90, .int a0, .int a1, .int (((402 : Int32) * a0) + a1)] [] (rx_hp L t hi9 hl9 v9) Q
        refine rx_aw_s 1 (pc := 65) rfl ?_
        show rx_aw 173 66 [.ref 90, .int a0, .int a1, .int (((402 : Int32) * a0) + a1)] [.int (0 : Int32)] (rx_hp L t hi9 hl9 v9) Q
        exact rx_aw_ret (pc := 66) rfl k
  · have k := k.2 c3
    show rx_aw 173 65 [.ref 90, .int a0, .int a1, .int (((402 : Int32) * a0) + a1)] [] (rx_hp L t hi2 hl2 v2) Q
    refine rx_aw_s 1 (pc := 65) rfl ?_
    show rx_aw 173 66 [.ref 90, .int a0, .int a1, .int (((402 : Int32) * a0) + a1)] [.int (0 : Int32)] (rx_hp L t hi2 hl2 v2) Q
    exact rx_aw_ret (pc := 66) rfl k
set_option maxRecDepth 100000 in
/-- CartFloorModel.meetsAny(II)Z -/
theorem w174_meetsAny_r {L : Nat} {t : List (Nat × Nat)} {hi : Nat → Nat → Int32} {hl : Nat → Nat → Int64} {v : Nat → Nat → Option Nat} {Q : Option Value → rx_H → Prop} {a0 : Int32} {a1 : Int32} (k : rx_aw 174 5 [.ref 90, .int a0, .int a1, .int (0 : Int32), .int (0 : Int32)] [] (rx_hp L t hi hl v) Q) : rx_me 174 [.ref 90, .int a0, .int a1] (rx_hp L t hi hl v) Q := by
  show rx_aw 174 0 [.ref 90, .int a0, .int a1, rx_no, rx_no] [] (rx_hp L t hi hl v) Q
  refine rx_aw_s 4 (pc := 0) rfl ?_
  show rx_aw 174 5 [.ref 90, .int a0, .int a1, .int (0 : Int32), .int (0 : Int32)] [] (rx_hp L t hi hl v) Q
  exact k
set_option maxRecDepth 100000 in
theorem w174_meetsAny_r_5 {L : Nat} {t : List (Nat × Nat)} {hi : Nat → Nat → Int32} {hl : Nat → Nat → Int64} {v : Nat → Nat → Option Nat} {Q : Option Value → rx_H → Prop} {x1 : Int32} {x2 : Int32} {x3 : Int32} {x4 : Int32} (k : (((hi 90 6) ≤ x4 → ((x3 = 0 ∨ x3 = 1) ∧ Q (some (.int x3)) (rx_hp L t hi hl v))) ∧ (¬ ((hi 90 6) ≤ x4) → ((x4 = x1 → rx_aw 174 5 [.ref 90, .int x1, .int x2, .int (x3 ||| (0 : Int32)), .int (x4 + (1 : Int32))] [] (rx_hp L t hi hl v) Q) ∧ (¬ (x4 = x1) → rx_me 175 [.ref 90, .int x1, .int x4, .int x2] (rx_hp L t hi hl v) (fun r h2 => ∃ z3 : Int32, r = some (.int z3) ∧ rx_ok2 L t h2 (fun hi3 hl3 v3 => ((z3 = 0 → rx_aw 174 5 [.ref 90, .int x1, .int x2, .int (x3 ||| (0 : Int32)), .int (x4 + (1 : Int32))] [] (rx_hp L t hi3 hl3 v3) Q) ∧ (¬ (z3 = 0) → rx_aw 174 5 [.ref 90, .int x1, .int x2, .int (x3 ||| (1 : Int32)), .int (x4 + (1 : Int32))] [] (rx_hp L t hi3 hl3 v3) Q))))))))) : rx_aw 174 5 [.ref 90, .int x1, .int x2, .int x3, .int x4] [] (rx_hp L t hi hl v) Q := by
  refine rx_aw_s 4 (pc := 5) rfl ?_
  refine rx_w_if (c := (hi 90 6) ≤ x4) ⟨fun c1 => ?_, fun c1 => ?_⟩
  · have k := k.1 c1
    show rx_aw 174 45 [.ref 90, .int x1, .int x2, .int x3, .int x4] [] (rx_hp L t hi hl v) Q
    refine rx_aw_s 1 (pc := 45) rfl ?_
    show rx_aw 174 46 [.ref 90, .int x1, .int x2, .int x3, .int x4] [.int x3] (rx_hp L t hi hl v) Q
    exact rx_w_zret (pc := 46) rfl rfl k
  · have k := k.2 c1
    show rx_aw 174 14 [.ref 90, .int x1, .int x2, .int x3, .int x4] [] (rx_hp L t hi hl v) Q
    refine rx_aw_s 4 (pc := 14) rfl ?_
    refine rx_w_if (c := x4 = x1) ⟨fun c2 => ?_, fun c2 => ?_⟩
    · have k := k.1 c2
      show rx_aw 174 36 [.ref 90, .int x1, .int x2, .int x3, .int x4] [.int x3] (rx_hp L t hi hl v) Q
      refine rx_aw_s 5 (pc := 36) rfl ?_
      show rx_aw 174 5 [.ref 90, .int x1, .int x2, .int (x3 ||| (0 : Int32)), .int (x4 + (1 : Int32))] [] (rx_hp L t hi hl v) Q
      exact k
    · have k := k.2 c2
      show rx_aw 174 21 [.ref 90, .int x1, .int x2, .int x3, .int x4] [.int x3] (rx_hp L t hi hl v) Q
      refine rx_aw_s 4 (pc := 21) rfl ?_
      show rx_aw 174 26 [.ref 90, .int x1, .int x2, .int x3, .int x4] [.int x2, .int x4, .int x1, .ref 90, .int x3] (rx_hp L t hi hl v) Q
      refine rx_w_callI (j := 175) (pc := 26) rfl rfl rfl rfl rfl ?_
      refine rx_aw.mono k (fun r h2 k => ?_)
      obtain ⟨z3, rfl, hi3, hl3, v3, rfl, k⟩ := k
      refine ⟨z3, rfl, ?_⟩
      show rx_aw 174 29 [.ref 90, .int x1, .int x2, .int x3, .int x4] [.int z3, .int x3] (rx_hp L t hi3 hl3 v3) Q
      refine rx_aw_s 1 (pc := 29) rfl ?_
      refine rx_w_if (c := z3 = 0) ⟨fun c4 => ?_, fun c4 => ?_⟩
      · have k := k.1 c4
        show rx_aw 174 36 [.ref 90, .int x1, .int x2, .int x3, .int x4] [.int x3] (rx_hp L t hi3 hl3 v3) Q
        refine rx_aw_s 5 (pc := 36) rfl ?_
        show rx_aw 174 5 [.ref 90, .int x1, .int x2, .int (x3 ||| (0 : Int32)), .int (x4 + (1 : Int32))] [] (rx_hp L t hi3 hl3 v3) Q
        exact k
      · have k := k.2 c4
        show rx_aw 174 32 [.ref 90, .int x1, .int x2, .int x3, .int x4] [.int x3] (rx_hp L t hi3 hl3 v3) Q
        refine rx_aw_s 6 (pc := 32) rfl ?_
        show rx_aw 174 5 [.ref 90, .int x1, .int x2, .int (x3 ||| (1 : Int32)), .int (x4 + (1 : Int32))] [] (rx_hp L t hi3 hl3 v3) Q
        exact k
set_option maxRecDepth 100000 in
/-- CartFloorModel.meets(III)Z -/
theorem w175_meets_r {L : Nat} {t : List (Nat × Nat)} {hi : Nat → Nat → Int32} {hl : Nat → Nat → Int64} {v : Nat → Nat → Option Nat} {Q : Option Value → rx_H → Prop} {a0 : Int32} {a1 : Int32} {a2 : Int32} (k : (∃ j1 : Nat, (((402 : Int32) * a0) + a2) = nI j1 ∧ j1 < 2412 ∧ (∃ j2 : Nat, (((402 : Int32) * a1) + a2) = nI j2 ∧ j2 < 2412 ∧ (((lg_cmp ((hl 106 j1) &&& (hl 106 j2)) (0 : Int64)) = 0 → ((a2 ≤ 0 → Q (some (.int (0 : Int32))) (rx_hp L t hi hl v)) ∧ (¬ (a2 ≤ 0) → (∃ j5 : Nat, ((((402 : Int32) * a0) + a2) - (1 : Int32)) = nI j5 ∧ j5 < 2412 ∧ (∃ j6 : Nat, (((402 : Int32) * a0) + a2) = nI j6 ∧ j6 < 2412 ∧ (∃ j7 : Nat, ((((402 : Int32) * a1) + a2) - (1 : Int32)) = nI j7 ∧ j7 < 2412 ∧ (∃ j8 : Nat, (((402 : Int32) * a1) + a2) = nI j8 ∧ j8 < 2412 ∧ rx_me 176 [.long (hl 105 j5), .long (hl 105 j6), .long (hl 105 j7), .long (hl 105 j8)] (rx_hp L t hi hl v) (fun r h2 => ∃ z9 : Int32, r = some (.int z9) ∧ rx_ok2 L t h2 (fun hi9 hl9 v9 => ((z9 = 0 → Q (some (.int (0 : Int32))) (rx_hp L t hi9 hl9 v9)) ∧ (¬ (z9 = 0) → Q (some (.int (1 : Int32))) (rx_hp L t hi9 hl9 v9)))))))))))) ∧ (¬ ((lg_cmp ((hl 106 j1) &&& (hl 106 j2)) (0 : Int64)) = 0) → Q (some (.int (1 : Int32))) (rx_hp L t hi hl v)))))) : rx_me 175 [.ref 90, .int a0, .int a1, .int a2] (rx_hp L t hi hl v) Q := by
  show rx_aw 175 0 [.ref 90, .int a0, .int a1, .int a2, rx_no, rx_no] [] (rx_hp L t hi hl v) Q
  refine rx_aw_s 15 (pc := 0) rfl ?_
  show rx_aw 175 24 [.ref 90, .int a0, .int a1, .int a2, .int (((402 : Int32) * a0) + a2), .int (((402 : Int32) * a1) + a2)] [.int (((402 : Int32) * a0) + a2), .ref 106] (rx_hp L t hi hl v) Q
  obtain ⟨j1, ej1, hj1, k⟩ := k
  refine rx_aw_lald (pc := 24) (n := 2412) j1 ej1 rfl rfl (by decide) rfl hj1 (by decide) ?_
  show rx_aw 175 25 [.ref 90, .int a0, .int a1, .int a2, .int (((402 : Int32) * a0) + a2), .int (((402 : Int32) * a1) + a2)] [.long (hl 106 j1)] (rx_hp L t hi hl v) Q
  refine rx_aw_s 3 (pc := 25) rfl ?_
  show rx_aw 175 31 [.ref 90, .int a0, .int a1, .int a2, .int (((402 : Int32) * a0) + a2), .int (((402 : Int32) * a1) + a2)] [.int (((402 : Int32) * a1) + a2), .ref 106, .long (hl 106 j1)] (rx_hp L t hi hl v) Q
  obtain ⟨j2, ej2, hj2, k⟩ := k
  refine rx_aw_lald (pc := 31) (n := 2412) j2 ej2 rfl rfl (by decide) rfl hj2 (by decide) ?_
  show rx_aw 175 32 [.ref 90, .int a0, .int a1, .int a2, .int (((402 : Int32) * a0) + a2), .int (((402 : Int32) * a1) + a2)] [.long (hl 106 j2), .long (hl 106 j1)] (rx_hp L t hi hl v) Q
  refine rx_aw_s 4 (pc := 32) rfl ?_
  refine rx_w_ifn (c := (lg_cmp ((hl 106 j1) &&& (hl 106 j2)) (0 : Int64)) = 0) ⟨fun c3 => ?_, fun c3 => ?_⟩
  · have k := k.1 c3
    show rx_aw 175 38 [.ref 90, .int a0, .int a1, .int a2, .int (((402 : Int32) * a0) + a2), .int (((402 : Int32) * a1) + a2)] [] (rx_hp L t hi hl v) Q
    refine rx_aw_s 2 (pc := 38) rfl ?_
    refine rx_w_if (c := a2 ≤ 0) ⟨fun c4 => ?_, fun c4 => ?_⟩
    · have k := k.1 c4
      show rx_aw 175 84 [.ref 90, .int a0, .int a1, .int a2, .int (((402 : Int32) * a0) + a2), .int (((402 : Int32) * a1) + a2)] [] (rx_hp L t hi hl v) Q
      refine rx_aw_s 1 (pc := 84) rfl ?_
      show rx_aw 175 85 [.ref 90, .int a0, .int a1, .int a2, .int (((402 : Int32) * a0) + a2), .int (((402 : Int32) * a1) + a2)] [.int (0 : Int32)] (rx_hp L t hi hl v) Q
      exact rx_aw_ret (pc := 85) rfl k
    · have k := k.2 c4
      show rx_aw 175 42 [.ref 90, .int a0, .int a1, .int a2, .int (((402 : Int32) * a0) + a2), .int (((402 : Int32) * a1) + a2)] [] (rx_hp L t hi hl v) Q
      refine rx_aw_s 5 (pc := 42) rfl ?_
      show rx_aw 175 50 [.ref 90, .int a0, .int a1, .int a2, .int (((402 : Int32) * a0) + a2), .int (((402 : Int32) * a1) + a2)] [.int ((((402 : Int32) * a0) + a2) - (1 : Int32)), .ref 105] (rx_hp L t hi hl v) Q
      obtain ⟨j5, ej5, hj5, k⟩ := k
      refine rx_aw_lald (pc := 50) (n := 2412) j5 ej5 rfl rfl (by decide) rfl hj5 (by decide) ?_
      show rx_aw 175 51 [.ref 90, .int a0, .int a1, .int a2, .int (((402 : Int32) * a0) + a2), .int (((402 : Int32) * a1) + a2)] [.long (hl 105 j5)] (rx_hp L t hi hl v) Q
      refine rx_aw_s 3 (pc := 51) rfl ?_
      show rx_aw 175 57 [.ref 90, .int a0, .int a1, .int a2, .int (((402 : Int32) * a0) + a2), .int (((402 : Int32) * a1) + a2)] [.int (((402 : Int32) * a0) + a2), .ref 105, .long (hl 105 j5)] (rx_hp L t hi hl v) Q
      obtain ⟨j6, ej6, hj6, k⟩ := k
      refine rx_aw_lald (pc := 57) (n := 2412) j6 ej6 rfl rfl (by decide) rfl hj6 (by decide) ?_
      show rx_aw 175 58 [.ref 90, .int a0, .int a1, .int a2, .int (((402 : Int32) * a0) + a2), .int (((402 : Int32) * a1) + a2)] [.long (hl 105 j6), .long (hl 105 j5)] (rx_hp L t hi hl v) Q
      refine rx_aw_s 5 (pc := 58) rfl ?_
      show rx_aw 175 66 [.ref 90, .int a0, .int a1, .int a2, .int (((402 : Int32) * a0) + a2), .int (((402 : Int32) * a1) + a2)] [.int ((((402 : Int32) * a1) + a2) - (1 : Int32)), .ref 105, .long (hl 105 j6), .long (hl 105 j5)] (rx_hp L t hi hl v) Q
      obtain ⟨j7, ej7, hj7, k⟩ := k
      refine rx_aw_lald (pc := 66) (n := 2412) j7 ej7 rfl rfl (by decide) rfl hj7 (by decide) ?_
      show rx_aw 175 67 [.ref 90, .int a0, .int a1, .int a2, .int (((402 : Int32) * a0) + a2), .int (((402 : Int32) * a1) + a2)] [.long (hl 105 j7), .long (hl 105 j6), .long (hl 105 j5)] (rx_hp L t hi hl v) Q
      refine rx_aw_s 3 (pc := 67) rfl ?_
      show rx_aw 175 73 [.ref 90, .int a0, .int a1, .int a2, .int (((402 : Int32) * a0) + a2), .int (((402 : Int32) * a1) + a2)] [.int (((402 : Int32) * a1) + a2), .ref 105, .long (hl 105 j7), .long (hl 105 j6), .long (hl 105 j5)] (rx_hp L t hi hl v) Q
      obtain ⟨j8, ej8, hj8, k⟩ := k
      refine rx_aw_lald (pc := 73) (n := 2412) j8 ej8 rfl rfl (by decide) rfl hj8 (by decide) ?_
      show rx_aw 175 74 [.ref 90, .int a0, .int a1, .int a2, .int (((402 : Int32) * a0) + a2), .int (((402 : Int32) * a1) + a2)] [.long (hl 105 j8), .long (hl 105 j7), .long (hl 105 j6), .long (hl 105 j5)] (rx_hp L t hi hl v) Q
      refine rx_w_callI (j := 176) (pc := 74) rfl rfl rfl rfl rfl ?_
      refine rx_aw.mono k (fun r h2 k => ?_)
      obtain ⟨z9, rfl, hi9, hl9, v9, rfl, k⟩ := k
      refine ⟨z9, rfl, ?_⟩
      show rx_aw 175 77 [.ref 90, .int a0, .int a1, .int a2, .int (((402 : Int32) * a0) + a2), .int (((402 : Int32) * a1) + a2)] [.int z9] (rx_hp L t hi9 hl9 v9) Q
      refine rx_aw_s 1 (pc := 77) rfl ?_
      refine rx_w_if (c := z9 = 0) ⟨fun c10 => ?_, fun c10 => ?_⟩
      · have k := k.1 c10
        show rx_aw 175 84 [.ref 90, .int a0, .int a1, .int a2, .int (((402 : Int32) * a0) + a2), .int (((402 : Int32) * a1) + a2)] [] (rx_hp L t hi9 hl9 v9) Q
        refine rx_aw_s 1 (pc := 84) rfl ?_
        show rx_aw 175 85 [.ref 90, .int a0, .int a1, .int a2, .int (((402 : Int32) * a0) + a2), .int (((402 : Int32) * a1) + a2)] [.int (0 : Int32)] (rx_hp L t hi9 hl9 v9) Q
        exact rx_aw_ret (pc := 85) rfl k
      · have k := k.2 c10
        show rx_aw 175 80 [.ref 90, .int a0, .int a1, .int a2, .int (((402 : Int32) * a0) + a2), .int (((402 : Int32) * a1) + a2)] [] (rx_hp L t hi9 hl9 v9) Q
        refine rx_aw_s 2 (pc := 80) rfl ?_
        show rx_aw 175 85 [.ref 90, .int a0, .int a1, .int a2, .int (((402 : Int32) * a0) + a2), .int (((402 : Int32) * a1) + a2)] [.int (1 : Int32)] (rx_hp L t hi9 hl9 v9) Q
        exact rx_aw_ret (pc := 85) rfl k
  · have k := k.2 c3
    show rx_aw 175 80 [.ref 90, .int a0, .int a1, .int a2, .int (((402 : Int32) * a0) + a2), .int (((402 : Int32) * a1) + a2)] [] (rx_hp L t hi hl v) Q
    refine rx_aw_s 2 (pc := 80) rfl ?_
    show rx_aw 175 85 [.ref 90, .int a0, .int a1, .int a2, .int (((402 : Int32) * a0) + a2), .int (((402 : Int32) * a1) + a2)] [.int (1 : Int32)] (rx_hp L t hi hl v) Q
    exact rx_aw_ret (pc := 85) rfl k
