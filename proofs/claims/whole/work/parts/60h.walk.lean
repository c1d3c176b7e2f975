/-! Methods walked by program (gen/wp.py): what is left to show of each. -/
set_option maxRecDepth 100000 in
/-- CartFloorModel.tell(II)I -/
theorem w212_tell_r {L : Nat} {t : List (Nat × Nat)} {hi : Nat → Nat → Int32} {hl : Nat → Nat → Int64} {v : Nat → Nat → Option Nat} {Q : Option Value → rx_H → Prop} {a0 : Int32} {a1 : Int32} (k : ((a0 < 0 → Q (some (.int (-2 : Int32))) (rx_hp L t hi hl v)) ∧ (¬ (a0 < 0) → (((6 : Int32) < a0 → Q (some (.int (-2 : Int32))) (rx_hp L t hi hl v)) ∧ (¬ ((6 : Int32) < a0) → ((a1 < (1 : Int32) → Q (some (.int (-2 : Int32))) (rx_hp L t hi hl v)) ∧ (¬ (a1 < (1 : Int32)) → (((400 : Int32) < a1 → Q (some (.int (-2 : Int32))) (rx_hp L t hi hl v)) ∧ (¬ ((400 : Int32) < a1) → ((((hi 90 25) + a1) ≤ (400 : Int32) → rx_aw 212 39 [.ref 90, .int a0, .int a1, .int (0 : Int32)] [] (rx_hp L t hi hl v) Q) ∧ (¬ (((hi 90 25) + a1) ≤ (400 : Int32)) → Q (some (.int (-2 : Int32))) (rx_hp L t hi hl v)))))))))))) : rx_me 212 [.ref 90, .int a0, .int a1] (rx_hp L t hi hl v) Q := by
  show rx_aw 212 0 [.ref 90, .int a0, .int a1, rx_no] [] (rx_hp L t hi hl v) Q
  refine rx_aw_s 2 (pc := 0) rfl ?_
  refine rx_w_if (c := a0 < 0) ⟨fun c1 => ?_, fun c1 => ?_⟩
  · have k := k.1 c1
    show rx_aw 212 34 [.ref 90, .int a0, .int a1, rx_no] [] (rx_hp L t hi hl v) Q
    refine rx_aw_s 1 (pc := 34) rfl ?_
    show rx_aw 212 36 [.ref 90, .int a0, .int a1, rx_no] [.int (-2 : Int32)] (rx_hp L t hi hl v) Q
    exact rx_aw_ret (pc := 36) rfl k
  · have k := k.2 c1
    show rx_aw 212 4 [.ref 90, .int a0, .int a1, rx_no] [] (rx_hp L t hi hl v) Q
    refine rx_aw_s 3 (pc := 4) rfl ?_
    refine rx_w_if (c := (6 : Int32) < a0) ⟨fun c2 => ?_, fun c2 => ?_⟩
    · have k := k.1 c2
      show rx_aw 212 34 [.ref 90, .int a0, .int a1, rx_no] [] (rx_hp L t hi hl v) Q
      refine rx_aw_s 1 (pc := 34) rfl ?_
      show rx_aw 212 36 [.ref 90, .int a0, .int a1, rx_no] [.int (-2 : Int32)] (rx_hp L t hi hl v) Q
      exact rx_aw_ret (pc := 36) rfl k
    · have k := k.2 c2
      show rx_aw 212 10 [.ref 90, .int a0, .int a1, rx_no] [] (rx_hp L t hi hl v) Q
      refine rx_aw_s 3 (pc := 10) rfl ?_
      refine rx_w_if (c := a1 < (1 : Int32)) ⟨fun c3 => ?_, fun c3 => ?_⟩
      · have k := k.1 c3
        show rx_aw 212 34 [.ref 90, .int a0, .int a1, rx_no] [] (rx_hp L t hi hl v) Q
        refine rx_aw_s 1 (pc := 34) rfl ?_
        show rx_aw 212 36 [.ref 90, .int a0, .int a1, rx_no] [.int (-2 : Int32)] (rx_hp L t hi hl v) Q
        exact rx_aw_ret (pc := 36) rfl k
      · have k := k.2 c3
        show rx_aw 212 15 [.ref 90, .int a0, .int a1, rx_no] [] (rx_hp L t hi hl v) Q
        refine rx_aw_s 3 (pc := 15) rfl ?_
        refine rx_w_if (c := (400 : Int32) < a1) ⟨fun c4 => ?_, fun c4 => ?_⟩
        · have k := k.1 c4
          show rx_aw 212 34 [.ref 90, .int a0, .int a1, rx_no] [] (rx_hp L t hi hl v) Q
          refine rx_aw_s 1 (pc := 34) rfl ?_
          show rx_aw 212 36 [.ref 90, .int a0, .int a1, rx_no] [.int (-2 : Int32)] (rx_hp L t hi hl v) Q
          exact rx_aw_ret (pc := 36) rfl k
        · have k := k.2 c4
          show rx_aw 212 22 [.ref 90, .int a0, .int a1, rx_no] [] (rx_hp L t hi hl v) Q
          refine rx_aw_s 6 (pc := 22) rfl ?_
          refine rx_w_if (c := ((hi 90 25) + a1) ≤ (400 : Int32)) ⟨fun c5 => ?_, fun c5 => ?_⟩
          · have k := k.1 c5
            show rx_aw 212 37 [.ref 90, .int a0, .int a1, rx_no] [] (rx_hp L t hi hl v) Q
            refine rx_aw_s 2 (pc := 37) rfl ?_
            show rx_aw 212 39 [.ref 90, .int a0, .int a1, .int (0 : Int32)] [] (rx_hp L t hi hl v) Q
            exact k
          · have k := k.2 c5
            show rx_aw 212 34 [.ref 90, .int a0, .int a1, rx_no] [] (rx_hp L t hi hl v) Q
            refine rx_aw_s 1 (pc := 34) rfl ?_
            show rx_aw 212 36 [.ref 90, .int a0, .int a1, rx_no] [.int (-2 : Int32)] (rx_hp L t hi hl v) Q
            exact rx_aw_ret (pc := 36) rfl k
set_option maxRecDepth 100000 in
theorem w212_tell_r_39 {L : Nat} {t : List (Nat × Nat)} {hi : Nat → Nat → Int32} {hl : Nat → Nat → Int64} {v : Nat → Nat → Option Nat} {Q : Option Value → rx_H → Prop} {x1 : Int32} {x2 : Int32} {x3 : Int32} (k : ((x2 ≤ x3 → Q (some (.int (hi 90 25))) (rx_hp L t hi hl v)) ∧ (¬ (x2 ≤ x3) → (∃ j7 : Nat, (hi 90 25) = nI j7 ∧ j7 < 400 ∧ rx_aw 212 39 [.ref 90, .int x1, .int x2, .int (x3 + (1 : Int32))] [] (rx_hp L t (rx_u (rx_u hi 109 j7 x1) 90 25 (((rx_u hi 109 j7 x1) 90 25) + (1 : Int32))) hl v) Q)))) : rx_aw 212 39 [.ref 90, .int x1, .int x2, .int x3] [] (rx_hp L t hi hl v) Q := by
  refine rx_aw_s 3 (pc := 39) rfl ?_
  refine rx_w_if (c := x2 ≤ x3) ⟨fun c6 => ?_, fun c6 => ?_⟩
  · have k := k.1 c6
    show rx_aw 212 70 [.ref 90, .int x1, .int x2, .int x3] [] (rx_hp L t hi hl v) Q
    refine rx_aw_s 2 (pc := 70) rfl ?_
    show rx_aw 212 74 [.ref 90, .int x1, .int x2, .int x3] [.int (hi 90 25)] (rx_hp L t hi hl v) Q
    exact rx_aw_ret (pc := 74) rfl k
  · have k := k.2 c6
    show rx_aw 212 44 [.ref 90, .int x1, .int x2, .int x3] [] (rx_hp L t hi hl v) Q
    refine rx_aw_s 5 (pc := 44) rfl ?_
    show rx_aw 212 53 [.ref 90, .int x1, .int x2, .int x3] [.int x1, .int (hi 90 25), .ref 109] (rx_hp L t hi hl v) Q
    obtain ⟨j7, ej7, hj7, k⟩ := k
    refine rx_aw_iast (pc := 53) (n := 400) j7 ej7 rfl rfl (by decide) rfl hj7 (by decide) ?_
    show rx_aw 212 54 [.ref 90, .int x1, .int x2, .int x3] [] (rx_hp L t (rx_u hi 109 j7 x1) hl v) Q
    refine rx_aw_s 8 (pc := 54) rfl ?_
    show rx_aw 212 39 [.ref 90, .int x1, .int x2, .int (x3 + (1 : Int32))] [] (rx_hp L t (rx_u (rx_u hi 109 j7 x1) 90 25 (((rx_u hi 109 j7 x1) 90 25) + (1 : Int32))) hl v) Q
    exact k
set_option maxRecDepth 100000 in
/-- CartFloorModel.hush()I -/
theorem w213_hush_r {L : Nat} {t : List (Nat × Nat)} {hi : Nat → Nat → Int32} {hl : Nat → Nat → Int64} {v : Nat → Nat → Option Nat} {Q : Option Value → rx_H → Prop}  (k : Q (some (.int (hi 90 25))) (rx_hp L t (rx_u hi 90 25 (0 : Int32)) hl v)) : rx_me 213 [.ref 90] (rx_hp L t hi hl v) Q := by
  show rx_aw 213 0 [.ref 90, rx_no] [] (rx_hp L t hi hl v) Q
  refine rx_aw_s 7 (pc := 0) rfl ?_
  show rx_aw 213 11 [.ref 90, .int (hi 90 25)] [.int (hi 90 25)] (rx_hp L t (rx_u hi 90 25 (0 : Int32)) hl v) Q
  exact rx_aw_ret (pc := 11) rfl k
set_option maxRecDepth 100000 in
/-- CartFloorModel.check(I)I -/
theorem w214_check_r {L : Nat} {t : List (Nat × Nat)} {hi : Nat → Nat → Int32} {hl : Nat → Nat → Int64} {v : Nat → Nat → Option Nat} {Q : Option Value → rx_H → Prop} {a0 : Int32} (k : rx_me 161 [.ref 90, .int a0] (rx_hp L t hi hl v) (fun r h2 => ∃ z1 : Int32, r = some (.int z1) ∧ rx_ok2 L t h2 (fun hi1 hl1 v1 => ((z1 = 0 → Q (some (.int (-2 : Int32))) (rx_hp L t hi1 hl1 v1)) ∧ (¬ (z1 = 0) → rx_me 215 [.ref 90, .int a0] (rx_hp L t hi1 hl1 v1) (fun r h2 => ∃ z3 : Int32, r = some (.int z3) ∧ rx_ok2 L t h2 (fun hi3 hl3 v3 => rx_me 200 [.ref 90, .int (0 : Int32)] (rx_hp L t (rx_u (rx_u hi3 90 36 z3) 90 35 a0) hl3 v3) (fun r h2 => r = none ∧ rx_ok2 L t h2 (fun hi4 hl4 v4 => rx_me 216 [.ref 90, .int a0] (rx_hp L t hi4 hl4 v4) (fun r h2 => r = none ∧ rx_ok2 L t h2 (fun hi5 hl5 v5 => rx_me 191 [.ref 90] (rx_hp L t hi5 hl5 v5) (fun r h2 => r = none ∧ rx_ok2 L t h2 (fun hi6 hl6 v6 => rx_aw 214 48 [.ref 90, .int a0, .int (hi6 90 25), .int (401 : Int32), rx_no] [] (rx_hp L t hi6 hl6 v6) Q))))))))))))) : rx_me 214 [.ref 90, .int a0] (rx_hp L t hi hl v) Q := by
  show rx_aw 214 0 [.ref 90, .int a0, rx_no, rx_no, rx_no] [] (rx_hp L t hi hl v) Q
  refine rx_aw_s 2 (pc := 0) rfl ?_
  show rx_aw 214 2 [.ref 90, .int a0, rx_no, rx_no, rx_no] [.int a0, .ref 90] (rx_hp L t hi hl v) Q
  refine rx_w_callI (j := 161) (pc := 2) rfl rfl rfl rfl rfl ?_
  refine rx_aw.mono k (fun r h2 k => ?_)
  obtain ⟨z1, rfl, hi1, hl1, v1, rfl, k⟩ := k
  refine ⟨z1, rfl, ?_⟩
  show rx_aw 214 5 [.ref 90, .int a0, rx_no, rx_no, rx_no] [.int z1] (rx_hp L t hi1 hl1 v1) Q
  refine rx_aw_s 1 (pc := 5) rfl ?_
  refine rx_w_ifn (c := z1 = 0) ⟨fun c2 => ?_, fun c2 => ?_⟩
  · have k := k.1 c2
    show rx_aw 214 8 [.ref 90, .int a0, rx_no, rx_no, rx_no] [] (rx_hp L t hi1 hl1 v1) Q
    refine rx_aw_s 1 (pc := 8) rfl ?_
    show rx_aw 214 10 [.ref 90, .int a0, rx_no, rx_no, rx_no] [.int (-2 : Int32)] (rx_hp L t hi1 hl1 v1) Q
    exact rx_aw_ret (pc := 10) rfl k
  · have k := k.2 c2
    show rx_aw 214 11 [.ref 90, .int a0, rx_no, rx_no, rx_no] [] (rx_hp L t hi1 hl1 v1) Q
    refine rx_aw_s 3 (pc := 11) rfl ?_
    show rx_aw 214 14 [.ref 90, .int a0, rx_no, rx_no, rx_no] [.int a0, .ref 90, .ref 90] (rx_hp L t hi1 hl1 v1) Q
    refine rx_w_callI (j := 215) (pc := 14) rfl rfl rfl rfl rfl ?_
    refine rx_aw.mono k (fun r h2 k => ?_)
    obtain ⟨z3, rfl, hi3, hl3, v3, rfl, k⟩ := k
    refine ⟨z3, rfl, ?_⟩
    show rx_aw 214 17 [.ref 90, .int a0, rx_no, rx_no, rx_no] [.int z3, .ref 90] (rx_hp L t hi3 hl3 v3) Q
    refine rx_aw_s 6 (pc := 17) rfl ?_
    show rx_aw 214 27 [.ref 90, .int a0, rx_no, rx_no, rx_no] [.int (0 : Int32), .ref 90] (rx_hp L t (rx_u (rx_u hi3 90 36 z3) 90 35 a0) hl3 v3) Q
    refine rx_w_callV (j := 200) (pc := 27) rfl rfl rfl rfl rfl ?_
    refine rx_aw.mono k (fun r h2 k => ?_)
    obtain ⟨rfl, hi4, hl4, v4, rfl, k⟩ := k
    refine ⟨rfl, ?_⟩
    show rx_aw 214 30 [.ref 90, .int a0, rx_no, rx_no, rx_no] [] (rx_hp L t hi4 hl4 v4) Q
    refine rx_aw_s 2 (pc := 30) rfl ?_
    show rx_aw 214 32 [.ref 90, .int a0, rx_no, rx_no, rx_no] [.int a0, .ref 90] (rx_hp L t hi4 hl4 v4) Q
    refine rx_w_callV (j := 216) (pc := 32) rfl rfl rfl rfl rfl ?_
    refine rx_aw.mono k (fun r h2 k => ?_)
    obtain ⟨rfl, hi5, hl5, v5, rfl, k⟩ := k
    refine ⟨rfl, ?_⟩
    show rx_aw 214 35 [.ref 90, .int a0, rx_no, rx_no, rx_no] [] (rx_hp L t hi5 hl5 v5) Q
    refine rx_aw_s 1 (pc := 35) rfl ?_
    show rx_aw 214 36 [.ref 90, .int a0, rx_no, rx_no, rx_no] [.ref 90] (rx_hp L t hi5 hl5 v5) Q
    refine rx_w_callV (j := 191) (pc := 36) rfl rfl rfl rfl rfl ?_
    refine rx_aw.mono k (fun r h2 k => ?_)
    obtain ⟨rfl, hi6, hl6, v6, rfl, k⟩ := k
    refine ⟨rfl, ?_⟩
    show rx_aw 214 39 [.ref 90, .int a0, rx_no, rx_no, rx_no] [] (rx_hp L t hi6 hl6 v6) Q
    refine rx_aw_s 5 (pc := 39) rfl ?_
    show rx_aw 214 48 [.ref 90, .int a0, .int (hi6 90 25), .int (401 : Int32), rx_no] [] (rx_hp L t hi6 hl6 v6) Q
    exact k
set_option maxRecDepth 100000 in
theorem w214_check_r_48 {L : Nat} {t : List (Nat × Nat)} {hi : Nat → Nat → Int32} {hl : Nat → Nat → Int64} {v : Nat → Nat → Option Nat} {Q : Option Value → rx_H → Prop} {x1 : Int32} {x2 : Int32} {x3 : Int32} (k : ((x3 < 0 → rx_me 200 [.ref 90, .int (1 : Int32)] (rx_hp L t (rx_u hi 90 35 (-1 : Int32)) hl v) (fun r h2 => r = none ∧ rx_ok2 L t h2 (fun hi8 hl8 v8 => Q (some (.int x2)) (rx_hp L t hi8 hl8 v8)))) ∧ (¬ (x3 < 0) → ((x3 ≤ 0 → rx_me 173 [.ref 90, .int x1, .int x3] (rx_hp L t hi hl v) (fun r h2 => ∃ z10 : Int32, r = some (.int z10) ∧ rx_ok2 L t h2 (fun hi10 hl10 v10 => ((z10 = 0 → rx_aw 214 48 [.ref 90, .int x1, .int ((-10 : Int32) - x3), .int (x3 + (-1 : Int32)), rx_no] [] (rx_hp L t hi10 hl10 v10) Q) ∧ (¬ (z10 = 0) → rx_me 174 [.ref 90, .int x1, .int x3] (rx_hp L t hi10 hl10 v10) (fun r h2 => ∃ z12 : Int32, r = some (.int z12) ∧ rx_ok2 L t h2 (fun hi12 hl12 v12 => ((z12 = 0 → rx_aw 214 48 [.ref 90, .int x1, .int x2, .int (x3 + (-1 : Int32)), rx_no] [] (rx_hp L t hi12 hl12 v12) Q) ∧ (¬ (z12 = 0) → rx_aw 214 48 [.ref 90, .int x1, .int ((-10 : Int32) - x3), .int (x3 + (-1 : Int32)), rx_no] [] (rx_hp L t hi12 hl12 v12) Q))))))))) ∧ (¬ (x3 ≤ 0) → (((hi 90 25) < x3 → rx_me 173 [.ref 90, .int x1, .int x3] (rx_hp L t hi hl v) (fun r h2 => ∃ z15 : Int32, r = some (.int z15) ∧ rx_ok2 L t h2 (fun hi15 hl15 v15 => ((z15 = 0 → rx_aw 214 48 [.ref 90, .int x1, .int ((-10 : Int32) - x3), .int (x3 + (-1 : Int32)), rx_no] [] (rx_hp L t hi15 hl15 v15) Q) ∧ (¬ (z15 = 0) → rx_me 174 [.ref 90, .int x1, .int x3] (rx_hp L t hi15 hl15 v15) (fun r h2 => ∃ z17 : Int32, r = some (.int z17) ∧ rx_ok2 L t h2 (fun hi17 hl17 v17 => ((z17 = 0 → rx_aw 214 48 [.ref 90, .int x1, .int x2, .int (x3 + (-1 : Int32)), rx_no] [] (rx_hp L t hi17 hl17 v17) Q) ∧ (¬ (z17 = 0) → rx_aw 214 48 [.ref 90, .int x1, .int ((-10 : Int32) - x3), .int (x3 + (-1 : Int32)), rx_no] [] (rx_hp L t hi17 hl17 v17) Q))))))))) ∧ (¬ ((hi 90 25) < x3) → (∃ j19 : Nat, ((((402 : Int32) * x1) + x3) - (1 : Int32)) = nI j19 ∧ j19 < 2412 ∧ (((hi 104 j19) = 0 → rx_aw 214 48 [.ref 90, .int x1, .int ((-10 : Int32) - x3), .int (x3 + (-1 : Int32)), rx_no] [] (rx_hp L t hi hl v) Q) ∧ (¬ ((hi 104 j19) = 0) → rx_me 173 [.ref 90, .int x1, .int x3] (rx_hp L t hi hl v) (fun r h2 => ∃ z21 : Int32, r = some (.int z21) ∧ rx_ok2 L t h2 (fun hi21 hl21 v21 => ((z21 = 0 → rx_aw 214 48 [.ref 90, .int x1, .int ((-10 : Int32) - x3), .int (x3 + (-1 : Int32)), rx_no] [] (rx_hp L t hi21 hl21 v21) Q) ∧ (¬ (z21 = 0) → rx_me 174 [.ref 90, .int x1, .int x3] (rx_hp L t hi21 hl21 v21) (fun r h2 => ∃ z23 : Int32, r = some (.int z23) ∧ rx_ok2 L t h2 (fun hi23 hl23 v23 => ((z23 = 0 → rx_aw 214 48 [.ref 90, .int x1, .int x2, .int (x3 + (-1 : Int32)), rx_no] [] (rx_hp L t hi23 hl23 v23) Q) ∧ (¬ (z23 = 0) → rx_aw 214 48 [.ref 90, .int x1, .int ((-10 : Int32) - x3), .int (x3 + (-1 : Int32)), rx_no] [] (rx_hp L t hi23 hl23 v23) Q)))))))))))))))))) : rx_aw 214 48 [.ref 90, .int x1, .int x2, .int x3, rx_no] [] (rx_hp L t hi hl v) Q := by
  refine rx_aw_s 2 (pc := 48) rfl ?_
  refine rx_w_if (c := x3 < 0) ⟨fun c7 => ?_, fun c7 => ?_⟩
  · have k := k.1 c7
    show rx_aw 214 126 [.ref 90, .int x1, .int x2, .int x3, rx_no] [] (rx_hp L t hi hl v) Q
    refine rx_aw_s 5 (pc := 126) rfl ?_
    show rx_aw 214 133 [.ref 90, .int x1, .int x2, .int x3, rx_no] [.int (1 : Int32), .ref 90] (rx_hp L t (rx_u hi 90 35 (-1 : Int32)) hl v) Q
    refine rx_w_callV (j := 200) (pc := 133) rfl rfl rfl rfl rfl ?_
    refine rx_aw.mono k (fun r h2 k => ?_)
    obtain ⟨rfl, hi8, hl8, v8, rfl, k⟩ := k
    refine ⟨rfl, ?_⟩
    show rx_aw 214 136 [.ref 90, .int x1, .int x2, .int x3, rx_no] [] (rx_hp L t hi8 hl8 v8) Q
    refine rx_aw_s 1 (pc := 136) rfl ?_
    show rx_aw 214 137 [.ref 90, .int x1, .int x2, .int x3, rx_no] [.int x2] (rx_hp L t hi8 hl8 v8) Q
    exact rx_aw_ret (pc := 137) rfl k
  · have k := k.2 c7
    show rx_aw 214 52 [.ref 90, .int x1, .int x2, .int x3, rx_no] [] (rx_hp L t hi hl v) Q
    refine rx_aw_s 2 (pc := 52) rfl ?_
    refine rx_w_if (c := x3 ≤ 0) ⟨fun c9 => ?_, fun c9 => ?_⟩
    · have k := k.1 c9
      show rx_aw 214 81 [.ref 90, .int x1, .int x2, .int x3, rx_no] [] (rx_hp L t hi hl v) Q
      refine rx_aw_s 3 (pc := 81) rfl ?_
      show rx_aw 214 84 [.ref 90, .int x1, .int x2, .int x3, rx_no] [.int x3, .int x1, .ref 90] (rx_hp L t hi hl v) Q
      refine rx_w_callI (j := 173) (pc := 84) rfl rfl rfl rfl rfl ?_
      refine rx_aw.mono k (fun r h2 k => ?_)
      obtain ⟨z10, rfl, hi10, hl10, v10, rfl, k⟩ := k
      refine ⟨z10, rfl, ?_⟩
      show rx_aw 214 87 [.ref 90, .int x1, .int x2, .int x3, rx_no] [.int z10] (rx_hp L t hi10 hl10 v10) Q
      refine rx_aw_s 1 (pc := 87) rfl ?_
      refine rx_w_if (c := z10 = 0) ⟨fun c11 => ?_, fun c11 => ?_⟩
      · have k := k.1 c11
        show rx_aw 214 99 [.ref 90, .int x1, .int x2, .int x3, rx_no] [] (rx_hp L t hi10 hl10 v10) Q
        refine rx_aw_s 12 (pc := 99) rfl ?_
        show rx_aw 214 48 [.ref 90, .int x1, .int ((-10 : Int32) - x3), .int (x3 + (-1 : Int32)), .int (1 : Int32)] [] (rx_hp L t hi10 hl10 v10) Q
        exact rx_aw_le (ls := [.ref 90, .int x1, .int ((-10 : Int32) - x3), .int (x3 + (-1 : Int32)), rx_no]) ⟨Or.inr rfl, ⟨Or.inr rfl, ⟨Or.inr rfl, ⟨Or.inr rfl, ⟨Or.inl rfl, trivial⟩⟩⟩⟩⟩ k
      · have k := k.2 c11
        show rx_aw 214 90 [.ref 90, .int x1, .int x2, .int x3, rx_no] [] (rx_hp L t hi10 hl10 v10) Q
        refine rx_aw_s 3 (pc := 90) rfl ?_
        show rx_aw 214 93 [.ref 90, .int x1, .int x2, .int x3, rx_no] [.int x3, .int x1, .ref 90] (rx_hp L t hi10 hl10 v10) Q
        refine rx_w_callI (j := 174) (pc := 93) rfl rfl rfl rfl rfl ?_
        refine rx_aw.mono k (fun r h2 k => ?_)
        obtain ⟨z12, rfl, hi12, hl12, v12, rfl, k⟩ := k
        refine ⟨z12, rfl, ?_⟩
        show rx_aw 214 96 [.ref 90, .int x1, .int x2, .int x3, rx_no] [.int z12] (rx_hp L t hi12 hl12 v12) Q
        refine rx_aw_s 1 (pc := 96) rfl ?_
        refine rx_w_if (c := z12 = 0) ⟨fun c13 => ?_, fun c13 => ?_⟩
        · have k := k.1 c13
          show rx_aw 214 103 [.ref 90, .int x1, .int x2, .int x3, rx_no] [] (rx_hp L t hi12 hl12 v12) Q
          refine rx_aw_s 8 (pc := 103) rfl ?_
          show rx_aw 214 48 [.ref 90, .int x1, .int x2, .int (x3 + (-1 : Int32)), .int (0 : Int32)] [] (rx_hp L t hi12 hl12 v12) Q
          exact rx_aw_le (ls := [.ref 90, .int x1, .int x2, .int (x3 + (-1 : Int32)), rx_no]) ⟨Or.inr rfl, ⟨Or.inr rfl, ⟨Or.inr rfl, ⟨Or.inr rfl, ⟨Or.inl rfl, trivial⟩⟩⟩⟩⟩ k
        · have k := k.2 c13
          show rx_aw 214 99 [.ref 90, .int x1, .int x2, .int x3, rx_no] [] (rx_hp L t hi12 hl12 v12) Q
          refine rx_aw_s 12 (pc := 99) rfl ?_
          show rx_aw 214 48 [.ref 90, .int x1, .int ((-10 : Int32) - x3), .int (x3 + (-1 : Int32)), .int (1 : Int32)] [] (rx_hp L t hi12 hl12 v12) Q
          exact rx_aw_le (ls := [.ref 90, .int x1, .int ((-10 : Int32) - x3), .int (x3 + (-1 : Int32)), rx_no]) ⟨Or.inr rfl, ⟨Or.inr rfl, ⟨Or.inr rfl, ⟨Or.inr rfl, ⟨Or.inl rfl, trivial⟩⟩⟩⟩⟩ k
    · have k := k.2 c9
      show rx_aw 214 56 [.ref 90, .int x1, .int x2, .int x3, rx_no] [] (rx_hp L t hi hl v) Q
      refine rx_aw_s 4 (pc := 56) rfl ?_
      refine rx_w_if (c := (hi 90 25) < x3) ⟨fun c14 => ?_, fun c14 => ?_⟩
      · have k := k.1 c14
        show rx_aw 214 81 [.ref 90, .int x1, .int x2, .int x3, rx_no] [] (rx_hp L t hi hl v) Q
        refine rx_aw_s 3 (pc := 81) rfl ?_
        show rx_aw 214 84 [.ref 90, .int x1, .int x2, .int x3, rx_no] [.int x3, .int x1, .ref 90] (rx_hp L t hi hl v) Q
        refine rx_w_callI (j := 173) (pc := 84) rfl rfl rfl rfl rfl ?_
        refine rx_aw.mono k (fun r h2 k => ?_)
        obtain ⟨z15, rfl, hi15, hl15, v15, rfl, k⟩ := k
        refine ⟨z15, rfl, ?_⟩
        show rx_aw 214 87 [.ref 90, .int x1, .int x2, .int x3, rx_no] [.int z15] (rx_hp L t hi15 hl15 v15) Q
        refine rx_aw_s 1 (pc := 87) rfl ?_
        refine rx_w_if (c := z15 = 0) ⟨fun c16 => ?_, fun c16 => ?_⟩
        · have k := k.1 c16
          show rx_aw 214 99 [.ref 90, .int x1, .int x2, .int x3, rx_no] [] (rx_hp L t hi15 hl15 v15) Q
          refine rx_aw_s 12 (pc := 99) rfl ?_
          show rx_aw 214 48 [.ref 90, .int x1, .int ((-10 : Int32) - x3), .int (x3 + (-1 : Int32)), .int (1 : Int32)] [] (rx_hp L t hi15 hl15 v15) Q
          exact rx_aw_le (ls := [.ref 90, .int x1, .int ((-10 : Int32) - x3), .int (x3 + (-1 : Int32)), rx_no]) ⟨Or.inr rfl, ⟨Or.inr rfl, ⟨Or.inr rfl, ⟨Or.inr rfl, ⟨Or.inl rfl, trivial⟩⟩⟩⟩⟩ k
        · have k := k.2 c16
          show rx_aw 214 90 [.ref 90, .int x1, .int x2, .int x3, rx_no] [] (rx_hp L t hi15 hl15 v15) Q
          refine rx_aw_s 3 (pc := 90) rfl ?_
          show rx_aw 214 93 [.ref 90, .int x1, .int x2, .int x3, rx_no] [.int x3, .int x1, .ref 90] (rx_hp L t hi15 hl15 v15) Q
          refine rx_w_callI (j := 174) (pc := 93) rfl rfl rfl rfl rfl ?_
          refine rx_aw.mono k (fun r h2 k => ?_)
          obtain ⟨z17, rfl, hi17, hl17, v17, rfl, k⟩ := k
          refine ⟨z17, rfl, ?_⟩
          show rx_aw 214 96 [.ref 90, .int x1, .int x2, .int x3, rx_no] [.int z17] (rx_hp L t hi17 hl17 v17) Q
          refine rx_aw_s 1 (pc := 96) rfl ?_
          refine rx_w_if (c := z17 = 0) ⟨fun c18 => ?_, fun c18 => ?_⟩
          · have k := k.1 c18
            show rx_aw 214 103 [.ref 90, .int x1, .int x2, .int x3, rx_no] [] (rx_hp L t hi17 hl17 v17) Q
            refine rx_aw_s 8 (pc := 103) rfl ?_
            show rx_aw 214 48 [.ref 90, .int x1, .int x2, .int (x3 + (-1 : Int32)), .int (0 : Int32)] [] (rx_hp L t hi17 hl17 v17) Q
            exact rx_aw_le (ls := [.ref 90, .int x1, .int x2, .int (x3 + (-1 : Int32)), rx_no]) ⟨Or.inr rfl, ⟨Or.inr rfl, ⟨Or.inr rfl, ⟨Or.inr rfl, ⟨Or.inl rfl, trivial⟩⟩⟩⟩⟩ k
          · have k := k.2 c18
            show rx_aw 214 99 [.ref 90, .int x1, .int x2, .int x3, rx_no] [] (rx_hp L t hi17 hl17 v17) Q
            refine rx_aw_s 12 (pc := 99) rfl ?_
            show rx_aw 214 48 [.ref 90, .int x1, .int ((-10 : Int32) - x3), .int (x3 + (-1 : Int32)), .int (1 : Int32)] [] (rx_hp L t hi17 hl17 v17) Q
            exact rx_aw_le (ls := [.ref 90, .int x1, .int ((-10 : Int32) - x3), .int (x3 + (-1 : Int32)), rx_no]) ⟨Or.inr rfl, ⟨Or.inr rfl, ⟨Or.inr rfl, ⟨Or.inr rfl, ⟨Or.inl rfl, trivial⟩⟩⟩⟩⟩ k
      · have k := k.2 c14
        show rx_aw 214 64 [.ref 90, .int x1, .int x2, .int x3, rx_no] [] (rx_hp L t hi hl v) Q
        refine rx_aw_s 9 (pc := 64) rfl ?_
        show rx_aw 214 77 [.ref 90, .int x1, .int x2, .int x3, rx_no] [.int ((((402 : Int32) * x1) + x3) - (1 : Int32)), .ref 104] (rx_hp L t hi hl v) Q
        obtain ⟨j19, ej19, hj19, k⟩ := k
        refine rx_aw_bald (pc := 77) (n := 2412) j19 ej19 rfl (Or.inr rfl) (by decide) rfl hj19 (by decide) ?_
        show rx_aw 214 78 [.ref 90, .int x1, .int x2, .int x3, rx_no] [.int (hi 104 j19)] (rx_hp L t hi hl v) Q
        refine rx_aw_s 1 (pc := 78) rfl ?_
        refine rx_w_if (c := (hi 104 j19) = 0) ⟨fun c20 => ?_, fun c20 => ?_⟩
        · have k := k.1 c20
          show rx_aw 214 99 [.ref 90, .int x1, .int x2, .int x3, rx_no] [] (rx_hp L t hi hl v) Q
          refine rx_aw_s 12 (pc := 99) rfl ?_
          show rx_aw 214 48 [.ref 90, .int x1, .int ((-10 : Int32) - x3), .int (x3 + (-1 : Int32)), .int (1 : Int32)] [] (rx_hp L t hi hl v) Q
          exact rx_aw_le (ls := [.ref 90, .int x1, .int ((-10 : Int32) - x3), .int (x3 + (-1 : Int32)), rx_no]) ⟨Or.inr rfl, ⟨Or.inr rfl, ⟨Or.inr rfl, ⟨Or.inr rfl, ⟨Or.inl rfl, trivial⟩⟩⟩⟩⟩ k
        · have k := k.2 c20
          show rx_aw 214 81 [.ref 90, .int x1, .int x2, .int x3, rx_no] [] (rx_hp L t hi hl v) Q
          refine rx_aw_s 3 (pc := 81) rfl ?_
          show rx_aw 214 84 [.ref 90, .int x1, .int x2, .int x3, rx_no] [.int x3, .int x1, .ref 90] (rx_hp L t hi hl v) Q
          refine rx_w_callI (j := 173) (pc := 84) rfl rfl rfl rfl rfl ?_
          refine rx_aw.mono k (fun r h2 k => ?_)
          obtain ⟨z21, rfl, hi21, hl21, v21, rfl, k⟩ := k
          refine ⟨z21, rfl, ?_⟩
          show rx_aw 214 87 [.ref 90, .int x1, .int x2, .int x3, rx_no] [.int z21] (rx_hp L t hi21 hl21 v21) Q
          refine rx_aw_s 1 (pc := 87) rfl ?_
          refine rx_w_if (c := z21 = 0) ⟨fun c22 => ?_, fun c22 => ?_⟩
          · have k := k.1 c22
            show rx_aw 214 99 [.ref 90, .int x1, .int x2, .int x3, rx_no] [] (rx_hp L t hi21 hl21 v21) Q
            refine rx_aw_s 12 (pc := 99) rfl ?_
            show rx_aw 214 48 [.ref 90, .int x1, .int ((-10 : Int32) - x3), .int (x3 + (-1 : Int32)), .int (1 : Int32)] [] (rx_hp L t hi21 hl21 v21) Q
            exact rx_aw_le (ls := [.ref 90, .int x1, .int ((-10 : Int32) - x3), .int (x3 + (-1 : Int32)), rx_no]) ⟨Or.inr rfl, ⟨Or.inr rfl, ⟨Or.inr rfl, ⟨Or.inr rfl, ⟨Or.inl rfl, trivial⟩⟩⟩⟩⟩ k
          · have k := k.2 c22
            show rx_aw 214 90 [.ref 90, .int x1, .int x2, .int x3, rx_no] [] (rx_hp L t hi21 hl21 v21) Q
            refine rx_aw_s 3 (pc := 90) rfl ?_
            show rx_aw 214 93 [.ref 90, .int x1, .int x2, .int x3, rx_no] [.int x3, .int x1, .ref 90] (rx_hp L t hi21 hl21 v21) Q
            refine rx_w_callI (j := 174) (pc := 93) rfl rfl rfl rfl rfl ?_
            refine rx_aw.mono k (fun r h2 k => ?_)
            obtain ⟨z23, rfl, hi23, hl23, v23, rfl, k⟩ := k
            refine ⟨z23, rfl, ?_⟩
            show rx_aw 214 96 [.ref 90, .int x1, .int x2, .int x3, rx_no] [.int z23] (rx_hp L t hi23 hl23 v23) Q
            refine rx_aw_s 1 (pc := 96) rfl ?_
            refine rx_w_if (c := z23 = 0) ⟨fun c24 => ?_, fun c24 => ?_⟩
            · have k := k.1 c24
              show rx_aw 214 103 [.ref 90, .int x1, .int x2, .int x3, rx_no] [] (rx_hp L t hi23 hl23 v23) Q
              refine rx_aw_s 8 (pc := 103) rfl ?_
              show rx_aw 214 48 [.ref 90, .int x1, .int x2, .int (x3 + (-1 : Int32)), .int (0 : Int32)] [] (rx_hp L t hi23 hl23 v23) Q
              exact rx_aw_le (ls := [.ref 90, .int x1, .int x2, .int (x3 + (-1 : Int32)), rx_no]) ⟨Or.inr rfl, ⟨Or.inr rfl, ⟨Or.inr rfl, ⟨Or.inr rfl, ⟨Or.inl rfl, trivial⟩⟩⟩⟩⟩ k
            · have k := k.2 c24
              show rx_aw 214 99 [.ref 90, .int x1, .int x2, .int x3, rx_no] [] (rx_hp L t hi23 hl23 v23) Q
              refine rx_aw_s 12 (pc := 99) rfl ?_
              show rx_aw 214 48 [.ref 90, .int x1, .int ((-10 : Int32) - x3), .int (x3 + (-1 : Int32)), .int (1 : Int32)] [] (rx_hp L t hi23 hl23 v23) Q
              exact rx_aw_le (ls := [.ref 90, .int x1, .int ((-10 : Int32) - x3), .int (x3 + (-1 : Int32)), rx_no]) ⟨Or.inr rfl, ⟨Or.inr rfl, ⟨Or.inr rfl, ⟨Or.inr rfl, ⟨Or.inl rfl, trivial⟩⟩⟩⟩⟩ k
set_option maxRecDepth 100000 in
/-- CartFloorModel.carriedBesides(I)I -/
theorem w215_carriedBesides_r {L : Nat} {t : List (Nat × Nat)} {hi : Nat → Nat → Int32} {hl : Nat → Nat → Int64} {v : Nat → Nat → Option Nat} {Q : Option Value → rx_H → Prop} {a0 : Int32} (k : rx_aw 215 4 [.ref 90, .int a0, .int (0 : Int32), .int (0 : Int32), rx_no, rx_no] [] (rx_hp L t hi hl v) Q) : rx_me 215 [.ref 90, .int a0] (rx_hp L t hi hl v) Q := by
  show rx_aw 215 0 [.ref 90, .int a0, rx_no, rx_no, rx_no, rx_no] [] (rx_hp L t hi hl v) Q
  refine rx_aw_s 4 (pc := 0) rfl ?_
  show rx_aw 215 4 [.ref 90, .int a0, .int (0 : Int32), .int (0 : Int32), rx_no, rx_no] [] (rx_hp L t hi hl v) Q
  exact k
set_option maxRecDepth 100000 in
theorem w215_carriedBesides_r_4 {L : Nat} {t : List (Nat × Nat)} {hi : Nat → Nat → Int32} {hl : Nat → Nat → Int64} {v : Nat → Nat → Option Nat} {Q : Option Value → rx_H → Prop} {x1 : Int32} {x2 : Int32} {x3 : Int32} (k : (((hi 90 6) ≤ x3 → Q (some (.int x2)) (rx_hp L t hi hl v)) ∧ (¬ ((hi 90 6) ≤ x3) → rx_aw 215 15 [.ref 90, .int x1, .int x2, .int x3, .int (0 : Int32), rx_no] [] (rx_hp L t hi hl v) Q))) : rx_aw 215 4 [.ref 90, .int x1, .int x2, .int x3, rx_no, rx_no] [] (rx_hp L t hi hl v) Q := by
  refine rx_aw_s 4 (pc := 4) rfl ?_
  refine rx_w_if (c := (hi 90 6) ≤ x3) ⟨fun c1 => ?_, fun c1 => ?_⟩
  · have k := k.1 c1
    show rx_aw 215 71 [.ref 90, .int x1, .int x2, .int x3, rx_no, rx_no] [] (rx_hp L t hi hl v) Q
    refine rx_aw_s 1 (pc := 71) rfl ?_
    show rx_aw 215 72 [.ref 90, .int x1, .int x2, .int x3, rx_no, rx_no] [.int x2] (rx_hp L t hi hl v) Q
    exact rx_aw_ret (pc := 72) rfl k
  · have k := k.2 c1
    show rx_aw 215 12 [.ref 90, .int x1, .int x2, .int x3, rx_no, rx_no] [] (rx_hp L t hi hl v) Q
    refine rx_aw_s 2 (pc := 12) rfl ?_
    show rx_aw 215 15 [.ref 90, .int x1, .int x2, .int x3, .int (0 : Int32), rx_no] [] (rx_hp L t hi hl v) Q
    exact k
set_option maxRecDepth 100000 in
theorem w215_carriedBesides_r_15 {L : Nat} {t : List (Nat × Nat)} {hi : Nat → Nat → Int32} {hl : Nat → Nat → Int64} {v : Nat → Nat → Option Nat} {Q : Option Value → rx_H → Prop} {x1 : Int32} {x2 : Int32} {x3 : Int32} {x4 : Int32} (k : (((402 : Int32) ≤ x4 → rx_aw 215 4 [.ref 90, .int x1, .int x2, .int (x3 + (1 : Int32)), rx_no, rx_no] [] (rx_hp L t hi hl v) Q) ∧ (¬ ((402 : Int32) ≤ x4) → (∃ j3 : Nat, (((402 : Int32) * x3) + x4) = nI j3 ∧ j3 < 2412 ∧ ((x3 = x1 → rx_aw 215 15 [.ref 90, .int x1, .int (x2 ||| (0 : Int32)), .int x3, .int (x4 + (1 : Int32)), rx_no] [] (rx_hp L t hi hl v) Q) ∧ (¬ (x3 = x1) → (((hi 103 j3) < 0 → rx_aw 215 15 [.ref 90, .int x1, .int (x2 ||| (0 : Int32)), .int x3, .int (x4 + (1 : Int32)), rx_no] [] (rx_hp L t hi hl v) Q) ∧ (¬ ((hi 103 j3) < 0) → rx_aw 215 15 [.ref 90, .int x1, .int (x2 ||| ((1 : Int32) <<< ((hi 103 j3) &&& 31))), .int x3, .int (x4 + (1 : Int32)), rx_no] [] (rx_hp L t hi hl v) Q)))))))) : rx_aw 215 15 [.ref 90, .int x1, .int x2, .int x3, .int x4, rx_no] [] (rx_hp L t hi hl v) Q := by
  refine rx_aw_s 3 (pc := 15) rfl ?_
  refine rx_w_if (c := (402 : Int32) ≤ x4) ⟨fun c2 => ?_, fun c2 => ?_⟩
  · have k := k.1 c2
    show rx_aw 215 65 [.ref 90, .int x1, .int x2, .int x3, .int x4, rx_no] [] (rx_hp L t hi hl v) Q
    refine rx_aw_s 2 (pc := 65) rfl ?_
    show rx_aw 215 4 [.ref 90, .int x1, .int x2, .int (x3 + (1 : Int32)), .int x4, rx_no] [] (rx_hp L t hi hl v) Q
    exact rx_aw_le (ls := [.ref 90, .int x1, .int x2, .int (x3 + (1 : Int32)), rx_no, rx_no]) ⟨Or.inr rfl, ⟨Or.inr rfl, ⟨Or.inr rfl, ⟨Or.inr rfl, ⟨Or.inl rfl, ⟨Or.inl rfl, trivial⟩⟩⟩⟩⟩⟩ k
  · have k := k.2 c2
    show rx_aw 215 23 [.ref 90, .int x1, .int x2, .int x3, .int x4, rx_no] [] (rx_hp L t hi hl v) Q
    refine rx_aw_s 7 (pc := 23) rfl ?_
    show rx_aw 215 35 [.ref 90, .int x1, .int x2, .int x3, .int x4, rx_no] [.int (((402 : Int32) * x3) + x4), .ref 103] (rx_hp L t hi hl v) Q
    obtain ⟨j3, ej3, hj3, k⟩ := k
    refine rx_aw_iald (pc := 35) (n := 2412) j3 ej3 rfl rfl rfl hj3 (by decide) ?_
    show rx_aw 215 36 [.ref 90, .int x1, .int x2, .int x3, .int x4, rx_no] [.int (hi 103 j3)] (rx_hp L t hi hl v) Q
    refine rx_aw_s 5 (pc := 36) rfl ?_
    refine rx_w_if (c := x3 = x1) ⟨fun c4 => ?_, fun c4 => ?_⟩
    · have k := k.1 c4
      show rx_aw 215 56 [.ref 90, .int x1, .int x2, .int x3, .int x4, .int (hi 103 j3)] [.int x2] (rx_hp L t hi hl v) Q
      refine rx_aw_s 5 (pc := 56) rfl ?_
      show rx_aw 215 15 [.ref 90, .int x1, .int (x2 ||| (0 : Int32)), .int x3, .int (x4 + (1 : Int32)), .int (hi 103 j3)] [] (rx_hp L t hi hl v) Q
      exact rx_aw_le (ls := [.ref 90, .int x1, .int (x2 ||| (0 : Int32)), .int x3, .int (x4 + (1 : Int32)), rx_no]) ⟨Or.inr rfl, ⟨Or.inr rfl, ⟨Or.inr rfl, ⟨Or.inr rfl, ⟨Or.inr rfl, ⟨Or.inl rfl, trivial⟩⟩⟩⟩⟩⟩ k
    · have k := k.2 c4
      show rx_aw 215 44 [.ref 90, .int x1, .int x2, .int x3, .int x4, .int (hi 103 j3)] [.int x2] (rx_hp L t hi hl v) Q
      refine rx_aw_s 2 (pc := 44) rfl ?_
      refine rx_w_if (c := (hi 103 j3) < 0) ⟨fun c5 => ?_, fun c5 => ?_⟩
      · have k := k.1 c5
        show rx_aw 215 56 [.ref 90, .int x1, .int x2, .int x3, .int x4, .int (hi 103 j3)] [.int x2] (rx_hp L t hi hl v) Q
        refine rx_aw_s 5 (pc := 56) rfl ?_
        show rx_aw 215 15 [.ref 90, .int x1, .int (x2 ||| (0 : Int32)), .int x3, .int (x4 + (1 : Int32)), .int (hi 103 j3)] [] (rx_hp L t hi hl v) Q
        exact rx_aw_le (ls := [.ref 90, .int x1, .int (x2 ||| (0 : Int32)), .int x3, .int (x4 + (1 : Int32)), rx_no]) ⟨Or.inr rfl, ⟨Or.inr rfl, ⟨Or.inr rfl, ⟨Or.inr rfl, ⟨Or.inr rfl, ⟨Or.inl rfl, trivial⟩⟩⟩⟩⟩⟩ k
      · have k := k.2 c5
        show rx_aw 215 49 [.ref 90, .int x1, .int x2, .int x3, .int x4, .int (hi 103 j3)] [.int x2] (rx_hp L t hi hl v) Q
        refine rx_aw_s 8 (pc := 49) rfl ?_
        show rx_aw 215 15 [.ref 90, .int x1, .int (x2 ||| ((1 : Int32) <<< ((hi 103 j3) &&& 31))), .int x3, .int (x4 + (1 : Int32)), .int (hi 103 j3)] [] (rx_hp L t hi hl v) Q
        exact rx_aw_le (ls := [.ref 90, .int x1, .int (x2 ||| ((1 : Int32) <<< ((hi 103 j3) &&& 31))), .int x3, .int (x4 + (1 : Int32)), rx_no]) ⟨Or.inr rfl, ⟨Or.inr rfl, ⟨Or.inr rfl, ⟨Or.inr rfl, ⟨Or.inr rfl, ⟨Or.inl rfl, trivial⟩⟩⟩⟩⟩⟩ k
set_option maxRecDepth 100000 in
/-- CartFloorModel.follow(I)V -/
theorem w216_follow_r {L : Nat} {t : List (Nat × Nat)} {hi : Nat → Nat → Int32} {hl : Nat → Nat → Int64} {v : Nat → Nat → Option Nat} {Q : Option Value → rx_H → Prop} {a0 : Int32} (k : rx_aw 216 2 [.ref 90, .int a0, .int (0 : Int32)] [] (rx_hp L t hi hl v) Q) : rx_me 216 [.ref 90, .int a0] (rx_hp L t hi hl v) Q := by
  show rx_aw 216 0 [.ref 90, .int a0, rx_no] [] (rx_hp L t hi hl v) Q
  refine rx_aw_s 2 (pc := 0) rfl ?_
  show rx_aw 216 2 [.ref 90, .int a0, .int (0 : Int32)] [] (rx_hp L t hi hl v) Q
  exact k
set_option maxRecDepth 100000 in
theorem w216_follow_r_2 {L : Nat} {t : List (Nat × Nat)} {hi : Nat → Nat → Int32} {hl : Nat → Nat → Int64} {v : Nat → Nat → Option Nat} {Q : Option Value → rx_H → Prop} {x1 : Int32} {x2 : Int32} (k : (((hi 90 25) ≤ x2 → (∃ j2 : Nat, x1 = nI j2 ∧ j2 < 6 ∧ Q none (rx_hp L t (rx_u hi 94 j2 (hi 90 25)) hl v))) ∧ (¬ ((hi 90 25) ≤ x2) → (∃ j3 : Nat, x2 = nI j3 ∧ j3 < 400 ∧ (∃ j4 : Nat, (((400 : Int32) * x1) + x2) = nI j4 ∧ j4 < 2400 ∧ rx_aw 216 2 [.ref 90, .int x1, .int (x2 + (1 : Int32))] [] (rx_hp L t (rx_u hi 95 j4 (hi 109 j3)) hl v) Q))))) : rx_aw 216 2 [.ref 90, .int x1, .int x2] [] (rx_hp L t hi hl v) Q := by
  refine rx_aw_s 4 (pc := 2) rfl ?_
  refine rx_w_if (c := (hi 90 25) ≤ x2) ⟨fun c1 => ?_, fun c1 => ?_⟩
  · have k := k.1 c1
    show rx_aw 216 34 [.ref 90, .int x1, .int x2] [] (rx_hp L t hi hl v) Q
    refine rx_aw_s 5 (pc := 34) rfl ?_
    show rx_aw 216 43 [.ref 90, .int x1, .int x2] [.int (hi 90 25), .int x1, .ref 94] (rx_hp L t hi hl v) Q
    obtain ⟨j2, ej2, hj2, k⟩ := k
    refine rx_aw_iast (pc := 43) (n := 6) j2 ej2 rfl rfl (by decide) rfl hj2 (by decide) ?_
    show rx_aw 216 44 [.ref 90, .int x1, .int x2] [] (rx_hp L t (rx_u hi 94 j2 (hi 90 25)) hl v) Q
    exact rx_aw_ret (pc := 44) rfl k
  · have k := k.2 c1
    show rx_aw 216 10 [.ref 90, .int x1, .int x2] [] (rx_hp L t hi hl v) Q
    refine rx_aw_s 10 (pc := 10) rfl ?_
    show rx_aw 216 26 [.ref 90, .int x1, .int x2] [.int x2, .ref 109, .int (((400 : Int32) * x1) + x2), .ref 95] (rx_hp L t hi hl v) Q
    obtain ⟨j3, ej3, hj3, k⟩ := k
    refine rx_aw_iald (pc := 26) (n := 400) j3 ej3 rfl rfl rfl hj3 (by decide) ?_
    show rx_aw 216 27 [.ref 90, .int x1, .int x2] [.int (hi 109 j3), .int (((400 : Int32) * x1) + x2), .ref 95] (rx_hp L t hi hl v) Q
    obtain ⟨j4, ej4, hj4, k⟩ := k
    refine rx_aw_iast (pc := 27) (n := 2400) j4 ej4 rfl rfl (by decide) rfl hj4 (by decide) ?_
    show rx_aw 216 28 [.ref 90, .int x1, .int x2] [] (rx_hp L t (rx_u hi 95 j4 (hi 109 j3)) hl v) Q
    refine rx_aw_s 2 (pc := 28) rfl ?_
    show rx_aw 216 2 [.ref 90, .int x1, .int (x2 + (1 : Int32))] [] (rx_hp L t (rx_u hi 95 j4 (hi 109 j3)) hl v) Q
    exact k
set_option maxRecDepth 100000 in
/-- CartFloorModel.guest(I)I -/
theorem w217_guest_r {L : Nat} {t : List (Nat × Nat)} {hi : Nat → Nat → Int32} {hl : Nat → Nat → Int64} {v : Nat → Nat → Option Nat} {Q : Option Value → rx_H → Prop} {a0 : Int32} (k : rx_me 161 [.ref 90, .int a0] (rx_hp L t hi hl v) (fun r h2 => ∃ z1 : Int32, r = some (.int z1) ∧ rx_ok2 L t h2 (fun hi1 hl1 v1 => ((z1 = 0 → Q (some (.int (-2 : Int32))) (rx_hp L t hi1 hl1 v1)) ∧ (¬ (z1 = 0) → (∃ j3 : Nat, a0 = nI j3 ∧ j3 < 6 ∧ (((hi1 93 j3) = (3 : Int32) → (∃ j5 : Nat, a0 = nI j5 ∧ j5 < 6 ∧ (((hi1 94 j5) ≤ 0 → rx_aw 217 32 [.ref 90, .int a0, .int (0 : Int32)] [] (rx_hp L t hi1 hl1 v1) Q) ∧ (¬ ((hi1 94 j5) ≤ 0) → Q (some (.int (-2 : Int32))) (rx_hp L t hi1 hl1 v1))))) ∧ (¬ ((hi1 93 j3) = (3 : Int32)) → Q (some (.int (-2 : Int32))) (rx_hp L t hi1 hl1 v1))))))))) : rx_me 217 [.ref 90, .int a0] (rx_hp L t hi hl v) Q := by
  show rx_aw 217 0 [.ref 90, .int a0, rx_no] [] (rx_hp L t hi hl v) Q
  refine rx_aw_s 2 (pc := 0) rfl ?_
  show rx_aw 217 2 [.ref 90, .int a0, rx_no] [.int a0, .ref 90] (rx_hp L t hi hl v) Q
  refine rx_w_callI (j := 161) (pc := 2) rfl rfl rfl rfl rfl ?_
  refine rx_aw.mono k (fun r h2 k => ?_)
  obtain ⟨z1, rfl, hi1, hl1, v1, rfl, k⟩ := k
  refine ⟨z1, rfl, ?_⟩
  show rx_aw 217 5 [.ref 90, .int a0, rx_no] [.int z1] (rx_hp L t hi1 hl1 v1) Q
  refine rx_aw_s 1 (pc := 5) rfl ?_
  refine rx_w_if (c := z1 = 0) ⟨fun c2 => ?_, fun c2 => ?_⟩
  · have k := k.1 c2
    show rx_aw 217 27 [.ref 90, .int a0, rx_no] [] (rx_hp L t hi1 hl1 v1) Q
    refine rx_aw_s 1 (pc := 27) rfl ?_
    show rx_aw 217 29 [.ref 90, .int a0, rx_no] [.int (-2 : Int32)] (rx_hp L t hi1 hl1 v1) Q
    exact rx_aw_ret (pc := 29) rfl k
  · have k := k.2 c2
    show rx_aw 217 8 [.ref 90, .int a0, rx_no] [] (rx_hp L t hi1 hl1 v1) Q
    refine rx_aw_s 3 (pc := 8) rfl ?_
    show rx_aw 217 13 [.ref 90, .int a0, rx_no] [.int a0, .ref 93] (rx_hp L t hi1 hl1 v1) Q
    obtain ⟨j3, ej3, hj3, k⟩ := k
    refine rx_aw_iald (pc := 13) (n := 6) j3 ej3 rfl rfl rfl hj3 (by decide) ?_
    show rx_aw 217 14 [.ref 90, .int a0, rx_no] [.int (hi1 93 j3)] (rx_hp L t hi1 hl1 v1) Q
    refine rx_aw_s 2 (pc := 14) rfl ?_
    refine rx_w_ifn (c := (hi1 93 j3) = (3 : Int32)) ⟨fun c4 => ?_, fun c4 => ?_⟩
    · have k := k.1 c4
      show rx_aw 217 18 [.ref 90, .int a0, rx_no] [] (rx_hp L t hi1 hl1 v1) Q
      refine rx_aw_s 3 (pc := 18) rfl ?_
      show rx_aw 217 23 [.ref 90, .int a0, rx_no] [.int a0, .ref 94] (rx_hp L t hi1 hl1 v1) Q
      obtain ⟨j5, ej5, hj5, k⟩ := k
      refine rx_aw_iald (pc := 23) (n := 6) j5 ej5 rfl rfl rfl hj5 (by decide) ?_
      show rx_aw 217 24 [.ref 90, .int a0, rx_no] [.int (hi1 94 j5)] (rx_hp L t hi1 hl1 v1) Q
      refine rx_aw_s 1 (pc := 24) rfl ?_
      refine rx_w_if (c := (hi1 94 j5) ≤ 0) ⟨fun c6 => ?_, fun c6 => ?_⟩
      · have k := k.1 c6
        show rx_aw 217 30 [.ref 90, .int a0, rx_no] [] (rx_hp L t hi1 hl1 v1) Q
        refine rx_aw_s 2 (pc := 30) rfl ?_
        show rx_aw 217 32 [.ref 90, .int a0, .int (0 : Int32)] [] (rx_hp L t hi1 hl1 v1) Q
        exact k
      · have k := k.2 c6
        show rx_aw 217 27 [.ref 90, .int a0, rx_no] [] (rx_hp L t hi1 hl1 v1) Q
        refine rx_aw_s 1 (pc := 27) rfl ?_
        show rx_aw 217 29 [.ref 90, .int a0, rx_no] [.int (-2 : Int32)] (rx_hp L t hi1 hl1 v1) Q
        exact rx_aw_ret (pc := 29) rfl k
    · have k := k.2 c4
      show rx_aw 217 27 [.ref 90, .int a0, rx_no] [] (rx_hp L t hi1 hl1 v1) Q
      refine rx_aw_s 1 (pc := 27) rfl ?_
      show rx_aw 217 29 [.ref 90, .int a0, rx_no] [.int (-2 : Int32)] (rx_hp L t hi1 hl1 v1) Q
      exact rx_aw_ret (pc := 29) rfl k
set_option maxRecDepth 100000 in
theorem w217_guest_r_32 {L : Nat} {t : List (Nat × Nat)} {hi : Nat → Nat → Int32} {hl : Nat → Nat → Int64} {v : Nat → Nat → Option Nat} {Q : Option Value → rx_H → Prop} {x1 : Int32} {x2 : Int32} (k : (((hi 90 6) ≤ x2 → rx_me 214 [.ref 90, .int x1] (rx_hp L t hi hl v) (fun r h2 => ∃ z8 : Int32, r = some (.int z8) ∧ rx_ok2 L t h2 (fun hi8 hl8 v8 => ((z8 < 0 → Q (some (.int z8)) (rx_hp L t hi8 hl8 v8)) ∧ (¬ (z8 < 0) → rx_me 216 [.ref 90, .int x1] (rx_hp L t hi8 hl8 v8) (fun r h2 => r = none ∧ rx_ok2 L t h2 (fun hi10 hl10 v10 => rx_me 191 [.ref 90] (rx_hp L t hi10 hl10 v10) (fun r h2 => r = none ∧ rx_ok2 L t h2 (fun hi11 hl11 v11 => Q (some (.int z8)) (rx_hp L t hi11 hl11 v11)))))))))) ∧ (¬ ((hi 90 6) ≤ x2) → (∃ j12 : Nat, x2 = nI j12 ∧ j12 < 6 ∧ (((hi 93 j12) = (3 : Int32) → rx_aw 217 32 [.ref 90, .int x1, .int (x2 + (1 : Int32))] [] (rx_hp L t hi hl v) Q) ∧ (¬ ((hi 93 j12) = (3 : Int32)) → (∃ j14 : Nat, x2 = nI j14 ∧ j14 < 6 ∧ (((hi 94 j14) ≤ 0 → rx_aw 217 32 [.ref 90, .int x1, .int (x2 + (1 : Int32))] [] (rx_hp L t hi hl v) Q) ∧ (¬ ((hi 94 j14) ≤ 0) → Q (some (.int (-2 : Int32))) (rx_hp L t hi hl v)))))))))) : rx_aw 217 32 [.ref 90, .int x1, .int x2] [] (rx_hp L t hi hl v) Q := by
  refine rx_aw_s 4 (pc := 32) rfl ?_
  refine rx_w_if (c := (hi 90 6) ≤ x2) ⟨fun c7 => ?_, fun c7 => ?_⟩
  · have k := k.1 c7
    show rx_aw 217 68 [.ref 90, .int x1, .int x2] [] (rx_hp L t hi hl v) Q
    refine rx_aw_s 2 (pc := 68) rfl ?_
    show rx_aw 217 70 [.ref 90, .int x1, .int x2] [.int x1, .ref 90] (rx_hp L t hi hl v) Q
    refine rx_w_callI (j := 214) (pc := 70) rfl rfl rfl rfl rfl ?_
    refine rx_aw.mono k (fun r h2 k => ?_)
    obtain ⟨z8, rfl, hi8, hl8, v8, rfl, k⟩ := k
    refine ⟨z8, rfl, ?_⟩
    show rx_aw 217 73 [.ref 90, .int x1, .int x2] [.int z8] (rx_hp L t hi8 hl8 v8) Q
    refine rx_aw_s 3 (pc := 73) rfl ?_
    refine rx_w_if (c := z8 < 0) ⟨fun c9 => ?_, fun c9 => ?_⟩
    · have k := k.1 c9
      show rx_aw 217 87 [.ref 90, .int x1, .int z8] [] (rx_hp L t hi8 hl8 v8) Q
      refine rx_aw_s 1 (pc := 87) rfl ?_
      show rx_aw 217 88 [.ref 90, .int x1, .int z8] [.int z8] (rx_hp L t hi8 hl8 v8) Q
      exact rx_aw_ret (pc := 88) rfl k
    · have k := k.2 c9
      show rx_aw 217 78 [.ref 90, .int x1, .int z8] [] (rx_hp L t hi8 hl8 v8) Q
      refine rx_aw_s 2 (pc := 78) rfl ?_
      show rx_aw 217 80 [.ref 90, .int x1, .int z8] [.int x1, .ref 90] (rx_hp L t hi8 hl8 v8) Q
      refine rx_w_callV (j := 216) (pc := 80) rfl rfl rfl rfl rfl ?_
      refine rx_aw.mono k (fun r h2 k => ?_)
      obtain ⟨rfl, hi10, hl10, v10, rfl, k⟩ := k
      refine ⟨rfl, ?_⟩
      show rx_aw 217 83 [.ref 90, .int x1, .int z8] [] (rx_hp L t hi10 hl10 v10) Q
      refine rx_aw_s 1 (pc := 83) rfl ?_
      show rx_aw 217 84 [.ref 90, .int x1, .int z8] [.ref 90] (rx_hp L t hi10 hl10 v10) Q
      refine rx_w_callV (j := 191) (pc := 84) rfl rfl rfl rfl rfl ?_
      refine rx_aw.mono k (fun r h2 k => ?_)
      obtain ⟨rfl, hi11, hl11, v11, rfl, k⟩ := k
      refine ⟨rfl, ?_⟩
      show rx_aw 217 87 [.ref 90, .int x1, .int z8] [] (rx_hp L t hi11 hl11 v11) Q
      refine rx_aw_s 1 (pc := 87) rfl ?_
      show rx_aw 217 88 [.ref 90, .int x1, .int z8] [.int z8] (rx_hp L t hi11 hl11 v11) Q
      exact rx_aw_ret (pc := 88) rfl k
  · have k := k.2 c7
    show rx_aw 217 40 [.ref 90, .int x1, .int x2] [] (rx_hp L t hi hl v) Q
    refine rx_aw_s 3 (pc := 40) rfl ?_
    show rx_aw 217 45 [.ref 90, .int x1, .int x2] [.int x2, .ref 93] (rx_hp L t hi hl v) Q
    obtain ⟨j12, ej12, hj12, k⟩ := k
    refine rx_aw_iald (pc := 45) (n := 6) j12 ej12 rfl rfl rfl hj12 (by decide) ?_
    show rx_aw 217 46 [.ref 90, .int x1, .int x2] [.int (hi 93 j12)] (rx_hp L t hi hl v) Q
    refine rx_aw_s 2 (pc := 46) rfl ?_
    refine rx_w_if (c := (hi 93 j12) = (3 : Int32)) ⟨fun c13 => ?_, fun c13 => ?_⟩
    · have k := k.1 c13
      show rx_aw 217 62 [.ref 90, .int x1, .int x2] [] (rx_hp L t hi hl v) Q
      refine rx_aw_s 2 (pc := 62) rfl ?_
      show rx_aw 217 32 [.ref 90, .int x1, .int (x2 + (1 : Int32))] [] (rx_hp L t hi hl v) Q
      exact k
    · have k := k.2 c13
      show rx_aw 217 50 [.ref 90, .int x1, .int x2] [] (rx_hp L t hi hl v) Q
      refine rx_aw_s 3 (pc := 50) rfl ?_
      show rx_aw 217 55 [.ref 90, .int x1, .int x2] [.int x2, .ref 94] (rx_hp L t hi hl v) Q
      obtain ⟨j14, ej14, hj14, k⟩ := k
      refine rx_aw_iald (pc := 55) (n := 6) j14 ej14 rfl rfl rfl hj14 (by decide) ?_
      show rx_aw 217 56 [.ref 90, .int x1, .int x2] [.int (hi 94 j14)] (rx_hp L t hi hl v) Q
      refine rx_aw_s 1 (pc := 56) rfl ?_
      refine rx_w_if (c := (hi 94 j14) ≤ 0) ⟨fun c15 => ?_, fun c15 => ?_⟩
      · have k := k.1 c15
        show rx_aw 217 62 [.ref 90, .int x1, .int x2] [] (rx_hp L t hi hl v) Q
        refine rx_aw_s 2 (pc := 62) rfl ?_
        show rx_aw 217 32 [.ref 90, .int x1, .int (x2 + (1 : Int32))] [] (rx_hp L t hi hl v) Q
        exact k
      · have k := k.2 c15
        show rx_aw 217 59 [.ref 90, .int x1, .int x2] [] (rx_hp L t hi hl v) Q
        refine rx_aw_s 1 (pc := 59) rfl ?_
        show rx_aw 217 61 [.ref 90, .int x1, .int x2] [.int (-2 : Int32)] (rx_hp L t hi hl v) Q
        exact rx_aw_ret (pc := 61) rfl k
set_option maxRecDepth 100000 in
/-- CartFloorModel.at(III)I -/
theorem w218_at_r {L : Nat} {t : List (Nat × Nat)} {hi : Nat → Nat → Int32} {hl : Nat → Nat → Int64} {v : Nat → Nat → Option Nat} {Q : Option Value → rx_H → Prop} {a0 : Int32} {a1 : Int32} {a2 : Int32} (k : rx_me 161 [.ref 90, .int a0] (rx_hp L t hi hl v) (fun r h2 => ∃ z1 : Int32, r = some (.int z1) ∧ rx_ok2 L t h2 (fun hi1 hl1 v1 => ((z1 = 0 → Q (some (.int (-2 : Int32))) (rx_hp L t hi1 hl1 v1)) ∧ (¬ (z1 = 0) → ((a1 < 0 → Q (some (.int (-2 : Int32))) (rx_hp L t hi1 hl1 v1)) ∧ (¬ (a1 < 0) → ((a2 < 0 → Q (some (.int (-2 : Int32))) (rx_hp L t hi1 hl1 v1)) ∧ (¬ (a2 < 0) → ((a2 ≤ (3 : Int32) → rx_me 219 [.int a1] (rx_hp L t hi1 hl1 v1) (fun r h2 => ∃ z6 : Int32, r = some (.int z6) ∧ rx_ok2 L t h2 (fun hi6 hl6 v6 => ((a2 = 0 → (∃ j8 : Nat, (((402 : Int32) * a0) + z6) = nI j8 ∧ j8 < 2412 ∧ Q (some (.int (hi6 101 j8))) (rx_hp L t hi6 hl6 v6))) ∧ (¬ (a2 = 0) → ((a2 = (1 : Int32) → (∃ j10 : Nat, (((402 : Int32) * a0) + z6) = nI j10 ∧ j10 < 2412 ∧ Q (some (.int (hi6 102 j10))) (rx_hp L t hi6 hl6 v6))) ∧ (¬ (a2 = (1 : Int32)) → ((a2 = (2 : Int32) → (∃ j12 : Nat, (((402 : Int32) * a0) + z6) = nI j12 ∧ j12 < 2412 ∧ Q (some (.int (hi6 103 j12))) (rx_hp L t hi6 hl6 v6))) ∧ (¬ (a2 = (2 : Int32)) → rx_me 194 [.ref 90, .int a0, .int a1] (rx_hp L t hi6 hl6 v6) (fun r h2 => ∃ z13 : Int32, r = some (.int z13) ∧ rx_ok2 L t h2 (fun hi13 hl13 v13 => Q (some (.int z13)) (rx_hp L t hi13 hl13 v13)))))))))))) ∧ (¬ (a2 ≤ (3 : Int32)) → Q (some (.int (-2 : Int32))) (rx_hp L t hi1 hl1 v1)))))))))))) : rx_me 218 [.ref 90, .int a0, .int a1, .int a2] (rx_hp L t hi hl v) Q := by
  show rx_aw 218 0 [.ref 90, .int a0, .int a1, .int a2, rx_no] [] (rx_hp L t hi hl v) Q
  refine rx_aw_s 2 (pc := 0) rfl ?_
  show rx_aw 218 2 [.ref 90, .int a0, .int a1, .int a2, rx_no] [.int a0, .ref 90] (rx_hp L t hi hl v) Q
  refine rx_w_callI (j := 161) (pc := 2) rfl rfl rfl rfl rfl ?_
  refine rx_aw.mono k (fun r h2 k => ?_)
  obtain ⟨z1, rfl, hi1, hl1, v1, rfl, k⟩ := k
  refine ⟨z1, rfl, ?_⟩
  show rx_aw 218 5 [.ref 90, .int a0, .int a1, .int a2, rx_no] [.int z1] (rx_hp L t hi1 hl1 v1) Q
  refine rx_aw_s 1 (pc := 5) rfl ?_
  refine rx_w_if (c := z1 = 0) ⟨fun c2 => ?_, fun c2 => ?_⟩
  · have k := k.1 c2
    show rx_aw 218 21 [.ref 90, .int a0, .int a1, .int a2, rx_no] [] (rx_hp L t hi1 hl1 v1) Q
    refine rx_aw_s 1 (pc := 21) rfl ?_
    show rx_aw 218 23 [.ref 90, .int a0, .int a1, .int a2, rx_no] [.int (-2 : Int32)] (rx_hp L t hi1 hl1 v1) Q
    exact rx_aw_ret (pc := 23) rfl k
  · have k := k.2 c2
    show rx_aw 218 8 [.ref 90, .int a0, .int a1, .int a2, rx_no] [] (rx_hp L t hi1 hl1 v1) Q
    refine rx_aw_s 2 (pc := 8) rfl ?_
    refine rx_w_if (c := a1 < 0) ⟨fun c3 => ?_, fun c3 => ?_⟩
    · have k := k.1 c3
      show rx_aw 218 21 [.ref 90, .int a0, .int a1, .int a2, rx_no] [] (rx_hp L t hi1 hl1 v1) Q
      refine rx_aw_s 1 (pc := 21) rfl ?_
      show rx_aw 218 23 [.ref 90, .int a0, .int a1, .int a2, rx_no] [.int (-2 : Int32)] (rx_hp L t hi1 hl1 v1) Q
      exact rx_aw_ret (pc := 23) rfl k
    · have k := k.2 c3
      show rx_aw 218 12 [.ref 90, .int a0, .int a1, .int a2, rx_no] [] (rx_hp L t hi1 hl1 v1) Q
      refine rx_aw_s 2 (pc := 12) rfl ?_
      refine rx_w_if (c := a2 < 0) ⟨fun c4 => ?_, fun c4 => ?_⟩
      · have k := k.1 c4
        show rx_aw 218 21 [.ref 90, .int a0, .int a1, .int a2, rx_no] [] (rx_hp L t hi1 hl1 v1) Q
        refine rx_aw_s 1 (pc := 21) rfl ?_
        show rx_aw 218 23 [.ref 90, .int a0, .int a1, .int a2, rx_no] [.int (-2 : Int32)] (rx_hp L t hi1 hl1 v1) Q
        exact rx_aw_ret (pc := 23) rfl k
      · have k := k.2 c4
        show rx_aw 218 16 [.ref 90, .int a0, .int a1, .int a2, rx_no] [] (rx_hp L t hi1 hl1 v1) Q
        refine rx_aw_s 3 (pc := 16) rfl ?_
        refine rx_w_if (c := a2 ≤ (3 : Int32)) ⟨fun c5 => ?_, fun c5 => ?_⟩
        · have k := k.1 c5
          show rx_aw 218 24 [.ref 90, .int a0, .int a1, .int a2, rx_no] [] (rx_hp L t hi1 hl1 v1) Q
          refine rx_aw_s 4 (pc := 24) rfl ?_
          show rx_aw 218 30 [.ref 90, .int a0, .int a1, .int a2, rx_no] [.int a1, .int ((402 : Int32) * a0)] (rx_hp L t hi1 hl1 v1) Q
          refine rx_w_callI (j := 219) (pc := 30) rfl rfl rfl rfl rfl ?_
          refine rx_aw.mono k (fun r h2 k => ?_)
          obtain ⟨z6, rfl, hi6, hl6, v6, rfl, k⟩ := k
          refine ⟨z6, rfl, ?_⟩
          show rx_aw 218 33 [.ref 90, .int a0, .int a1, .int a2, rx_no] [.int z6, .int ((402 : Int32) * a0)] (rx_hp L t hi6 hl6 v6) Q
          refine rx_aw_s 4 (pc := 33) rfl ?_
          refine rx_w_ifn (c := a2 = 0) ⟨fun c7 => ?_, fun c7 => ?_⟩
          · have k := k.1 c7
            show rx_aw 218 40 [.ref 90, .int a0, .int a1, .int a2, .int (((402 : Int32) * a0) + z6)] [] (rx_hp L t hi6 hl6 v6) Q
            refine rx_aw_s 3 (pc := 40) rfl ?_
            show rx_aw 218 46 [.ref 90, .int a0, .int a1, .int a2, .int (((402 : Int32) * a0) + z6)] [.int (((402 : Int32) * a0) + z6), .ref 101] (rx_hp L t hi6 hl6 v6) Q
            obtain ⟨j8, ej8, hj8, k⟩ := k
            refine rx_aw_iald (pc := 46) (n := 2412) j8 ej8 rfl rfl rfl hj8 (by decide) ?_
            show rx_aw 218 47 [.ref 90, .int a0, .int a1, .int a2, .int (((402 : Int32) * a0) + z6)] [.int (hi6 101 j8)] (rx_hp L t hi6 hl6 v6) Q
            refine rx_aw_s 1 (pc := 47) rfl ?_
            show rx_aw 218 86 [.ref 90, .int a0, .int a1, .int a2, .int (((402 : Int32) * a0) + z6)] [.int (hi6 101 j8)] (rx_hp L t hi6 hl6 v6) Q
            exact rx_aw_ret (pc := 86) rfl k
          · have k := k.2 c7
            show rx_aw 218 50 [.ref 90, .int a0, .int a1, .int a2, .int (((402 : Int32) * a0) + z6)] [] (rx_hp L t hi6 hl6 v6) Q
            refine rx_aw_s 3 (pc := 50) rfl ?_
            refine rx_w_ifn (c := a2 = (1 : Int32)) ⟨fun c9 => ?_, fun c9 => ?_⟩
            · have k := k.1 c9
              show rx_aw 218 55 [.ref 90, .int a0, .int a1, .int a2, .int (((402 : Int32) * a0) + z6)] [] (rx_hp L t hi6 hl6 v6) Q
              refine rx_aw_s 3 (pc := 55) rfl ?_
              show rx_aw 218 61 [.ref 90, .int a0, .int a1, .int a2, .int (((402 : Int32) * a0) + z6)] [.int (((402 : Int32) * a0) + z6), .ref 102] (rx_hp L t hi6 hl6 v6) Q
              obtain ⟨j10, ej10, hj10, k⟩ := k
              refine rx_aw_iald (pc := 61) (n := 2412) j10 ej10 rfl rfl rfl hj10 (by decide) ?_
              show rx_aw 218 62 [.ref 90, .int a0, .int a1, .int a2, .int (((402 : Int32) * a0) + z6)] [.int (hi6 102 j10)] (rx_hp L t hi6 hl6 v6) Q
              refine rx_aw_s 1 (pc := 62) rfl ?_
              show rx_aw 218 86 [.ref 90, .int a0, .int a1, .int a2, .int (((402 : Int32) * a0) + z6)] [.int (hi6 102 j10)] (rx_hp L t hi6 hl6 v6) Q
              exact rx_aw_ret (pc := 86) rfl k
            · have k := k.2 c9
              show rx_aw 218 65 [.ref 90, .int a0, .int a1, .int a2, .int (((402 : Int32) * a0) + z6)] [] (rx_hp L t hi6 hl6 v6) Q
              refine rx_aw_s 3 (pc := 65) rfl ?_
              refine rx_w_ifn (c := a2 = (2 : Int32)) ⟨fun c11 => ?_, fun c11 => ?_⟩
              · have k := k.1 c11
                show rx_aw 218 70 [.ref 90, .int a0, .int a1, .int a2, .int (((402 : Int32) * a0) + z6)] [] (rx_hp L t hi6 hl6 v6) Q
                refine rx_aw_s 3 (pc := 70) rfl ?_
                show rx_aw 218 76 [.ref 90, .int a0, .int a1, .int a2, .int (((402 : Int32) * a0) + z6)] [.int (((402 : Int32) * a0) + z6), .ref 103] (rx_hp L t hi6 hl6 v6) Q
                obtain ⟨j12, ej12, hj12, k⟩ := k
                refine rx_aw_iald (pc := 76) (n := 2412) j12 ej12 rfl rfl rfl hj12 (by decide) ?_
                show rx_aw 218 77 [.ref 90, .int a0, .int a1, .int a2, .int (((402 : Int32) * a0) + z6)] [.int (hi6 103 j12)] (rx_hp L t hi6 hl6 v6) Q
                refine rx_aw_s 1 (pc := 77) rfl ?_
                show rx_aw 218 86 [.ref 90, .int a0, .int a1, .int a2, .int (((402 : Int32) * a0) + z6)] [.int (hi6 103 j12)] (rx_hp L t hi6 hl6 v6) Q
                exact rx_aw_ret (pc := 86) rfl k
              · have k := k.2 c11
                show rx_aw 218 80 [.ref 90, .int a0, .int a1, .int a2, .int (((402 : Int32) * a0) + z6)] [] (rx_hp L t hi6 hl6 v6) Q
                refine rx_aw_s 3 (pc := 80) rfl ?_
                show rx_aw 218 83 [.ref 90, .int a0, .int a1, .int a2, .int (((402 : Int32) * a0) + z6)] [.int a1, .int a0, .ref 90] (rx_hp L t hi6 hl6 v6) Q
                refine rx_w_callI (j := 194) (pc := 83) rfl rfl rfl rfl rfl ?_
                refine rx_aw.mono k (fun r h2 k => ?_)
                obtain ⟨z13, rfl, hi13, hl13, v13, rfl, k⟩ := k
                refine ⟨z13, rfl, ?_⟩
                show rx_aw 218 86 [.ref 90, .int a0, .int a1, .int a2, .int (((402 : Int32) * a0) + z6)] [.int z13] (rx_hp L t hi13 hl13 v13) Q
                exact rx_aw_ret (pc := 86) rfl k
        · have k := k.2 c5
          show rx_aw 218 21 [.ref 90, .int a0, .int a1, .int a2, rx_no] [] (rx_hp L t hi1 hl1 v1) Q
          refine rx_aw_s 1 (pc := 21) rfl ?_
          show rx_aw 218 23 [.ref 90, .int a0, .int a1, .int a2, rx_no] [.int (-2 : Int32)] (rx_hp L t hi1 hl1 v1) Q
          exact rx_aw_ret (pc := 23) rfl k
set_option maxRecDepth 100000 in
/-- CartFloorModel.tickOf(I)I -/
theorem w219_tickOf_r {L : Nat} {t : List (Nat × Nat)} {hi : Nat → Nat → Int32} {hl : Nat → Nat → Int64} {v : Nat → Nat → Option Nat} {Q : Option Value → rx_H → Prop} {a0 : Int32} (k : ((a0 < (402 : Int32) → Q (some (.int a0)) (rx_hp L t hi hl v)) ∧ (¬ (a0 < (402 : Int32)) → Q (some (.int (401 : Int32))) (rx_hp L t hi hl v)))) : rx_me 219 [.int a0] (rx_hp L t hi hl v) Q := by
  show rx_aw 219 0 [.int a0] [] (rx_hp L t hi hl v) Q
  refine rx_aw_s 3 (pc := 0) rfl ?_
  refine rx_w_if (c := a0 < (402 : Int32)) ⟨fun c1 => ?_, fun c1 => ?_⟩
  · have k := k.1 c1
    show rx_aw 219 13 [.int a0] [] (rx_hp L t hi hl v) Q
    refine rx_aw_s 1 (pc := 13) rfl ?_
    show rx_aw 219 14 [.int a0] [.int a0] (rx_hp L t hi hl v) Q
    exact rx_aw_ret (pc := 14) rfl k
  · have k := k.2 c1
    show rx_aw 219 7 [.int a0] [] (rx_hp L t hi hl v) Q
    refine rx_aw_s 2 (pc := 7) rfl ?_
    show rx_aw 219 14 [.int a0] [.int (401 : Int32)] (rx_hp L t hi hl v) Q
    exact rx_aw_ret (pc := 14) rfl k
set_option maxRecDepth 100000 in
/-- CartFloorModel.shelved(II)I -/
theorem w220_shelved_r {L : Nat} {t : List (Nat × Nat)} {hi : Nat → Nat → Int32} {hl : Nat → Nat → Int64} {v : Nat → Nat → Option Nat} {Q : Option Value → rx_H → Prop} {a0 : Int32} {a1 : Int32} (k : ((a0 < 0 → Q (some (.int (-2 : Int32))) (rx_hp L t hi hl v)) ∧ (¬ (a0 < 0) → (((hi 90 21) ≤ a0 → Q (some (.int (-2 : Int32))) (rx_hp L t hi hl v)) ∧ (¬ ((hi 90 21) ≤ a0) → ((0 ≤ a1 → rx_me 219 [.int a1] (rx_hp L t hi hl v) (fun r h2 => ∃ z4 : Int32, r = some (.int z4) ∧ rx_ok2 L t h2 (fun hi4 hl4 v4 => (∃ j5 : Nat, (((402 : Int32) * a0) + z4) = nI j5 ∧ j5 < 4824 ∧ Q (some (.int (hi4 108 j5))) (rx_hp L t hi4 hl4 v4))))) ∧ (¬ (0 ≤ a1) → Q (some (.int (-2 : Int32))) (rx_hp L t hi hl v)))))))) : rx_me 220 [.ref 90, .int a0, .int a1] (rx_hp L t hi hl v) Q := by
  show rx_aw 220 0 [.ref 90, .int a0, .int a1] [] (rx_hp L t hi hl v) Q
  refine rx_aw_s 2 (pc := 0) rfl ?_
  refine rx_w_if (c := a0 < 0) ⟨fun c1 => ?_, fun c1 => ?_⟩
  · have k := k.1 c1
    show rx_aw 220 16 [.ref 90, .int a0, .int a1] [] (rx_hp L t hi hl v) Q
    refine rx_aw_s 2 (pc := 16) rfl ?_
    show rx_aw 220 36 [.ref 90, .int a0, .int a1] [.int (-2 : Int32)] (rx_hp L t hi hl v) Q
    exact rx_aw_ret (pc := 36) rfl k
  · have k := k.2 c1
    show rx_aw 220 4 [.ref 90, .int a0, .int a1] [] (rx_hp L t hi hl v) Q
    refine rx_aw_s 4 (pc := 4) rfl ?_
    refine rx_w_if (c := (hi 90 21) ≤ a0) ⟨fun c2 => ?_, fun c2 => ?_⟩
    · have k := k.1 c2
      show rx_aw 220 16 [.ref 90, .int a0, .int a1] [] (rx_hp L t hi hl v) Q
      refine rx_aw_s 2 (pc := 16) rfl ?_
      show rx_aw 220 36 [.ref 90, .int a0, .int a1] [.int (-2 : Int32)] (rx_hp L t hi hl v) Q
      exact rx_aw_ret (pc := 36) rfl k
    · have k := k.2 c2
      show rx_aw 220 12 [.ref 90, .int a0, .int a1] [] (rx_hp L t hi hl v) Q
      refine rx_aw_s 2 (pc := 12) rfl ?_
      refine rx_w_if (c := 0 ≤ a1) ⟨fun c3 => ?_, fun c3 => ?_⟩
      · have k := k.1 c3
        show rx_aw 220 21 [.ref 90, .int a0, .int a1] [] (rx_hp L t hi hl v) Q
        refine rx_aw_s 6 (pc := 21) rfl ?_
        show rx_aw 220 31 [.ref 90, .int a0, .int a1] [.int a1, .int ((402 : Int32) * a0), .ref 108] (rx_hp L t hi hl v) Q
        refine rx_w_callI (j := 219) (pc := 31) rfl rfl rfl rfl rfl ?_
        refine rx_aw.mono k (fun r h2 k => ?_)
        obtain ⟨z4, rfl, hi4, hl4, v4, rfl, k⟩ := k
        refine ⟨z4, rfl, ?_⟩
        show rx_aw 220 34 [.ref 90, .int a0, .int a1] [.int z4, .int ((402 : Int32) * a0), .ref 108] (rx_hp L t hi4 hl4 v4) Q
        refine rx_aw_s 1 (pc := 34) rfl ?_
        show rx_aw 220 35 [.ref 90, .int a0, .int a1] [.int (((402 : Int32) * a0) + z4), .ref 108] (rx_hp L t hi4 hl4 v4) Q
        obtain ⟨j5, ej5, hj5, k⟩ := k
        refine rx_aw_iald (pc := 35) (n := 4824) j5 ej5 rfl rfl rfl hj5 (by decide) ?_
        show rx_aw 220 36 [.ref 90, .int a0, .int a1] [.int (hi4 108 j5)] (rx_hp L t hi4 hl4 v4) Q
        exact rx_aw_ret (pc := 36) rfl k
      · have k := k.2 c3
        show rx_aw 220 16 [.ref 90, .int a0, .int a1] [] (rx_hp L t hi hl v) Q
        refine rx_aw_s 2 (pc := 16) rfl ?_
        show rx_aw 220 36 [.ref 90, .int a0, .int a1] [.int (-2 : Int32)] (rx_hp L t hi hl v) Q
        exact rx_aw_ret (pc := 36) rfl k
set_option maxRecDepth 100000 in
/-- CartFloorModel.turnsIn(I)I -/
theorem w222_turnsIn_r {L : Nat} {t : List (Nat × Nat)} {hi : Nat → Nat → Int32} {hl : Nat → Nat → Int64} {v : Nat → Nat → Option Nat} {Q : Option Value → rx_H → Prop} {a0 : Int32} (k : rx_aw 222 4 [.ref 90, .int a0, .int (0 : Int32), .int (0 : Int32), rx_no] [] (rx_hp L t hi hl v) Q) : rx_me 222 [.ref 90, .int a0] (rx_hp L t hi hl v) Q := by
  show rx_aw 222 0 [.ref 90, .int a0, rx_no, rx_no, rx_no] [] (rx_hp L t hi hl v) Q
  refine rx_aw_s 4 (pc := 0) rfl ?_
  show rx_aw 222 4 [.ref 90, .int a0, .int (0 : Int32), .int (0 : Int32), rx_no] [] (rx_hp L t hi hl v) Q
  exact k
set_option maxRecDepth 100000 in
theorem w222_turnsIn_r_4 {L : Nat} {t : List (Nat × Nat)} {hi : Nat → Nat → Int32} {hl : Nat → Nat → Int64} {v : Nat → Nat → Option Nat} {Q : Option Value → rx_H → Prop} {x1 : Int32} {x2 : Int32} {x3 : Int32} (k : (∃ j1 : Nat, x1 = nI j1 ∧ j1 < 6 ∧ (((hi 94 j1) ≤ x3 → Q (some (.int x2)) (rx_hp L t hi hl v)) ∧ (¬ ((hi 94 j1) ≤ x3) → rx_me 194 [.ref 90, .int x1, .int x3] (rx_hp L t hi hl v) (fun r h2 => ∃ z3 : Int32, r = some (.int z3) ∧ rx_ok2 L t h2 (fun hi3 hl3 v3 => (((4 : Int32) < z3 → rx_aw 222 4 [.ref 90, .int x1, .int (x2 + (0 : Int32)), .int (x3 + (1 : Int32)), rx_no] [] (rx_hp L t hi3 hl3 v3) Q) ∧ (¬ ((4 : Int32) < z3) → (∃ j5 : Nat, x1 = nI j5 ∧ j5 < 6 ∧ (∃ j6 : Nat, (((402 : Int32) * x1) + x3) = nI j6 ∧ j6 < 2412 ∧ rx_me 189 [.ref 90, .int (hi3 93 j5), .int (hi3 102 j6), .int z3] (rx_hp L t hi3 hl3 v3) (fun r h2 => ∃ z7 : Int32, r = some (.int z7) ∧ rx_ok2 L t h2 (fun hi7 hl7 v7 => rx_aw 222 4 [.ref 90, .int x1, .int (x2 + z7), .int (x3 + (1 : Int32)), rx_no] [] (rx_hp L t hi7 hl7 v7) Q)))))))))))) : rx_aw 222 4 [.ref 90, .int x1, .int x2, .int x3, rx_no] [] (rx_hp L t hi hl v) Q := by
  refine rx_aw_s 4 (pc := 4) rfl ?_
  show rx_aw 222 10 [.ref 90, .int x1, .int x2, .int x3, rx_no] [.int x1, .ref 94, .int x3] (rx_hp L t hi hl v) Q
  obtain ⟨j1, ej1, hj1, k⟩ := k
  refine rx_aw_iald (pc := 10) (n := 6) j1 ej1 rfl rfl rfl hj1 (by decide) ?_
  show rx_aw 222 11 [.ref 90, .int x1, .int x2, .int x3, rx_no] [.int (hi 94 j1), .int x3] (rx_hp L t hi hl v) Q
  refine rx_aw_s 1 (pc := 11) rfl ?_
  refine rx_w_if (c := (hi 94 j1) ≤ x3) ⟨fun c2 => ?_, fun c2 => ?_⟩
  · have k := k.1 c2
    show rx_aw 222 65 [.ref 90, .int x1, .int x2, .int x3, rx_no] [] (rx_hp L t hi hl v) Q
    refine rx_aw_s 1 (pc := 65) rfl ?_
    show rx_aw 222 66 [.ref 90, .int x1, .int x2, .int x3, rx_no] [.int x2] (rx_hp L t hi hl v) Q
    exact rx_aw_ret (pc := 66) rfl k
  · have k := k.2 c2
    show rx_aw 222 14 [.ref 90, .int x1, .int x2, .int x3, rx_no] [] (rx_hp L t hi hl v) Q
    refine rx_aw_s 3 (pc := 14) rfl ?_
    show rx_aw 222 17 [.ref 90, .int x1, .int x2, .int x3, rx_no] [.int x3, .int x1, .ref 90] (rx_hp L t hi hl v) Q
    refine rx_w_callI (j := 194) (pc := 17) rfl rfl rfl rfl rfl ?_
    refine rx_aw.mono k (fun r h2 k => ?_)
    obtain ⟨z3, rfl, hi3, hl3, v3, rfl, k⟩ := k
    refine ⟨z3, rfl, ?_⟩
    show rx_aw 222 20 [.ref 90, .int x1, .int x2, .int x3, rx_no] [.int z3] (rx_hp L t hi3 hl3 v3) Q
    refine rx_aw_s 5 (pc := 20) rfl ?_
    refine rx_w_if (c := (4 : Int32) < z3) ⟨fun c4 => ?_, fun c4 => ?_⟩
    · have k := k.1 c4
      show rx_aw 222 56 [.ref 90, .int x1, .int x2, .int x3, .int z3] [.int x2] (rx_hp L t hi3 hl3 v3) Q
      refine rx_aw_s 5 (pc := 56) rfl ?_
      show rx_aw 222 4 [.ref 90, .int x1, .int (x2 + (0 : Int32)), .int (x3 + (1 : Int32)), .int z3] [] (rx_hp L t hi3 hl3 v3) Q
      exact rx_aw_le (ls := [.ref 90, .int x1, .int (x2 + (0 : Int32)), .int (x3 + (1 : Int32)), rx_no]) ⟨Or.inr rfl, ⟨Or.inr rfl, ⟨Or.inr rfl, ⟨Or.inr rfl, ⟨Or.inl rfl, trivial⟩⟩⟩⟩⟩ k
    · have k := k.2 c4
      show rx_aw 222 29 [.ref 90, .int x1, .int x2, .int x3, .int z3] [.int x2] (rx_hp L t hi3 hl3 v3) Q
      refine rx_aw_s 4 (pc := 29) rfl ?_
      show rx_aw 222 35 [.ref 90, .int x1, .int x2, .int x3, .int z3] [.int x1, .ref 93, .ref 90, .int x2] (rx_hp L t hi3 hl3 v3) Q
      obtain ⟨j5, ej5, hj5, k⟩ := k
      refine rx_aw_iald (pc := 35) (n := 6) j5 ej5 rfl rfl rfl hj5 (by decide) ?_
      show rx_aw 222 36 [.ref 90, .int x1, .int x2, .int x3, .int z3] [.int (hi3 93 j5), .ref 90, .int x2] (rx_hp L t hi3 hl3 v3) Q
      refine rx_aw_s 7 (pc := 36) rfl ?_
      show rx_aw 222 47 [.ref 90, .int x1, .int x2, .int x3, .int z3] [.int (((402 : Int32) * x1) + x3), .ref 102, .int (hi3 93 j5), .ref 90, .int x2] (rx_hp L t hi3 hl3 v3) Q
      obtain ⟨j6, ej6, hj6, k⟩ := k
      refine rx_aw_iald (pc := 47) (n := 2412) j6 ej6 rfl rfl rfl hj6 (by decide) ?_
      show rx_aw 222 48 [.ref 90, .int x1, .int x2, .int x3, .int z3] [.int (hi3 102 j6), .int (hi3 93 j5), .ref 90, .int x2] (rx_hp L t hi3 hl3 v3) Q
      refine rx_aw_s 1 (pc := 48) rfl ?_
      show rx_aw 222 50 [.ref 90, .int x1, .int x2, .int x3, .int z3] [.int z3, .int (hi3 102 j6), .int (hi3 93 j5), .ref 90, .int x2] (rx_hp L t hi3 hl3 v3) Q
      refine rx_w_callI (j := 189) (pc := 50) rfl rfl rfl rfl rfl ?_
      refine rx_aw.mono k (fun r h2 k => ?_)
      obtain ⟨z7, rfl, hi7, hl7, v7, rfl, k⟩ := k
      refine ⟨z7, rfl, ?_⟩
      show rx_aw 222 53 [.ref 90, .int x1, .int x2, .int x3, .int z3] [.int z7, .int x2] (rx_hp L t hi7 hl7 v7) Q
      refine rx_aw_s 5 (pc := 53) rfl ?_
      show rx_aw 222 4 [.ref 90, .int x1, .int (x2 + z7), .int (x3 + (1 : Int32)), .int z3] [] (rx_hp L t hi7 hl7 v7) Q
      exact rx_aw_le (ls := [.ref 90, .int x1, .int (x2 + z7), .int (x3 + (1 : Int32)), rx_no]) ⟨Or.inr rfl, ⟨Or.inr rfl, ⟨Or.inr rfl, ⟨Or.inr rfl, ⟨Or.inl rfl, trivial⟩⟩⟩⟩⟩ k
set_option maxRecDepth 100000 in
/-- CartFloorModel.digest()J -/
theorem w224_digest_r {L : Nat} {t : List (Nat × Nat)} {hi : Nat → Nat → Int32} {hl : Nat → Nat → Int64} {v : Nat → Nat → Option Nat} {Q : Option Value → rx_H → Prop}  (k : rx_aw 224 4 [.ref 90, .long (0 : Int64), rx_no, .int (0 : Int32), rx_no] [] (rx_hp L t hi hl v) Q) : rx_me 224 [.ref 90] (rx_hp L t hi hl v) Q := by
  show rx_aw 224 0 [.ref 90, rx_no, rx_no, rx_no, rx_no] [] (rx_hp L t hi hl v) Q
  refine rx_aw_s 4 (pc := 0) rfl ?_
  show rx_aw 224 4 [.ref 90, .long (0 : Int64), rx_no, .int (0 : Int32), rx_no] [] (rx_hp L t hi hl v) Q
  exact k
set_option maxRecDepth 100000 in
theorem w224_digest_r_4 {L : Nat} {t : List (Nat × Nat)} {hi : Nat → Nat → Int32} {hl : Nat → Nat → Int64} {v : Nat → Nat → Option Nat} {Q : Option Value → rx_H → Prop} {x1 : Int64} {x3 : Int32} (k : (((hi 90 6) ≤ x3 → Q (some (.long x1)) (rx_hp L t hi hl v)) ∧ (¬ ((hi 90 6) ≤ x3) → rx_aw 224 15 [.ref 90, .long x1, rx_no, .int x3, .int (0 : Int32)] [] (rx_hp L t hi hl v) Q))) : rx_aw 224 4 [.ref 90, .long x1, rx_no, .int x3, rx_no] [] (rx_hp L t hi hl v) Q := by
  refine rx_aw_s 4 (pc := 4) rfl ?_
  refine rx_w_if (c := (hi 90 6) ≤ x3) ⟨fun c1 => ?_, fun c1 => ?_⟩
  · have k := k.1 c1
    show rx_aw 224 55 [.ref 90, .long x1, rx_no, .int x3, rx_no] [] (rx_hp L t hi hl v) Q
    refine rx_aw_s 1 (pc := 55) rfl ?_
    show rx_aw 224 56 [.ref 90, .long x1, rx_no, .int x3, rx_no] [.long x1] (rx_hp L t hi hl v) Q
    exact rx_aw_ret (pc := 56) rfl k
  · have k := k.2 c1
    show rx_aw 224 12 [.ref 90, .long x1, rx_no, .int x3, rx_no] [] (rx_hp L t hi hl v) Q
    refine rx_aw_s 2 (pc := 12) rfl ?_
    show rx_aw 224 15 [.ref 90, .long x1, rx_no, .int x3, .int (0 : Int32)] [] (rx_hp L t hi hl v) Q
    exact k
set_option maxRecDepth 100000 in
theorem w224_digest_r_15 {L : Nat} {t : List (Nat × Nat)} {hi : Nat → Nat → Int32} {hl : Nat → Nat → Int64} {v : Nat → Nat → Option Nat} {Q : Option Value → rx_H → Prop} {x1 : Int64} {x3 : Int32} {x4 : Int32} (k : (∃ j2 : Nat, x3 = nI j2 ∧ j2 < 6 ∧ (((hi 94 j2) ≤ x4 → rx_aw 224 4 [.ref 90, .long x1, rx_no, .int (x3 + (1 : Int32)), rx_no] [] (rx_hp L t hi hl v) Q) ∧ (¬ ((hi 94 j2) ≤ x4) → rx_me 194 [.ref 90, .int x3, .int x4] (rx_hp L t hi hl v) (fun r h2 => ∃ z4 : Int32, r = some (.int z4) ∧ rx_ok2 L t h2 (fun hi4 hl4 v4 => rx_aw 224 15 [.ref 90, .long ((((31 : Int64) * x1) + (Int32.toInt64 z4)) + (1 : Int64)), rx_no, .int x3, .int (x4 + (1 : Int32))] [] (rx_hp L t hi4 hl4 v4) Q)))))) : rx_aw 224 15 [.ref 90, .long x1, rx_no, .int x3, .int x4] [] (rx_hp L t hi hl v) Q := by
  refine rx_aw_s 4 (pc := 15) rfl ?_
  show rx_aw 224 22 [.ref 90, .long x1, rx_no, .int x3, .int x4] [.int x3, .ref 94, .int x4] (rx_hp L t hi hl v) Q
  obtain ⟨j2, ej2, hj2, k⟩ := k
  refine rx_aw_iald (pc := 22) (n := 6) j2 ej2 rfl rfl rfl hj2 (by decide) ?_
  show rx_aw 224 23 [.ref 90, .long x1, rx_no, .int x3, .int x4] [.int (hi 94 j2), .int x4] (rx_hp L t hi hl v) Q
  refine rx_aw_s 1 (pc := 23) rfl ?_
  refine rx_w_if (c := (hi 94 j2) ≤ x4) ⟨fun c3 => ?_, fun c3 => ?_⟩
  · have k := k.1 c3
    show rx_aw 224 49 [.ref 90, .long x1, rx_no, .int x3, .int x4] [] (rx_hp L t hi hl v) Q
    refine rx_aw_s 2 (pc := 49) rfl ?_
    show rx_aw 224 4 [.ref 90, .long x1, rx_no, .int (x3 + (1 : Int32)), .int x4] [] (rx_hp L t hi hl v) Q
    exact rx_aw_le (ls := [.ref 90, .long x1, rx_no, .int (x3 + (1 : Int32)), rx_no]) ⟨Or.inr rfl, ⟨Or.inr rfl, ⟨Or.inl rfl, ⟨Or.inr rfl, ⟨Or.inl rfl, trivial⟩⟩⟩⟩⟩ k
  · have k := k.2 c3
    show rx_aw 224 26 [.ref 90, .long x1, rx_no, .int x3, .int x4] [] (rx_hp L t hi hl v) Q
    refine rx_aw_s 6 (pc := 26) rfl ?_
    show rx_aw 224 35 [.ref 90, .long x1, rx_no, .int x3, .int x4] [.int x4, .int x3, .ref 90, .long ((31 : Int64) * x1)] (rx_hp L t hi hl v) Q
    refine rx_w_callI (j := 194) (pc := 35) rfl rfl rfl rfl rfl ?_
    refine rx_aw.mono k (fun r h2 k => ?_)
    obtain ⟨z4, rfl, hi4, hl4, v4, rfl, k⟩ := k
    refine ⟨z4, rfl, ?_⟩
    show rx_aw 224 38 [.ref 90, .long x1, rx_no, .int x3, .int x4] [.int z4, .long ((31 : Int64) * x1)] (rx_hp L t hi4 hl4 v4) Q
    refine rx_aw_s 7 (pc := 38) rfl ?_
    show rx_aw 224 15 [.ref 90, .long ((((31 : Int64) * x1) + (Int32.toInt64 z4)) + (1 : Int64)), rx_no, .int x3, .int (x4 + (1 : Int32))] [] (rx_hp L t hi4 hl4 v4) Q
    exact k
set_option maxRecDepth 100000 in
/-- CartFloorModel.safe()Z -/
theorem w225_safe_r {L : Nat} {t : List (Nat × Nat)} {hi : Nat → Nat → Int32} {hl : Nat → Nat → Int64} {v : Nat → Nat → Option Nat} {Q : Option Value → rx_H → Prop}  (k : rx_aw 225 4 [.ref 90, .int (1 : Int32), .int (0 : Int32)] [] (rx_hp L t hi hl v) Q) : rx_me 225 [.ref 90] (rx_hp L t hi hl v) Q := by
  show rx_aw 225 0 [.ref 90, rx_no, rx_no] [] (rx_hp L t hi hl v) Q
  refine rx_aw_s 4 (pc := 0) rfl ?_
  show rx_aw 225 4 [.ref 90, .int (1 : Int32), .int (0 : Int32)] [] (rx_hp L t hi hl v) Q
  exact k
set_option maxRecDepth 100000 in
theorem w225_safe_r_4 {L : Nat} {t : List (Nat × Nat)} {hi : Nat → Nat → Int32} {hl : Nat → Nat → Int64} {v : Nat → Nat → Option Nat} {Q : Option Value → rx_H → Prop} {x1 : Int32} {x2 : Int32} (k : (((hi 90 6) ≤ x2 → ((x1 = 0 ∨ x1 = 1) ∧ Q (some (.int x1)) (rx_hp L t hi hl v))) ∧ (¬ ((hi 90 6) ≤ x2) → (∃ j2 : Nat, x2 = nI j2 ∧ j2 < 6 ∧ (((1 : Int32) < (hi 93 j2) → rx_aw 225 4 [.ref 90, .int (x1 &&& (0 : Int32)), .int (x2 + (1 : Int32))] [] (rx_hp L t hi hl v) Q) ∧ (¬ ((1 : Int32) < (hi 93 j2)) → (∃ j4 : Nat, x2 = nI j4 ∧ j4 < 6 ∧ (((hi 96 j4) = 0 → rx_aw 225 4 [.ref 90, .int (x1 &&& (1 : Int32)), .int (x2 + (1 : Int32))] [] (rx_hp L t hi hl v) Q) ∧ (¬ ((hi 96 j4) = 0) → rx_me 226 [.ref 90, .int x2] (rx_hp L t hi hl v) (fun r h2 => ∃ z6 : Int32, r = some (.int z6) ∧ rx_ok2 L t h2 (fun hi6 hl6 v6 => ((z6 = 0 → rx_aw 225 4 [.ref 90, .int (x1 &&& (0 : Int32)), .int (x2 + (1 : Int32))] [] (rx_hp L t hi6 hl6 v6) Q) ∧ (¬ (z6 = 0) → rx_aw 225 4 [.ref 90, .int (x1 &&& (1 : Int32)), .int (x2 + (1 : Int32))] [] (rx_hp L t hi6 hl6 v6) Q))))))))))))) : rx_aw 225 4 [.ref 90, .int x1, .int x2] [] (rx_hp L t hi hl v) Q := by
  refine rx_aw_s 4 (pc := 4) rfl ?_
  refine rx_w_if (c := (hi 90 6) ≤ x2) ⟨fun c1 => ?_, fun c1 => ?_⟩
  · have k := k.1 c1
    show rx_aw 225 53 [.ref 90, .int x1, .int x2] [] (rx_hp L t hi hl v) Q
    refine rx_aw_s 1 (pc := 53) rfl ?_
    show rx_aw 225 54 [.ref 90, .int x1, .int x2] [.int x1] (rx_hp L t hi hl v) Q
    exact rx_w_zret (pc := 54) rfl rfl k
  · have k := k.2 c1
    show rx_aw 225 12 [.ref 90, .int x1, .int x2] [] (rx_hp L t hi hl v) Q
    refine rx_aw_s 4 (pc := 12) rfl ?_
    show rx_aw 225 18 [.ref 90, .int x1, .int x2] [.int x2, .ref 93, .int x1] (rx_hp L t hi hl v) Q
    obtain ⟨j2, ej2, hj2, k⟩ := k
    refine rx_aw_iald (pc := 18) (n := 6) j2 ej2 rfl rfl rfl hj2 (by decide) ?_
    show rx_aw 225 19 [.ref 90, .int x1, .int x2] [.int (hi 93 j2), .int x1] (rx_hp L t hi hl v) Q
    refine rx_aw_s 2 (pc := 19) rfl ?_
    refine rx_w_if (c := (1 : Int32) < (hi 93 j2)) ⟨fun c3 => ?_, fun c3 => ?_⟩
    · have k := k.1 c3
      show rx_aw 225 44 [.ref 90, .int x1, .int x2] [.int x1] (rx_hp L t hi hl v) Q
      refine rx_aw_s 5 (pc := 44) rfl ?_
      show rx_aw 225 4 [.ref 90, .int (x1 &&& (0 : Int32)), .int (x2 + (1 : Int32))] [] (rx_hp L t hi hl v) Q
      exact k
    · have k := k.2 c3
      show rx_aw 225 23 [.ref 90, .int x1, .int x2] [.int x1] (rx_hp L t hi hl v) Q
      refine rx_aw_s 3 (pc := 23) rfl ?_
      show rx_aw 225 28 [.ref 90, .int x1, .int x2] [.int x2, .ref 96, .int x1] (rx_hp L t hi hl v) Q
      obtain ⟨j4, ej4, hj4, k⟩ := k
      refine rx_aw_bald (pc := 28) (n := 6) j4 ej4 rfl (Or.inr rfl) (by decide) rfl hj4 (by decide) ?_
      show rx_aw 225 29 [.ref 90, .int x1, .int x2] [.int (hi 96 j4), .int x1] (rx_hp L t hi hl v) Q
      refine rx_aw_s 1 (pc := 29) rfl ?_
      refine rx_w_if (c := (hi 96 j4) = 0) ⟨fun c5 => ?_, fun c5 => ?_⟩
      · have k := k.1 c5
        show rx_aw 225 40 [.ref 90, .int x1, .int x2] [.int x1] (rx_hp L t hi hl v) Q
        refine rx_aw_s 6 (pc := 40) rfl ?_
        show rx_aw 225 4 [.ref 90, .int (x1 &&& (1 : Int32)), .int (x2 + (1 : Int32))] [] (rx_hp L t hi hl v) Q
        exact k
      · have k := k.2 c5
        show rx_aw 225 32 [.ref 90, .int x1, .int x2] [.int x1] (rx_hp L t hi hl v) Q
        refine rx_aw_s 2 (pc := 32) rfl ?_
        show rx_aw 225 34 [.ref 90, .int x1, .int x2] [.int x2, .ref 90, .int x1] (rx_hp L t hi hl v) Q
        refine rx_w_callI (j := 226) (pc := 34) rfl rfl rfl rfl rfl ?_
        refine rx_aw.mono k (fun r h2 k => ?_)
        obtain ⟨z6, rfl, hi6, hl6, v6, rfl, k⟩ := k
        refine ⟨z6, rfl, ?_⟩
        show rx_aw 225 37 [.ref 90, .int x1, .int x2] [.int z6, .int x1] (rx_hp L t hi6 hl6 v6) Q
        refine rx_aw_s 1 (pc := 37) rfl ?_
        refine rx_w_if (c := z6 = 0) ⟨fun c7 => ?_, fun c7 => ?_⟩
        · have k := k.1 c7
          show rx_aw 225 44 [.ref 90, .int x1, .int x2] [.int x1] (rx_hp L t hi6 hl6 v6) Q
          refine rx_aw_s 5 (pc := 44) rfl ?_
          show rx_aw 225 4 [.ref 90, .int (x1 &&& (0 : Int32)), .int (x2 + (1 : Int32))] [] (rx_hp L t hi6 hl6 v6) Q
          exact k
        · have k := k.2 c7
          show rx_aw 225 40 [.ref 90, .int x1, .int x2] [.int x1] (rx_hp L t hi6 hl6 v6) Q
          refine rx_aw_s 6 (pc := 40) rfl ?_
          show rx_aw 225 4 [.ref 90, .int (x1 &&& (1 : Int32)), .int (x2 + (1 : Int32))] [] (rx_hp L t hi6 hl6 v6) Q
          exact k
set_option maxRecDepth 100000 in
/-- CartFloorModel.isSafe(I)Z -/
theorem w226_isSafe_r {L : Nat} {t : List (Nat × Nat)} {hi : Nat → Nat → Int32} {hl : Nat → Nat → Int64} {v : Nat → Nat → Option Nat} {Q : Option Value → rx_H → Prop} {a0 : Int32} (k : rx_me 167 [.ref 90] (rx_hp L t hi hl v) (fun r h2 => ∃ z1 : Int64, r = some (.long z1) ∧ rx_ok2 L t h2 (fun hi1 hl1 v1 => rx_me 171 [.ref 90, .int (0 : Int32), .int (-1 : Int32)] (rx_hp L t hi1 hl1 v1) (fun r h2 => ∃ z2 : Int64, r = some (.long z2) ∧ rx_ok2 L t h2 (fun hi2 hl2 v2 => (∃ j3 : Nat, a0 = nI j3 ∧ j3 < 6 ∧ ((0 ≤ (hi2 98 j3) → rx_aw 226 31 [.ref 90, .int a0, .long (z1 ||| z2), rx_no, .int (0 : Int32), .int (0 : Int32)] [] (rx_hp L t hi2 hl2 v2) Q) ∧ (¬ (0 ≤ (hi2 98 j3)) → rx_aw 226 31 [.ref 90, .int a0, .long (z1 ||| z2), rx_no, .int (1 : Int32), .int (0 : Int32)] [] (rx_hp L t hi2 hl2 v2) Q)))))))) : rx_me 226 [.ref 90, .int a0] (rx_hp L t hi hl v) Q := by
  show rx_aw 226 0 [.ref 90, .int a0, rx_no, rx_no, rx_no, rx_no] [] (rx_hp L t hi hl v) Q
  refine rx_aw_s 1 (pc := 0) rfl ?_
  show rx_aw 226 1 [.ref 90, .int a0, rx_no, rx_no, rx_no, rx_no] [.ref 90] (rx_hp L t hi hl v) Q
  refine rx_w_callL (j := 167) (pc := 1) rfl rfl rfl rfl rfl ?_
  refine rx_aw.mono k (fun r h2 k => ?_)
  obtain ⟨z1, rfl, hi1, hl1, v1, rfl, k⟩ := k
  refine ⟨z1, rfl, ?_⟩
  show rx_aw 226 4 [.ref 90, .int a0, rx_no, rx_no, rx_no, rx_no] [.long z1] (rx_hp L t hi1 hl1 v1) Q
  refine rx_aw_s 3 (pc := 4) rfl ?_
  show rx_aw 226 7 [.ref 90, .int a0, rx_no, rx_no, rx_no, rx_no] [.int (-1 : Int32), .int (0 : Int32), .ref 90, .long z1] (rx_hp L t hi1 hl1 v1) Q
  refine rx_w_callL (j := 171) (pc := 7) rfl rfl rfl rfl rfl ?_
  refine rx_aw.mono k (fun r h2 k => ?_)
  obtain ⟨z2, rfl, hi2, hl2, v2, rfl, k⟩ := k
  refine ⟨z2, rfl, ?_⟩
  show rx_aw 226 10 [.ref 90, .int a0, rx_no, rx_no, rx_no, rx_no] [.long z2, .long z1] (rx_hp L t hi2 hl2 v2) Q
  refine rx_aw_s 5 (pc := 10) rfl ?_
  show rx_aw 226 17 [.ref 90, .int a0, .long (z1 ||| z2), rx_no, rx_no, rx_no] [.int a0, .ref 98] (rx_hp L t hi2 hl2 v2) Q
  obtain ⟨j3, ej3, hj3, k⟩ := k
  refine rx_aw_iald (pc := 17) (n := 6) j3 ej3 rfl rfl rfl hj3 (by decide) ?_
  show rx_aw 226 18 [.ref 90, .int a0, .long (z1 ||| z2), rx_no, rx_no, rx_no] [.int (hi2 98 j3)] (rx_hp L t hi2 hl2 v2) Q
  refine rx_aw_s 1 (pc := 18) rfl ?_
  refine rx_w_if (c := 0 ≤ (hi2 98 j3)) ⟨fun c4 => ?_, fun c4 => ?_⟩
  · have k := k.1 c4
    show rx_aw 226 25 [.ref 90, .int a0, .long (z1 ||| z2), rx_no, rx_no, rx_no] [] (rx_hp L t hi2 hl2 v2) Q
    refine rx_aw_s 4 (pc := 25) rfl ?_
    show rx_aw 226 31 [.ref 90, .int a0, .long (z1 ||| z2), rx_no, .int (0 : Int32), .int (0 : Int32)] [] (rx_hp L t hi2 hl2 v2) Q
    exact k
  · have k := k.2 c4
    show rx_aw 226 21 [.ref 90, .int a0, .long (z1 ||| z2), rx_no, rx_no, rx_no] [] (rx_hp L t hi2 hl2 v2) Q
    refine rx_aw_s 5 (pc := 21) rfl ?_
    show rx_aw 226 31 [.ref 90, .int a0, .long (z1 ||| z2), rx_no, .int (1 : Int32), .int (0 : Int32)] [] (rx_hp L t hi2 hl2 v2) Q
    exact k
set_option maxRecDepth 100000 in
theorem w226_isSafe_r_31 {L : Nat} {t : List (Nat × Nat)} {hi : Nat → Nat → Int32} {hl : Nat → Nat → Int64} {v : Nat → Nat → Option Nat} {Q : Option Value → rx_H → Prop} {x1 : Int32} {x2 : Int64} {x4 : Int32} {x5 : Int32} (k : (((hi 90 6) ≤ x5 → ((x4 = 0 → Q (some (.int (0 : Int32))) (rx_hp L t hi hl v)) ∧ (¬ (x4 = 0) → (∃ j7 : Nat, ((402 : Int32) * x1) = nI j7 ∧ j7 < 2412 ∧ (∃ j8 : Nat, x1 = nI j8 ∧ j8 < 6 ∧ rx_me 227 [.ref 90, .int (hi 101 j7), .int (hi 97 j8), .long x2] (rx_hp L t hi hl v) (fun r h2 => ∃ z9 : Int32, r = some (.int z9) ∧ rx_ok2 L t h2 (fun hi9 hl9 v9 => ((z9 = 0 → Q (some (.int (0 : Int32))) (rx_hp L t hi9 hl9 v9)) ∧ (¬ (z9 = 0) → Q (some (.int (1 : Int32))) (rx_hp L t hi9 hl9 v9)))))))))) ∧ (¬ ((hi 90 6) ≤ x5) → ((x5 = x1 → rx_aw 226 31 [.ref 90, .int x1, .long x2, rx_no, .int x4, .int (x5 + (1 : Int32))] [] (rx_hp L t hi hl v) Q) ∧ (¬ (x5 = x1) → (∃ j12 : Nat, ((402 : Int32) * x5) = nI j12 ∧ j12 < 2412 ∧ (∃ j13 : Nat, x5 = nI j13 ∧ j13 < 6 ∧ (((hi 96 j13) = 0 → (∃ j15 : Nat, ((402 : Int32) * x5) = nI j15 ∧ j15 < 2412 ∧ (∃ j16 : Nat, x1 = nI j16 ∧ j16 < 6 ∧ rx_me 169 [.int (hi 97 j16)] (rx_hp L t hi hl v) (fun r h2 => ∃ z17 : Int64, r = some (.long z17) ∧ rx_ok2 L t h2 (fun hi17 hl17 v17 => (((lg_cmp ((hl 105 j15) &&& z17) (0 : Int64)) = 0 → (∃ j19 : Nat, x5 = nI j19 ∧ j19 < 6 ∧ (((hi17 96 j19) = 0 → rx_aw 226 31 [.ref 90, .int x1, .long (x2 ||| ((hl 105 j12) ||| (0 : Int64))), rx_no, .int (x4 &&& (1 : Int32)), .int (x5 + (1 : Int32))] [] (rx_hp L t hi17 hl17 v17) Q) ∧ (¬ ((hi17 96 j19) = 0) → (∃ j21 : Nat, x5 = nI j21 ∧ j21 < 6 ∧ (∃ j22 : Nat, x1 = nI j22 ∧ j22 < 6 ∧ (((hi17 97 j21) = (hi17 97 j22) → rx_aw 226 31 [.ref 90, .int x1, .long (x2 ||| ((hl 105 j12) ||| (0 : Int64))), rx_no, .int (x4 &&& (0 : Int32)), .int (x5 + (1 : Int32))] [] (rx_hp L t hi17 hl17 v17) Q) ∧ (¬ ((hi17 97 j21) = (hi17 97 j22)) → rx_aw 226 31 [.ref 90, .int x1, .long (x2 ||| ((hl 105 j12) ||| (0 : Int64))), rx_no, .int (x4 &&& (1 : Int32)), .int (x5 + (1 : Int32))] [] (rx_hp L t hi17 hl17 v17) Q)))))))) ∧ (¬ ((lg_cmp ((hl 105 j15) &&& z17) (0 : Int64)) = 0) → rx_aw 226 31 [.ref 90, .int x1, .long (x2 ||| ((hl 105 j12) ||| (0 : Int64))), rx_no, .int (x4 &&& (0 : Int32)), .int (x5 + (1 : Int32))] [] (rx_hp L t hi17 hl17 v17) Q))))))) ∧ (¬ ((hi 96 j13) = 0) → (∃ j24 : Nat, x5 = nI j24 ∧ j24 < 6 ∧ rx_me 169 [.int (hi 97 j24)] (rx_hp L t hi hl v) (fun r h2 => ∃ z25 : Int64, r = some (.long z25) ∧ rx_ok2 L t h2 (fun hi25 hl25 v25 => (∃ j26 : Nat, ((402 : Int32) * x5) = nI j26 ∧ j26 < 2412 ∧ (∃ j27 : Nat, x1 = nI j27 ∧ j27 < 6 ∧ rx_me 169 [.int (hi25 97 j27)] (rx_hp L t hi25 hl25 v25) (fun r h2 => ∃ z28 : Int64, r = some (.long z28) ∧ rx_ok2 L t h2 (fun hi28 hl28 v28 => (((lg_cmp ((hl25 105 j26) &&& z28) (0 : Int64)) = 0 → (∃ j30 : Nat, x5 = nI j30 ∧ j30 < 6 ∧ (((hi28 96 j30) = 0 → rx_aw 226 31 [.ref 90, .int x1, .long (x2 ||| ((hl 105 j12) ||| z25)), rx_no, .int (x4 &&& (1 : Int32)), .int (x5 + (1 : Int32))] [] (rx_hp L t hi28 hl28 v28) Q) ∧ (¬ ((hi28 96 j30) = 0) → (∃ j32 : Nat, x5 = nI j32 ∧ j32 < 6 ∧ (∃ j33 : Nat, x1 = nI j33 ∧ j33 < 6 ∧ (((hi28 97 j32) = (hi28 97 j33) → rx_aw 226 31 [.ref 90, .int x1, .long (x2 ||| ((hl 105 j12) ||| z25)), rx_no, .int (x4 &&& (0 : Int32)), .int (x5 + (1 : Int32))] [] (rx_hp L t hi28 hl28 v28) Q) ∧ (¬ ((hi28 97 j32) = (hi28 97 j33)) → rx_aw 226 31 [.ref 90, .int x1, .long (x2 ||| ((hl 105 j12) ||| z25)), rx_no, .int (x4 &&& (1 : Int32)), .int (x5 + (1 : Int32))] [] (rx_hp L t hi28 hl28 v28) Q)))))))) ∧ (¬ ((lg_cmp ((hl25 105 j26) &&& z28) (0 : Int64)) = 0) → rx_aw 226 31 [.ref 90, .int x1, .long (x2 ||| ((hl 105 j12) ||| z25)), rx_no, .int (x4 &&& (0 : Int32)), .int (x5 + (1 : Int32))] [] (rx_hp L t hi28 hl28 v28) Q)))))))))))))))))) : rx_aw 226 31 [.ref 90, .int x1, .long x2, rx_no, .int x4, .int x5] [] (rx_hp L t hi hl v) Q := by
  refine rx_aw_s 4 (pc := 31) rfl ?_
  refine rx_w_if (c := (hi 90 6) ≤ x5) ⟨fun c5 => ?_, fun c5 => ?_⟩
  · have k := k.1 c5
    show rx_aw 226 153 [.ref 90, .int x1, .long x2, rx_no, .int x4, .int x5] [] (rx_hp L t hi hl v) Q
    refine rx_aw_s 2 (pc := 153) rfl ?_
    refine rx_w_if (c := x4 = 0) ⟨fun c6 => ?_, fun c6 => ?_⟩
    · have k := k.1 c6
      show rx_aw 226 186 [.ref 90, .int x1, .long x2, rx_no, .int x4, .int x5] [] (rx_hp L t hi hl v) Q
      refine rx_aw_s 1 (pc := 186) rfl ?_
      show rx_aw 226 187 [.ref 90, .int x1, .long x2, rx_no, .int x4, .int x5] [.int (0 : Int32)] (rx_hp L t hi hl v) Q
      exact rx_aw_ret (pc := 187) rfl k
    · have k := k.2 c6
      show rx_aw 226 158 [.ref 90, .int x1, .long x2, rx_no, .int x4, .int x5] [] (rx_hp L t hi hl v) Q
      refine rx_aw_s 6 (pc := 158) rfl ?_
      show rx_aw 226 168 [.ref 90, .int x1, .long x2, rx_no, .int x4, .int x5] [.int ((402 : Int32) * x1), .ref 101, .ref 90] (rx_hp L t hi hl v) Q
      obtain ⟨j7, ej7, hj7, k⟩ := k
      refine rx_aw_iald (pc := 168) (n := 2412) j7 ej7 rfl rfl rfl hj7 (by decide) ?_
      show rx_aw 226 169 [.ref 90, .int x1, .long x2, rx_no, .int x4, .int x5] [.int (hi 101 j7), .ref 90] (rx_hp L t hi hl v) Q
      refine rx_aw_s 3 (pc := 169) rfl ?_
      show rx_aw 226 174 [.ref 90, .int x1, .long x2, rx_no, .int x4, .int x5] [.int x1, .ref 97, .int (hi 101 j7), .ref 90] (rx_hp L t hi hl v) Q
      obtain ⟨j8, ej8, hj8, k⟩ := k
      refine rx_aw_iald (pc := 174) (n := 6) j8 ej8 rfl rfl rfl hj8 (by decide) ?_
      show rx_aw 226 175 [.ref 90, .int x1, .long x2, rx_no, .int x4, .int x5] [.int (hi 97 j8), .int (hi 101 j7), .ref 90] (rx_hp L t hi hl v) Q
      refine rx_aw_s 1 (pc := 175) rfl ?_
      show rx_aw 226 176 [.ref 90, .int x1, .long x2, rx_no, .int x4, .int x5] [.long x2, .int (hi 97 j8), .int (hi 101 j7), .ref 90] (rx_hp L t hi hl v) Q
      refine rx_w_callI (j := 227) (pc := 176) rfl rfl rfl rfl rfl ?_
      refine rx_aw.mono k (fun r h2 k => ?_)
      obtain ⟨z9, rfl, hi9, hl9, v9, rfl, k⟩ := k
      refine ⟨z9, rfl, ?_⟩
      show rx_aw 226 179 [.ref 90, .int x1, .long x2, rx_no, .int x4, .int x5] [.int z9] (rx_hp L t hi9 hl9 v9) Q
      refine rx_aw_s 1 (pc := 179) rfl ?_
      refine rx_w_if (c := z9 = 0) ⟨fun c10 => ?_, fun c10 => ?_⟩
      · have k := k.1 c10
        show rx_aw 226 186 [.ref 90, .int x1, .long x2, rx_no, .int x4, .int x5] [] (rx_hp L t hi9 hl9 v9) Q
        refine rx_aw_s 1 (pc := 186) rfl ?_
        show rx_aw 226 187 [.ref 90, .int x1, .long x2, rx_no, .int x4, .int x5] [.int (0 : Int32)] (rx_hp L t hi9 hl9 v9) Q
        exact rx_aw_ret (pc := 187) rfl k
      · have k := k.2 c10
        show rx_aw 226 182 [.ref 90, .int x1, .long x2, rx_no, .int x4, .int x5] [] (rx_hp L t hi9 hl9 v9) Q
        refine rx_aw_s 2 (pc := 182) rfl ?_
        show rx_aw 226 187 [.ref 90, .int x1, .long x2, rx_no, .int x4, .int x5] [.int (1 : Int32)] (rx_hp L t hi9 hl9 v9) Q
        exact rx_aw_ret (pc := 187) rfl k
  · have k := k.2 c5
    show rx_aw 226 40 [.ref 90, .int x1, .long x2, rx_no, .int x4, .int x5] [] (rx_hp L t hi hl v) Q
    refine rx_aw_s 3 (pc := 40) rfl ?_
    refine rx_w_if (c := x5 = x1) ⟨fun c11 => ?_, fun c11 => ?_⟩
    · have k := k.1 c11
      show rx_aw 226 147 [.ref 90, .int x1, .long x2, rx_no, .int x4, .int x5] [] (rx_hp L t hi hl v) Q
      refine rx_aw_s 2 (pc := 147) rfl ?_
      show rx_aw 226 31 [.ref 90, .int x1, .long x2, rx_no, .int x4, .int (x5 + (1 : Int32))] [] (rx_hp L t hi hl v) Q
      exact k
    · have k := k.2 c11
      show rx_aw 226 46 [.ref 90, .int x1, .long x2, rx_no, .int x4, .int x5] [] (rx_hp L t hi hl v) Q
      refine rx_aw_s 6 (pc := 46) rfl ?_
      show rx_aw 226 57 [.ref 90, .int x1, .long x2, rx_no, .int x4, .int x5] [.int ((402 : Int32) * x5), .ref 105, .long x2] (rx_hp L t hi hl v) Q
      obtain ⟨j12, ej12, hj12, k⟩ := k
      refine rx_aw_lald (pc := 57) (n := 2412) j12 ej12 rfl rfl (by decide) rfl hj12 (by decide) ?_
      show rx_aw 226 58 [.ref 90, .int x1, .long x2, rx_no, .int x4, .int x5] [.long (hl 105 j12), .long x2] (rx_hp L t hi hl v) Q
      refine rx_aw_s 3 (pc := 58) rfl ?_
      show rx_aw 226 64 [.ref 90, .int x1, .long x2, rx_no, .int x4, .int x5] [.int x5, .ref 96, .long (hl 105 j12), .long x2] (rx_hp L t hi hl v) Q
      obtain ⟨j13, ej13, hj13, k⟩ := k
      refine rx_aw_bald (pc := 64) (n := 6) j13 ej13 rfl (Or.inr rfl) (by decide) rfl hj13 (by decide) ?_
      show rx_aw 226 65 [.ref 90, .int x1, .long x2, rx_no, .int x4, .int x5] [.int (hi 96 j13), .long (hl 105 j12), .long x2] (rx_hp L t hi hl v) Q
      refine rx_aw_s 1 (pc := 65) rfl ?_
      refine rx_w_if (c := (hi 96 j13) = 0) ⟨fun c14 => ?_, fun c14 => ?_⟩
      · have k := k.1 c14
        show rx_aw 226 81 [.ref 90, .int x1, .long x2, rx_no, .int x4, .int x5] [.long (hl 105 j12), .long x2] (rx_hp L t hi hl v) Q
        refine rx_aw_s 10 (pc := 81) rfl ?_
        show rx_aw 226 97 [.ref 90, .int x1, .long (x2 ||| ((hl 105 j12) ||| (0 : Int64))), rx_no, .int x4, .int x5] [.int ((402 : Int32) * x5), .ref 105, .int x4] (rx_hp L t hi hl v) Q
        obtain ⟨j15, ej15, hj15, k⟩ := k
        refine rx_aw_lald (pc := 97) (n := 2412) j15 ej15 rfl rfl (by decide) rfl hj15 (by decide) ?_
        show rx_aw 226 98 [.ref 90, .int x1, .long (x2 ||| ((hl 105 j12) ||| (0 : Int64))), rx_no, .int x4, .int x5] [.long (hl 105 j15), .int x4] (rx_hp L t hi hl v) Q
        refine rx_aw_s 3 (pc := 98) rfl ?_
        show rx_aw 226 103 [.ref 90, .int x1, .long (x2 ||| ((hl 105 j12) ||| (0 : Int64))), rx_no, .int x4, .int x5] [.int x1, .ref 97, .long (hl 105 j15), .int x4] (rx_hp L t hi hl v) Q
        obtain ⟨j16, ej16, hj16, k⟩ := k
        refine rx_aw_iald (pc := 103) (n := 6) j16 ej16 rfl rfl rfl hj16 (by decide) ?_
        show rx_aw 226 104 [.ref 90, .int x1, .long (x2 ||| ((hl 105 j12) ||| (0 : Int64))), rx_no, .int x4, .int x5] [.int (hi 97 j16), .long (hl 105 j15), .int x4] (rx_hp L t hi hl v) Q
        refine rx_w_callL (j := 169) (pc := 104) rfl rfl rfl rfl rfl ?_
        refine rx_aw.mono k (fun r h2 k => ?_)
        obtain ⟨z17, rfl, hi17, hl17, v17, rfl, k⟩ := k
        refine ⟨z17, rfl, ?_⟩
        show rx_aw 226 107 [.ref 90, .int x1, .long (x2 ||| ((hl 105 j12) ||| (0 : Int64))), rx_no, .int x4, .int x5] [.long z17, .long (hl 105 j15), .int x4] (rx_hp L t hi17 hl17 v17) Q
        refine rx_aw_s 4 (pc := 107) rfl ?_
        refine rx_w_ifn (c := (lg_cmp ((hl 105 j15) &&& z17) (0 : Int64)) = 0) ⟨fun c18 => ?_, fun c18 => ?_⟩
        · have k := k.1 c18
          show rx_aw 226 113 [.ref 90, .int x1, .long (x2 ||| ((hl 105 j12) ||| (0 : Int64))), rx_no, .int x4, .int x5] [.int x4] (rx_hp L t hi17 hl17 v17) Q
          refine rx_aw_s 3 (pc := 113) rfl ?_
          show rx_aw 226 119 [.ref 90, .int x1, .long (x2 ||| ((hl 105 j12) ||| (0 : Int64))), rx_no, .int x4, .int x5] [.int x5, .ref 96, .int x4] (rx_hp L t hi17 hl17 v17) Q
          obtain ⟨j19, ej19, hj19, k⟩ := k
          refine rx_aw_bald (pc := 119) (n := 6) j19 ej19 rfl (Or.inr rfl) (by decide) rfl hj19 (by decide) ?_
          show rx_aw 226 120 [.ref 90, .int x1, .long (x2 ||| ((hl 105 j12) ||| (0 : Int64))), rx_no, .int x4, .int x5] [.int (hi17 96 j19), .int x4] (rx_hp L t hi17 hl17 v17) Q
          refine rx_aw_s 1 (pc := 120) rfl ?_
          refine rx_w_if (c := (hi17 96 j19) = 0) ⟨fun c20 => ?_, fun c20 => ?_⟩
          · have k := k.1 c20
            show rx_aw 226 139 [.ref 90, .int x1, .long (x2 ||| ((hl 105 j12) ||| (0 : Int64))), rx_no, .int x4, .int x5] [.int x4] (rx_hp L t hi17 hl17 v17) Q
            refine rx_aw_s 6 (pc := 139) rfl ?_
            show rx_aw 226 31 [.ref 90, .int x1, .long (x2 ||| ((hl 105 j12) ||| (0 : Int64))), rx_no, .int (x4 &&& (1 : Int32)), .int (x5 + (1 : Int32))] [] (rx_hp L t hi17 hl17 v17) Q
            exact k
          · have k := k.2 c20
            show rx_aw 226 123 [.ref 90, .int x1, .long (x2 ||| ((hl 105 j12) ||| (0 : Int64))), rx_no, .int x4, .int x5] [.int x4] (rx_hp L t hi17 hl17 v17) Q
            refine rx_aw_s 3 (pc := 123) rfl ?_
            show rx_aw 226 129 [.ref 90, .int x1, .long (x2 ||| ((hl 105 j12) ||| (0 : Int64))), rx_no, .int x4, .int x5] [.int x5, .ref 97, .int x4] (rx_hp L t hi17 hl17 v17) Q
            obtain ⟨j21, ej21, hj21, k⟩ := k
            refine rx_aw_iald (pc := 129) (n := 6) j21 ej21 rfl rfl rfl hj21 (by decide) ?_
            show rx_aw 226 130 [.ref 90, .int x1, .long (x2 ||| ((hl 105 j12) ||| (0 : Int64))), rx_no, .int x4, .int x5] [.int (hi17 97 j21), .int x4] (rx_hp L t hi17 hl17 v17) Q
            refine rx_aw_s 3 (pc := 130) rfl ?_
            show rx_aw 226 135 [.ref 90, .int x1, .long (x2 ||| ((hl 105 j12) ||| (0 : Int64))), rx_no, .int x4, .int x5] [.int x1, .ref 97, .int (hi17 97 j21), .int x4] (rx_hp L t hi17 hl17 v17) Q
            obtain ⟨j22, ej22, hj22, k⟩ := k
            refine rx_aw_iald (pc := 135) (n := 6) j22 ej22 rfl rfl rfl hj22 (by decide) ?_
            show rx_aw 226 136 [.ref 90, .int x1, .long (x2 ||| ((hl 105 j12) ||| (0 : Int64))), rx_no, .int x4, .int x5] [.int (hi17 97 j22), .int (hi17 97 j21), .int x4] (rx_hp L t hi17 hl17 v17) Q
            refine rx_aw_s 1 (pc := 136) rfl ?_
            refine rx_w_if (c := (hi17 97 j21) = (hi17 97 j22)) ⟨fun c23 => ?_, fun c23 => ?_⟩
            · have k := k.1 c23
              show rx_aw 226 143 [.ref 90, .int x1, .long (x2 ||| ((hl 105 j12) ||| (0 : Int64))), rx_no, .int x4, .int x5] [.int x4] (rx_hp L t hi17 hl17 v17) Q
              refine rx_aw_s 5 (pc := 143) rfl ?_
              show rx_aw 226 31 [.ref 90, .int x1, .long (x2 ||| ((hl 105 j12) ||| (0 : Int64))), rx_no, .int (x4 &&& (0 : Int32)), .int (x5 + (1 : Int32))] [] (rx_hp L t hi17 hl17 v17) Q
              exact k
            · have k := k.2 c23
              show rx_aw 226 139 [.ref 90, .int x1, .long (x2 ||| ((hl 105 j12) ||| (0 : Int64))), rx_no, .int x4, .int x5] [.int x4] (rx_hp L t hi17 hl17 v17) Q
              refine rx_aw_s 6 (pc := 139) rfl ?_
              show rx_aw 226 31 [.ref 90, .int x1, .long (x2 ||| ((hl 105 j12) ||| (0 : Int64))), rx_no, .int (x4 &&& (1 : Int32)), .int (x5 + (1 : Int32))] [] (rx_hp L t hi17 hl17 v17) Q
              exact k
        · have k := k.2 c18
          show rx_aw 226 143 [.ref 90, .int x1, .long (x2 ||| ((hl 105 j12) ||| (0 : Int64))), rx_no, .int x4, .int x5] [.int x4] (rx_hp L t hi17 hl17 v17) Q
          refine rx_aw_s 5 (pc := 143) rfl ?_
          show rx_aw 226 31 [.ref 90, .int x1, .long (x2 ||| ((hl 105 j12) ||| (0 : Int64))), rx_no, .int (x4 &&& (0 : Int32)), .int (x5 + (1 : Int32))] [] (rx_hp L t hi17 hl17 v17) Q
          exact k
      · have k := k.2 c14
        show rx_aw 226 68 [.ref 90, .int x1, .long x2, rx_no, .int x4, .int x5] [.long (hl 105 j12), .long x2] (rx_hp L t hi hl v) Q
        refine rx_aw_s 3 (pc := 68) rfl ?_
        show rx_aw 226 74 [.ref 90, .int x1, .long x2, rx_no, .int x4, .int x5] [.int x5, .ref 97, .long (hl 105 j12), .long x2] (rx_hp L t hi hl v) Q
        obtain ⟨j24, ej24, hj24, k⟩ := k
        refine rx_aw_iald (pc := 74) (n := 6) j24 ej24 rfl rfl rfl hj24 (by decide) ?_
        show rx_aw 226 75 [.ref 90, .int x1, .long x2, rx_no, .int x4, .int x5] [.int (hi 97 j24), .long (hl 105 j12), .long x2] (rx_hp L t hi hl v) Q
        refine rx_w_callL (j := 169) (pc := 75) rfl rfl rfl rfl rfl ?_
        refine rx_aw.mono k (fun r h2 k => ?_)
        obtain ⟨z25, rfl, hi25, hl25, v25, rfl, k⟩ := k
        refine ⟨z25, rfl, ?_⟩
        show rx_aw 226 78 [.ref 90, .int x1, .long x2, rx_no, .int x4, .int x5] [.long z25, .long (hl 105 j12), .long x2] (rx_hp L t hi25 hl25 v25) Q
        refine rx_aw_s 10 (pc := 78) rfl ?_
        show rx_aw 226 97 [.ref 90, .int x1, .long (x2 ||| ((hl 105 j12) ||| z25)), rx_no, .int x4, .int x5] [.int ((402 : Int32) * x5), .ref 105, .int x4] (rx_hp L t hi25 hl25 v25) Q
        obtain ⟨j26, ej26, hj26, k⟩ := k
        refine rx_aw_lald (pc := 97) (n := 2412) j26 ej26 rfl rfl (by decide) rfl hj26 (by decide) ?_
        show rx_aw 226 98 [.ref 90, .int x1, .long (x2 ||| ((hl 105 j12) ||| z25)), rx_no, .int x4, .int x5] [.long (hl25 105 j26), .int x4] (rx_hp L t hi25 hl25 v25) Q
        refine rx_aw_s 3 (pc := 98) rfl ?_
        show rx_aw 226 103 [.ref 90, .int x1, .long (x2 ||| ((hl 105 j12) ||| z25)), rx_no, .int x4, .int x5] [.int x1, .ref 97, .long (hl25 105 j26), .int x4] (rx_hp L t hi25 hl25 v25) Q
        obtain ⟨j27, ej27, hj27, k⟩ := k
        refine rx_aw_iald (pc := 103) (n := 6) j27 ej27 rfl rfl rfl hj27 (by decide) ?_
        show rx_aw 226 104 [.ref 90, .int x1, .long (x2 ||| ((hl 105 j12) ||| z25)), rx_no, .int x4, .int x5] [.int (hi25 97 j27), .long (hl25 105 j26), .int x4] (rx_hp L t hi25 hl25 v25) Q
        refine rx_w_callL (j := 169) (pc := 104) rfl rfl rfl rfl rfl ?_
        refine rx_aw.mono k (fun r h2 k => ?_)
        obtain ⟨z28, rfl, hi28, hl28, v28, rfl, k⟩ := k
        refine ⟨z28, rfl, ?_⟩
        show rx_aw 226 107 [.ref 90, .int x1, .long (x2 ||| ((hl 105 j12) ||| z25)), rx_no, .int x4, .int x5] [.long z28, .long (hl25 105 j26), .int x4] (rx_hp L t hi28 hl28 v28) Q
        refine rx_aw_s 4 (pc := 107) rfl ?_
        refine rx_w_ifn (c := (lg_cmp ((hl25 105 j26) &&& z28) (0 : Int64)) = 0) ⟨fun c29 => ?_, fun c29 => ?_⟩
        · have k := k.1 c29
          show rx_aw 226 113 [.ref 90, .int x1, .long (x2 ||| ((hl 105 j12) ||| z25)), rx_no, .int x4, .int x5] [.int x4] (rx_hp L t hi28 hl28 v28) Q
          refine rx_aw_s 3 (pc := 113) rfl ?_
          show rx_aw 226 119 [.ref 90, .int x1, .long (x2 ||| ((hl 105 j12) ||| z25)), rx_no, .int x4, .int x5] [.int x5, .ref 96, .int x4] (rx_hp L t hi28 hl28 v28) Q
          obtain ⟨j30, ej30, hj30, k⟩ := k
          refine rx_aw_bald (pc := 119) (n := 6) j30 ej30 rfl (Or.inr rfl) (by decide) rfl hj30 (by decide) ?_
          show rx_aw 226 120 [.ref 90, .int x1, .long (x2 ||| ((hl 105 j12) ||| z25)), rx_no, .int x4, .int x5] [.int (hi28 96 j30), .int x4] (rx_hp L t hi28 hl28 v28) Q
          refine rx_aw_s 1 (pc := 120) rfl ?_
          refine rx_w_if (c := (hi28 96 j30) = 0) ⟨fun c31 => ?_, fun c31 => ?_⟩
          · have k := k.1 c31
            show rx_aw 226 139 [.ref 90, .int x1, .long (x2 ||| ((hl 105 j12) ||| z25)), rx_no, .int x4, .int x5] [.int x4] (rx_hp L t hi28 hl28 v28) Q
            refine rx_aw_s 6 (pc := 139) rfl ?_
            show rx_aw 226 31 [.ref 90, .int x1, .long (x2 ||| ((hl 105 j12) ||| z25)), rx_no, .int (x4 &&& (1 : Int32)), .int (x5 + (1 : Int32))] [] (rx_hp L t hi28 hl28 v28) Q
            exact k
          · have k := k.2 c31
            show rx_aw 226 123 [.ref 90, .int x1, .long (x2 ||| ((hl 105 j12) ||| z25)), rx_no, .int x4, .int x5] [.int x4] (rx_hp L t hi28 hl28 v28) Q
            refine rx_aw_s 3 (pc := 123) rfl ?_
            show rx_aw 226 129 [.ref 90, .int x1, .long (x2 ||| ((hl 105 j12) ||| z25)), rx_no, .int x4, .int x5] [.int x5, .ref 97, .int x4] (rx_hp L t hi28 hl28 v28) Q
            obtain ⟨j32, ej32, hj32, k⟩ := k
            refine rx_aw_iald (pc := 129) (n := 6) j32 ej32 rfl rfl rfl hj32 (by decide) ?_
            show rx_aw 226 130 [.ref 90, .int x1, .long (x2 ||| ((hl 105 j12) ||| z25)), rx_no, .int x4, .int x5] [.int (hi28 97 j32), .int x4] (rx_hp L t hi28 hl28 v28) Q
            refine rx_aw_s 3 (pc := 130) rfl ?_
            show rx_aw 226 135 [.ref 90, .int x1, .long (x2 ||| ((hl 105 j12) ||| z25)), rx_no, .int x4, .int x5] [.int x1, .ref 97, .int (hi28 97 j32), .int x4] (rx_hp L t hi28 hl28 v28) Q
            obtain ⟨j33, ej33, hj33, k⟩ := k
            refine rx_aw_iald (pc := 135) (n := 6) j33 ej33 rfl rfl rfl hj33 (by decide) ?_
            show rx_aw 226 136 [.ref 90, .int x1, .long (x2 ||| ((hl 105 j12) ||| z25)), rx_no, .int x4, .int x5] [.int (hi28 97 j33), .int (hi28 97 j32), .int x4] (rx_hp L t hi28 hl28 v28) Q
            refine rx_aw_s 1 (pc := 136) rfl ?_
            refine rx_w_if (c := (hi28 97 j32) = (hi28 97 j33)) ⟨fun c34 => ?_, fun c34 => ?_⟩
            · have k := k.1 c34
              show rx_aw 226 143 [.ref 90, .int x1, .long (x2 ||| ((hl 105 j12) ||| z25)), rx_no, .int x4, .int x5] [.int x4] (rx_hp L t hi28 hl28 v28) Q
              refine rx_aw_s 5 (pc := 143) rfl ?_
              show rx_aw 226 31 [.ref 90, .int x1, .long (x2 ||| ((hl 105 j12) ||| z25)), rx_no, .int (x4 &&& (0 : Int32)), .int (x5 + (1 : Int32))] [] (rx_hp L t hi28 hl28 v28) Q
              exact k
            · have k := k.2 c34
              show rx_aw 226 139 [.ref 90, .int x1, .long (x2 ||| ((hl 105 j12) ||| z25)), rx_no, .int x4, .int x5] [.int x4] (rx_hp L t hi28 hl28 v28) Q
              refine rx_aw_s 6 (pc := 139) rfl ?_
              show rx_aw 226 31 [.ref 90, .int x1, .long (x2 ||| ((hl 105 j12) ||| z25)), rx_no, .int (x4 &&& (1 : Int32)), .int (x5 + (1 : Int32))] [] (rx_hp L t hi28 hl28 v28) Q
              exact k
        · have k := k.2 c29
          show rx_aw 226 143 [.ref 90, .int x1, .long (x2 ||| ((hl 105 j12) ||| z25)), rx_no, .int x4, .int x5] [.int x4] (rx_hp L t hi28 hl28 v28) Q
          refine rx_aw_s 5 (pc := 143) rfl ?_
          show rx_aw 226 31 [.ref 90, .int x1, .long (x2 ||| ((hl 105 j12) ||| z25)), rx_no, .int (x4 &&& (0 : Int32)), .int (x5 + (1 : Int32))] [] (rx_hp L t hi28 hl28 v28) Q
          exact k
set_option maxRecDepth 100000 in
/-- CartFloorModel.leads(IIJ)Z -/
theorem w227_leads_r {L : Nat} {t : List (Nat × Nat)} {hi : Nat → Nat → Int32} {hl : Nat → Nat → Int64} {v : Nat → Nat → Option Nat} {Q : Option Value → rx_H → Prop} {a0 : Int32} {a1 : Int32} {a2 : Int64} (k : rx_aw 227 3 [.ref 90, .int a0, .int a1, .long a2, rx_no, .int (0 : Int32), rx_no, rx_no, rx_no] [] (rx_hp L t hi hl v) Q) : rx_me 227 [.ref 90, .int a0, .int a1, .long a2] (rx_hp L t hi hl v) Q := by
  show rx_aw 227 0 [.ref 90, .int a0, .int a1, .long a2, rx_no, rx_no, rx_no, rx_no, rx_no] [] (rx_hp L t hi hl v) Q
  refine rx_aw_s 2 (pc := 0) rfl ?_
  show rx_aw 227 3 [.ref 90, .int a0, .int a1, .long a2, rx_no, .int (0 : Int32), rx_no, rx_no, rx_no] [] (rx_hp L t hi hl v) Q
  exact k
set_option maxRecDepth 100000 in
theorem w227_leads_r_3 {L : Nat} {t : List (Nat × Nat)} {hi : Nat → Nat → Int32} {hl : Nat → Nat → Int64} {v : Nat → Nat → Option Nat} {Q : Option Value → rx_H → Prop} {x1 : Int32} {x2 : Int32} {x3 : Int64} {x5 : Int32} (k : (((64 : Int32) ≤ x5 → rx_aw 227 49 [.ref 90, .int x1, .int x2, .long x3, rx_no, .int (1 : Int32), rx_no, rx_no, rx_no] [] (rx_hp L t hi hl v) Q) ∧ (¬ ((64 : Int32) ≤ x5) → ((x5 = x1 → rx_me 169 [.int x5] (rx_hp L t hi hl v) (fun r h2 => ∃ z3 : Int64, r = some (.long z3) ∧ rx_ok2 L t h2 (fun hi3 hl3 v3 => (((lg_cmp (x3 &&& z3) (0 : Int64)) = 0 → (∃ j5 : Nat, x5 = nI j5 ∧ j5 < 64 ∧ rx_aw 227 3 [.ref 90, .int x1, .int x2, .long x3, rx_no, .int (x5 + (1 : Int32)), rx_no, rx_no, rx_no] [] (rx_hp L t (rx_u hi3 125 j5 (vp_nar .boolean (1 : Int32))) hl3 v3) Q)) ∧ (¬ ((lg_cmp (x3 &&& z3) (0 : Int64)) = 0) → (∃ j6 : Nat, x5 = nI j6 ∧ j6 < 64 ∧ rx_aw 227 3 [.ref 90, .int x1, .int x2, .long x3, rx_no, .int (x5 + (1 : Int32)), rx_no, rx_no, rx_no] [] (rx_hp L t (rx_u hi3 125 j6 (vp_nar .boolean (0 : Int32))) hl3 v3) Q)))))) ∧ (¬ (x5 = x1) → (∃ j7 : Nat, x5 = nI j7 ∧ j7 < 64 ∧ rx_aw 227 3 [.ref 90, .int x1, .int x2, .long x3, rx_no, .int (x5 + (1 : Int32)), rx_no, rx_no, rx_no] [] (rx_hp L t (rx_u hi 125 j7 (vp_nar .boolean (0 : Int32))) hl v) Q)))))) : rx_aw 227 3 [.ref 90, .int x1, .int x2, .long x3, rx_no, .int x5, rx_no, rx_no, rx_no] [] (rx_hp L t hi hl v) Q := by
  refine rx_aw_s 3 (pc := 3) rfl ?_
  refine rx_w_if (c := (64 : Int32) ≤ x5) ⟨fun c1 => ?_, fun c1 => ?_⟩
  · have k := k.1 c1
    show rx_aw 227 46 [.ref 90, .int x1, .int x2, .long x3, rx_no, .int x5, rx_no, rx_no, rx_no] [] (rx_hp L t hi hl v) Q
    refine rx_aw_s 2 (pc := 46) rfl ?_
    show rx_aw 227 49 [.ref 90, .int x1, .int x2, .long x3, rx_no, .int (1 : Int32), rx_no, rx_no, rx_no] [] (rx_hp L t hi hl v) Q
    exact k
  · have k := k.2 c1
    show rx_aw 227 10 [.ref 90, .int x1, .int x2, .long x3, rx_no, .int x5, rx_no, rx_no, rx_no] [] (rx_hp L t hi hl v) Q
    refine rx_aw_s 6 (pc := 10) rfl ?_
    refine rx_w_ifn (c := x5 = x1) ⟨fun c2 => ?_, fun c2 => ?_⟩
    · have k := k.1 c2
      show rx_aw 227 22 [.ref 90, .int x1, .int x2, .long x3, rx_no, .int x5, rx_no, rx_no, rx_no] [.int x5, .ref 125] (rx_hp L t hi hl v) Q
      refine rx_aw_s 2 (pc := 22) rfl ?_
      show rx_aw 227 25 [.ref 90, .int x1, .int x2, .long x3, rx_no, .int x5, rx_no, rx_no, rx_no] [.int x5, .long x3, .int x5, .ref 125] (rx_hp L t hi hl v) Q
      refine rx_w_callL (j := 169) (pc := 25) rfl rfl rfl rfl rfl ?_
      refine rx_aw.mono k (fun r h2 k => ?_)
      obtain ⟨z3, rfl, hi3, hl3, v3, rfl, k⟩ := k
      refine ⟨z3, rfl, ?_⟩
      show rx_aw 227 28 [.ref 90, .int x1, .int x2, .long x3, rx_no, .int x5, rx_no, rx_no, rx_no] [.long z3, .long x3, .int x5, .ref 125] (rx_hp L t hi3 hl3 v3) Q
      refine rx_aw_s 4 (pc := 28) rfl ?_
      refine rx_w_ifn (c := (lg_cmp (x3 &&& z3) (0 : Int64)) = 0) ⟨fun c4 => ?_, fun c4 => ?_⟩
      · have k := k.1 c4
        show rx_aw 227 34 [.ref 90, .int x1, .int x2, .long x3, rx_no, .int x5, rx_no, rx_no, rx_no] [.int x5, .ref 125] (rx_hp L t hi3 hl3 v3) Q
        refine rx_aw_s 2 (pc := 34) rfl ?_
        show rx_aw 227 39 [.ref 90, .int x1, .int x2, .long x3, rx_no, .int x5, rx_no, rx_no, rx_no] [.int (1 : Int32), .int x5, .ref 125] (rx_hp L t hi3 hl3 v3) Q
        obtain ⟨j5, ej5, hj5, k⟩ := k
        refine rx_aw_zast (pc := 39) (n := 64) j5 ej5 rfl rfl (by decide) rfl hj5 (by decide) ?_
        show rx_aw 227 40 [.ref 90, .int x1, .int x2, .long x3, rx_no, .int x5, rx_no, rx_no, rx_no] [] (rx_hp L t (rx_u hi3 125 j5 (vp_nar .boolean (1 : Int32))) hl3 v3) Q
        refine rx_aw_s 2 (pc := 40) rfl ?_
        show rx_aw 227 3 [.ref 90, .int x1, .int x2, .long x3, rx_no, .int (x5 + (1 : Int32)), rx_no, rx_no, rx_no] [] (rx_hp L t (rx_u hi3 125 j5 (vp_nar .boolean (1 : Int32))) hl3 v3) Q
        exact k
      · have k := k.2 c4
        show rx_aw 227 38 [.ref 90, .int x1, .int x2, .long x3, rx_no, .int x5, rx_no, rx_no, rx_no] [.int x5, .ref 125] (rx_hp L t hi3 hl3 v3) Q
        refine rx_aw_s 1 (pc := 38) rfl ?_
        show rx_aw 227 39 [.ref 90, .int x1, .int x2, .long x3, rx_no, .int x5, rx_no, rx_no, rx_no] [.int (0 : Int32), .int x5, .ref 125] (rx_hp L t hi3 hl3 v3) Q
        obtain ⟨j6, ej6, hj6, k⟩ := k
        refine rx_aw_zast (pc := 39) (n := 64) j6 ej6 rfl rfl (by decide) rfl hj6 (by decide) ?_
        show rx_aw 227 40 [.ref 90, .int x1, .int x2, .long x3, rx_no, .int x5, rx_no, rx_no, rx_no] [] (rx_hp L t (rx_u hi3 125 j6 (vp_nar .boolean (0 : Int32))) hl3 v3) Q
        refine rx_aw_s 2 (pc := 40) rfl ?_
        show rx_aw 227 3 [.ref 90, .int x1, .int x2, .long x3, rx_no, .int (x5 + (1 : Int32)), rx_no, rx_no, rx_no] [] (rx_hp L t (rx_u hi3 125 j6 (vp_nar .boolean (0 : Int32))) hl3 v3) Q
        exact k
    · have k := k.2 c2
      show rx_aw 227 38 [.ref 90, .int x1, .int x2, .long x3, rx_no, .int x5, rx_no, rx_no, rx_no] [.int x5, .ref 125] (rx_hp L t hi hl v) Q
      refine rx_aw_s 1 (pc := 38) rfl ?_
      show rx_aw 227 39 [.ref 90, .int x1, .int x2, .long x3, rx_no, .int x5, rx_no, rx_no, rx_no] [.int (0 : Int32), .int x5, .ref 125] (rx_hp L t hi hl v) Q
      obtain ⟨j7, ej7, hj7, k⟩ := k
      refine rx_aw_zast (pc := 39) (n := 64) j7 ej7 rfl rfl (by decide) rfl hj7 (by decide) ?_
      show rx_aw 227 40 [.ref 90, .int x1, .int x2, .long x3, rx_no, .int x5, rx_no, rx_no, rx_no] [] (rx_hp L t (rx_u hi 125 j7 (vp_nar .boolean (0 : Int32))) hl v) Q
      refine rx_aw_s 2 (pc := 40) rfl ?_
      show rx_aw 227 3 [.ref 90, .int x1, .int x2, .long x3, rx_no, .int (x5 + (1 : Int32)), rx_no, rx_no, rx_no] [] (rx_hp L t (rx_u hi 125 j7 (vp_nar .boolean (0 : Int32))) hl v) Q
      exact k
set_option maxRecDepth 100000 in
theorem w227_leads_r_49 {L : Nat} {t : List (Nat × Nat)} {hi : Nat → Nat → Int32} {hl : Nat → Nat → Int64} {v : Nat → Nat → Option Nat} {Q : Option Value → rx_H → Prop} {x1 : Int32} {x2 : Int32} {x3 : Int64} {x5 : Int32} (k : ((x5 = 0 → (∃ j9 : Nat, x2 = nI j9 ∧ j9 < 64 ∧ (((hi 125 j9) = 0 ∨ (hi 125 j9) = 1) ∧ Q (some (.int (hi 125 j9))) (rx_hp L t hi hl v)))) ∧ (¬ (x5 = 0) → rx_aw 227 60 [.ref 90, .int x1, .int x2, .long x3, rx_no, .int (0 : Int32), .int (0 : Int32), rx_no, rx_no] [] (rx_hp L t hi hl v) Q))) : rx_aw 227 49 [.ref 90, .int x1, .int x2, .long x3, rx_no, .int x5, rx_no, rx_no, rx_no] [] (rx_hp L t hi hl v) Q := by
  refine rx_aw_s 2 (pc := 49) rfl ?_
  refine rx_w_if (c := x5 = 0) ⟨fun c8 => ?_, fun c8 => ?_⟩
  · have k := k.1 c8
    show rx_aw 227 151 [.ref 90, .int x1, .int x2, .long x3, rx_no, .int x5, rx_no, rx_no, rx_no] [] (rx_hp L t hi hl v) Q
    refine rx_aw_s 3 (pc := 151) rfl ?_
    show rx_aw 227 156 [.ref 90, .int x1, .int x2, .long x3, rx_no, .int x5, rx_no, rx_no, rx_no] [.int x2, .ref 125] (rx_hp L t hi hl v) Q
    obtain ⟨j9, ej9, hj9, k⟩ := k
    refine rx_aw_bald (pc := 156) (n := 64) j9 ej9 rfl (Or.inr rfl) (by decide) rfl hj9 (by decide) ?_
    show rx_aw 227 157 [.ref 90, .int x1, .int x2, .long x3, rx_no, .int x5, rx_no, rx_no, rx_no] [.int (hi 125 j9)] (rx_hp L t hi hl v) Q
    exact rx_w_zret (pc := 157) rfl rfl k
  · have k := k.2 c8
    show rx_aw 227 54 [.ref 90, .int x1, .int x2, .long x3, rx_no, .int x5, rx_no, rx_no, rx_no] [] (rx_hp L t hi hl v) Q
    refine rx_aw_s 4 (pc := 54) rfl ?_
    show rx_aw 227 60 [.ref 90, .int x1, .int x2, .long x3, rx_no, .int (0 : Int32), .int (0 : Int32), rx_no, rx_no] [] (rx_hp L t hi hl v) Q
    exact k
set_option maxRecDepth 100000 in
theorem w227_leads_r_60 {L : Nat} {t : List (Nat × Nat)} {hi : Nat → Nat → Int32} {hl : Nat → Nat → Int64} {v : Nat → Nat → Option Nat} {Q : Option Value → rx_H → Prop} {x1 : Int32} {x2 : Int32} {x3 : Int64} {x5 : Int32} {x6 : Int32} (k : (((hi 90 2) ≤ x6 → rx_aw 227 49 [.ref 90, .int x1, .int x2, .long x3, rx_no, .int x5, rx_no, rx_no, rx_no] [] (rx_hp L t hi hl v) Q) ∧ (¬ ((hi 90 2) ≤ x6) → rx_aw 227 72 [.ref 90, .int x1, .int x2, .long x3, rx_no, .int x5, .int x6, .int (0 : Int32), rx_no] [] (rx_hp L t hi hl v) Q))) : rx_aw 227 60 [.ref 90, .int x1, .int x2, .long x3, rx_no, .int x5, .int x6, rx_no, rx_no] [] (rx_hp L t hi hl v) Q := by
  refine rx_aw_s 4 (pc := 60) rfl ?_
  refine rx_w_if (c := (hi 90 2) ≤ x6) ⟨fun c10 => ?_, fun c10 => ?_⟩
  · have k := k.1 c10
    show rx_aw 227 148 [.ref 90, .int x1, .int x2, .long x3, rx_no, .int x5, .int x6, rx_no, rx_no] [] (rx_hp L t hi hl v) Q
    refine rx_aw_s 1 (pc := 148) rfl ?_
    show rx_aw 227 49 [.ref 90, .int x1, .int x2, .long x3, rx_no, .int x5, .int x6, rx_no, rx_no] [] (rx_hp L t hi hl v) Q
    exact rx_aw_le (ls := [.ref 90, .int x1, .int x2, .long x3, rx_no, .int x5, rx_no, rx_no, rx_no]) ⟨Or.inr rfl, ⟨Or.inr rfl, ⟨Or.inr rfl, ⟨Or.inr rfl, ⟨Or.inl rfl, ⟨Or.inr rfl, ⟨Or.inl rfl, ⟨Or.inl rfl, ⟨Or.inl rfl, trivial⟩⟩⟩⟩⟩⟩⟩⟩⟩ k
  · have k := k.2 c10
    show rx_aw 227 69 [.ref 90, .int x1, .int x2, .long x3, rx_no, .int x5, .int x6, rx_no, rx_no] [] (rx_hp L t hi hl v) Q
    refine rx_aw_s 2 (pc := 69) rfl ?_
    show rx_aw 227 72 [.ref 90, .int x1, .int x2, .long x3, rx_no, .int x5, .int x6, .int (0 : Int32), rx_no] [] (rx_hp L t hi hl v) Q
    exact k
set_option maxRecDepth 100000 in
theorem w227_leads_r_72 {L : Nat} {t : List (Nat × Nat)} {hi : Nat → Nat → Int32} {hl : Nat → Nat → Int64} {v : Nat → Nat → Option Nat} {Q : Option Value → rx_H → Prop} {x1 : Int32} {x2 : Int32} {x3 : Int64} {x5 : Int32} {x6 : Int32} {x7 : Int32} (k : (((4 : Int32) ≤ x7 → rx_aw 227 60 [.ref 90, .int x1, .int x2, .long x3, rx_no, .int x5, .int (x6 + (1 : Int32)), rx_no, rx_no] [] (rx_hp L t hi hl v) Q) ∧ (¬ ((4 : Int32) ≤ x7) → (∃ j12 : Nat, x6 = nI j12 ∧ j12 < 64 ∧ (((hi 125 j12) = 0 → rx_aw 227 60 [.ref 90, .int x1, .int x2, .long x3, rx_no, .int x5, .int (x6 + (1 : Int32)), rx_no, rx_no] [] (rx_hp L t hi hl v) Q) ∧ (¬ ((hi 125 j12) = 0) → rx_me 181 [.ref 90, .int x6, .int x7] (rx_hp L t hi hl v) (fun r h2 => ∃ z14 : Int32, r = some (.int z14) ∧ rx_ok2 L t h2 (fun hi14 hl14 v14 => ((z14 < 0 → rx_aw 227 72 [.ref 90, .int x1, .int x2, .long x3, rx_no, .int x5, .int x6, .int (x7 + (1 : Int32)), rx_no] [] (rx_hp L t hi14 hl14 v14) Q) ∧ (¬ (z14 < 0) → (∃ j16 : Nat, z14 = nI j16 ∧ j16 < 64 ∧ (((hi14 125 j16) = 0 → rx_me 169 [.int z14] (rx_hp L t hi14 hl14 v14) (fun r h2 => ∃ z18 : Int64, r = some (.long z18) ∧ rx_ok2 L t h2 (fun hi18 hl18 v18 => (((lg_cmp (x3 &&& z18) (0 : Int64)) = 0 → (∃ j20 : Nat, z14 = nI j20 ∧ j20 < 64 ∧ rx_aw 227 72 [.ref 90, .int x1, .int x2, .long x3, rx_no, .int (1 : Int32), .int x6, .int (x7 + (1 : Int32)), rx_no] [] (rx_hp L t (rx_u hi18 125 j20 (vp_nar .boolean (1 : Int32))) hl18 v18) Q)) ∧ (¬ ((lg_cmp (x3 &&& z18) (0 : Int64)) = 0) → rx_aw 227 72 [.ref 90, .int x1, .int x2, .long x3, rx_no, .int x5, .int x6, .int (x7 + (1 : Int32)), rx_no] [] (rx_hp L t hi18 hl18 v18) Q))))) ∧ (¬ ((hi14 125 j16) = 0) → rx_aw 227 72 [.ref 90, .int x1, .int x2, .long x3, rx_no, .int x5, .int x6, .int (x7 + (1 : Int32)), rx_no] [] (rx_hp L t hi14 hl14 v14) Q))))))))))))) : rx_aw 227 72 [.ref 90, .int x1, .int x2, .long x3, rx_no, .int x5, .int x6, .int x7, rx_no] [] (rx_hp L t hi hl v) Q := by
  refine rx_aw_s 3 (pc := 72) rfl ?_
  refine rx_w_if (c := (4 : Int32) ≤ x7) ⟨fun c11 => ?_, fun c11 => ?_⟩
  · have k := k.1 c11
    show rx_aw 227 142 [.ref 90, .int x1, .int x2, .long x3, rx_no, .int x5, .int x6, .int x7, rx_no] [] (rx_hp L t hi hl v) Q
    refine rx_aw_s 2 (pc := 142) rfl ?_
    show rx_aw 227 60 [.ref 90, .int x1, .int x2, .long x3, rx_no, .int x5, .int (x6 + (1 : Int32)), .int x7, rx_no] [] (rx_hp L t hi hl v) Q
    exact rx_aw_le (ls := [.ref 90, .int x1, .int x2, .long x3, rx_no, .int x5, .int (x6 + (1 : Int32)), rx_no, rx_no]) ⟨Or.inr rfl, ⟨Or.inr rfl, ⟨Or.inr rfl, ⟨Or.inr rfl, ⟨Or.inl rfl, ⟨Or.inr rfl, ⟨Or.inr rfl, ⟨Or.inl rfl, ⟨Or.inl rfl, trivial⟩⟩⟩⟩⟩⟩⟩⟩⟩ k
  · have k := k.2 c11
    show rx_aw 227 78 [.ref 90, .int x1, .int x2, .long x3, rx_no, .int x5, .int x6, .int x7, rx_no] [] (rx_hp L t hi hl v) Q
    refine rx_aw_s 3 (pc := 78) rfl ?_
    show rx_aw 227 84 [.ref 90, .int x1, .int x2, .long x3, rx_no, .int x5, .int x6, .int x7, rx_no] [.int x6, .ref 125] (rx_hp L t hi hl v) Q
    obtain ⟨j12, ej12, hj12, k⟩ := k
    refine rx_aw_bald (pc := 84) (n := 64) j12 ej12 rfl (Or.inr rfl) (by decide) rfl hj12 (by decide) ?_
    show rx_aw 227 85 [.ref 90, .int x1, .int x2, .long x3, rx_no, .int x5, .int x6, .int x7, rx_no] [.int (hi 125 j12)] (rx_hp L t hi hl v) Q
    refine rx_aw_s 1 (pc := 85) rfl ?_
    refine rx_w_if (c := (hi 125 j12) = 0) ⟨fun c13 => ?_, fun c13 => ?_⟩
    · have k := k.1 c13
      show rx_aw 227 142 [.ref 90, .int x1, .int x2, .long x3, rx_no, .int x5, .int x6, .int x7, rx_no] [] (rx_hp L t hi hl v) Q
      refine rx_aw_s 2 (pc := 142) rfl ?_
      show rx_aw 227 60 [.ref 90, .int x1, .int x2, .long x3, rx_no, .int x5, .int (x6 + (1 : Int32)), .int x7, rx_no] [] (rx_hp L t hi hl v) Q
      exact rx_aw_le (ls := [.ref 90, .int x1, .int x2, .long x3, rx_no, .int x5, .int (x6 + (1 : Int32)), rx_no, rx_no]) ⟨Or.inr rfl, ⟨Or.inr rfl, ⟨Or.inr rfl, ⟨Or.inr rfl, ⟨Or.inl rfl, ⟨Or.inr rfl, ⟨Or.inr rfl, ⟨Or.inl rfl, ⟨Or.inl rfl, trivial⟩⟩⟩⟩⟩⟩⟩⟩⟩ k
    · have k := k.2 c13
      show rx_aw 227 88 [.ref 90, .int x1, .int x2, .long x3, rx_no, .int x5, .int x6, .int x7, rx_no] [] (rx_hp L t hi hl v) Q
      refine rx_aw_s 3 (pc := 88) rfl ?_
      show rx_aw 227 93 [.ref 90, .int x1, .int x2, .long x3, rx_no, .int x5, .int x6, .int x7, rx_no] [.int x7, .int x6, .ref 90] (rx_hp L t hi hl v) Q
      refine rx_w_callI (j := 181) (pc := 93) rfl rfl rfl rfl rfl ?_
      refine rx_aw.mono k (fun r h2 k => ?_)
      obtain ⟨z14, rfl, hi14, hl14, v14, rfl, k⟩ := k
      refine ⟨z14, rfl, ?_⟩
      show rx_aw 227 96 [.ref 90, .int x1, .int x2, .long x3, rx_no, .int x5, .int x6, .int x7, rx_no] [.int z14] (rx_hp L t hi14 hl14 v14) Q
      refine rx_aw_s 3 (pc := 96) rfl ?_
      refine rx_w_if (c := z14 < 0) ⟨fun c15 => ?_, fun c15 => ?_⟩
      · have k := k.1 c15
        show rx_aw 227 136 [.ref 90, .int x1, .int x2, .long x3, rx_no, .int x5, .int x6, .int x7, .int z14] [] (rx_hp L t hi14 hl14 v14) Q
        refine rx_aw_s 2 (pc := 136) rfl ?_
        show rx_aw 227 72 [.ref 90, .int x1, .int x2, .long x3, rx_no, .int x5, .int x6, .int (x7 + (1 : Int32)), .int z14] [] (rx_hp L t hi14 hl14 v14) Q
        exact rx_aw_le (ls := [.ref 90, .int x1, .int x2, .long x3, rx_no, .int x5, .int x6, .int (x7 + (1 : Int32)), rx_no]) ⟨Or.inr rfl, ⟨Or.inr rfl, ⟨Or.inr rfl, ⟨Or.inr rfl, ⟨Or.inl rfl, ⟨Or.inr rfl, ⟨Or.inr rfl, ⟨Or.inr rfl, ⟨Or.inl rfl, trivial⟩⟩⟩⟩⟩⟩⟩⟩⟩ k
      · have k := k.2 c15
        show rx_aw 227 103 [.ref 90, .int x1, .int x2, .long x3, rx_no, .int x5, .int x6, .int x7, .int z14] [] (rx_hp L t hi14 hl14 v14) Q
        refine rx_aw_s 3 (pc := 103) rfl ?_
        show rx_aw 227 109 [.ref 90, .int x1, .int x2, .long x3, rx_no, .int x5, .int x6, .int x7, .int z14] [.int z14, .ref 125] (rx_hp L t hi14 hl14 v14) Q
        obtain ⟨j16, ej16, hj16, k⟩ := k
        refine rx_aw_bald (pc := 109) (n := 64) j16 ej16 rfl (Or.inr rfl) (by decide) rfl hj16 (by decide) ?_
        show rx_aw 227 110 [.ref 90, .int x1, .int x2, .long x3, rx_no, .int x5, .int x6, .int x7, .int z14] [.int (hi14 125 j16)] (rx_hp L t hi14 hl14 v14) Q
        refine rx_aw_s 1 (pc := 110) rfl ?_
        refine rx_w_ifn (c := (hi14 125 j16) = 0) ⟨fun c17 => ?_, fun c17 => ?_⟩
        · have k := k.1 c17
          show rx_aw 227 113 [.ref 90, .int x1, .int x2, .long x3, rx_no, .int x5, .int x6, .int x7, .int z14] [] (rx_hp L t hi14 hl14 v14) Q
          refine rx_aw_s 2 (pc := 113) rfl ?_
          show rx_aw 227 116 [.ref 90, .int x1, .int x2, .long x3, rx_no, .int x5, .int x6, .int x7, .int z14] [.int z14, .long x3] (rx_hp L t hi14 hl14 v14) Q
          refine rx_w_callL (j := 169) (pc := 116) rfl rfl rfl rfl rfl ?_
          refine rx_aw.mono k (fun r h2 k => ?_)
          obtain ⟨z18, rfl, hi18, hl18, v18, rfl, k⟩ := k
          refine ⟨z18, rfl, ?_⟩
          show rx_aw 227 119 [.ref 90, .int x1, .int x2, .long x3, rx_no, .int x5, .int x6, .int x7, .int z14] [.long z18, .long x3] (rx_hp L t hi18 hl18 v18) Q
          refine rx_aw_s 4 (pc := 119) rfl ?_
          refine rx_w_ifn (c := (lg_cmp (x3 &&& z18) (0 : Int64)) = 0) ⟨fun c19 => ?_, fun c19 => ?_⟩
          · have k := k.1 c19
            show rx_aw 227 125 [.ref 90, .int x1, .int x2, .long x3, rx_no, .int x5, .int x6, .int x7, .int z14] [] (rx_hp L t hi18 hl18 v18) Q
            refine rx_aw_s 4 (pc := 125) rfl ?_
            show rx_aw 227 132 [.ref 90, .int x1, .int x2, .long x3, rx_no, .int x5, .int x6, .int x7, .int z14] [.int (1 : Int32), .int z14, .ref 125] (rx_hp L t hi18 hl18 v18) Q
            obtain ⟨j20, ej20, hj20, k⟩ := k
            refine rx_aw_zast (pc := 132) (n := 64) j20 ej20 rfl rfl (by decide) rfl hj20 (by decide) ?_
            show rx_aw 227 133 [.ref 90, .int x1, .int x2, .long x3, rx_no, .int x5, .int x6, .int x7, .int z14] [] (rx_hp L t (rx_u hi18 125 j20 (vp_nar .boolean (1 : Int32))) hl18 v18) Q
            refine rx_aw_s 4 (pc := 133) rfl ?_
            show rx_aw 227 72 [.ref 90, .int x1, .int x2, .long x3, rx_no, .int (1 : Int32), .int x6, .int (x7 + (1 : Int32)), .int z14] [] (rx_hp L t (rx_u hi18 125 j20 (vp_nar .boolean (1 : Int32))) hl18 v18) Q
            exact rx_aw_le (ls := [.ref 90, .int x1, .int x2, .long x3, rx_no, .int (1 : Int32), .int x6, .int (x7 + (1 : Int32)), rx_no]) ⟨Or.inr rfl, ⟨Or.inr rfl, ⟨Or.inr rfl, ⟨Or.inr rfl, ⟨Or.inl rfl, ⟨Or.inr rfl, ⟨Or.inr rfl, ⟨Or.inr rfl, ⟨Or.inl rfl, trivial⟩⟩⟩⟩⟩⟩⟩⟩⟩ k
          · have k := k.2 c19
            show rx_aw 227 136 [.ref 90, .int x1, .int x2, .long x3, rx_no, .int x5, .int x6, .int x7, .int z14] [] (rx_hp L t hi18 hl18 v18) Q
            refine rx_aw_s 2 (pc := 136) rfl ?_
            show rx_aw 227 72 [.ref 90, .int x1, .int x2, .long x3, rx_no, .int x5, .int x6, .int (x7 + (1 : Int32)), .int z14] [] (rx_hp L t hi18 hl18 v18) Q
            exact rx_aw_le (ls := [.ref 90, .int x1, .int x2, .long x3, rx_no, .int x5, .int x6, .int (x7 + (1 : Int32)), rx_no]) ⟨Or.inr rfl, ⟨Or.inr rfl, ⟨Or.inr rfl, ⟨Or.inr rfl, ⟨Or.inl rfl, ⟨Or.inr rfl, ⟨Or.inr rfl, ⟨Or.inr rfl, ⟨Or.inl rfl, trivial⟩⟩⟩⟩⟩⟩⟩⟩⟩ k
        · have k := k.2 c17
          show rx_aw 227 136 [.ref 90, .int x1, .int x2, .long x3, rx_no, .int x5, .int x6, .int x7, .int z14] [] (rx_hp L t hi14 hl14 v14) Q
          refine rx_aw_s 2 (pc := 136) rfl ?_
          show rx_aw 227 72 [.ref 90, .int x1, .int x2, .long x3, rx_no, .int x5, .int x6, .int (x7 + (1 : Int32)), .int z14] [] (rx_hp L t hi14 hl14 v14) Q
          exact rx_aw_le (ls := [.ref 90, .int x1, .int x2, .long x3, rx_no, .int x5, .int x6, .int (x7 + (1 : Int32)), rx_no]) ⟨Or.inr rfl, ⟨Or.inr rfl, ⟨Or.inr rfl, ⟨Or.inr rfl, ⟨Or.inl rfl, ⟨Or.inr rfl, ⟨Or.inr rfl, ⟨Or.inr rfl, ⟨Or.inl rfl, trivial⟩⟩⟩⟩⟩⟩⟩⟩⟩ k
set_option maxRecDepth 100000 in
/-- CartFloorModel.few(III)I -/
theorem w228_few_r {L : Nat} {t : List (Nat × Nat)} {hi : Nat → Nat → Int32} {hl : Nat → Nat → Int64} {v : Nat → Nat → Option Nat} {Q : Option Value → rx_H → Prop} {a0 : Int32} {a1 : Int32} {a2 : Int32} (k : ((a2 = (-1 : Int32) → (∃ j2 : Nat, (0 : Int32) = nI j2 ∧ j2 < 3 ∧ (∃ j3 : Nat, (1 : Int32) = nI j3 ∧ j3 < 3 ∧ (∃ j4 : Nat, (2 : Int32) = nI j4 ∧ j4 < 3 ∧ rx_me 229 [.ref 90, .int a0] (rx_hp L t (rx_u (rx_u (rx_u (rx_u hi 90 53 (2 : Int32)) 128 j2 a0) 128 j3 a1) 128 j4 a2) hl v) (fun r h2 => ∃ z5 : Int32, r = some (.int z5) ∧ rx_ok2 L t h2 (fun hi5 hl5 v5 => ((z5 = 0 → Q (some (.int (-2 : Int32))) (rx_hp L t hi5 hl5 v5)) ∧ (¬ (z5 = 0) → rx_me 229 [.ref 90, .int a1] (rx_hp L t hi5 hl5 v5) (fun r h2 => ∃ z7 : Int32, r = some (.int z7) ∧ rx_ok2 L t h2 (fun hi7 hl7 v7 => ((z7 = 0 → Q (some (.int (-2 : Int32))) (rx_hp L t hi7 hl7 v7)) ∧ (¬ (z7 = 0) → ((a0 = a1 → Q (some (.int (-2 : Int32))) (rx_hp L t hi7 hl7 v7)) ∧ (¬ (a0 = a1) → (((hi7 90 53) = (3 : Int32) → rx_me 229 [.ref 90, .int a2] (rx_hp L t hi7 hl7 v7) (fun r h2 => ∃ z11 : Int32, r = some (.int z11) ∧ rx_ok2 L t h2 (fun hi11 hl11 v11 => ((z11 = 0 → Q (some (.int (-2 : Int32))) (rx_hp L t hi11 hl11 v11)) ∧ (¬ (z11 = 0) → ((a2 = a0 → Q (some (.int (-2 : Int32))) (rx_hp L t hi11 hl11 v11)) ∧ (¬ (a2 = a0) → ((a2 = a1 → Q (some (.int (-2 : Int32))) (rx_hp L t hi11 hl11 v11)) ∧ (¬ (a2 = a1) → rx_aw 228 93 [.ref 90, .int a0, .int a1, .int a2, .int (0 : Int32), rx_no] [] (rx_hp L t (rx_u hi11 90 50 (0 : Int32)) hl11 v11) Q))))))))) ∧ (¬ ((hi7 90 53) = (3 : Int32)) → rx_aw 228 93 [.ref 90, .int a0, .int a1, .int a2, .int (0 : Int32), rx_no] [] (rx_hp L t (rx_u hi7 90 50 (0 : Int32)) hl7 v7) Q)))))))))))))))) ∧ (¬ (a2 = (-1 : Int32)) → (∃ j15 : Nat, (0 : Int32) = nI j15 ∧ j15 < 3 ∧ (∃ j16 : Nat, (1 : Int32) = nI j16 ∧ j16 < 3 ∧ (∃ j17 : Nat, (2 : Int32) = nI j17 ∧ j17 < 3 ∧ rx_me 229 [.ref 90, .int a0] (rx_hp L t (rx_u (rx_u (rx_u (rx_u hi 90 53 (3 : Int32)) 128 j15 a0) 128 j16 a1) 128 j17 a2) hl v) (fun r h2 => ∃ z18 : Int32, r = some (.int z18) ∧ rx_ok2 L t h2 (fun hi18 hl18 v18 => ((z18 = 0 → Q (some (.int (-2 : Int32))) (rx_hp L t hi18 hl18 v18)) ∧ (¬ (z18 = 0) → rx_me 229 [.ref 90, .int a1] (rx_hp L t hi18 hl18 v18) (fun r h2 => ∃ z20 : Int32, r = some (.int z20) ∧ rx_ok2 L t h2 (fun hi20 hl20 v20 => ((z20 = 0 → Q (some (.int (-2 : Int32))) (rx_hp L t hi20 hl20 v20)) ∧ (¬ (z20 = 0) → ((a0 = a1 → Q (some (.int (-2 : Int32))) (rx_hp L t hi20 hl20 v20)) ∧ (¬ (a0 = a1) → (((hi20 90 53) = (3 : Int32) → rx_me 229 [.ref 90, .int a2] (rx_hp L t hi20 hl20 v20) (fun r h2 => ∃ z24 : Int32, r = some (.int z24) ∧ rx_ok2 L t h2 (fun hi24 hl24 v24 => ((z24 = 0 → Q (some (.int (-2 : Int32))) (rx_hp L t hi24 hl24 v24)) ∧ (¬ (z24 = 0) → ((a2 = a0 → Q (some (.int (-2 : Int32))) (rx_hp L t hi24 hl24 v24)) ∧ (¬ (a2 = a0) → ((a2 = a1 → Q (some (.int (-2 : Int32))) (rx_hp L t hi24 hl24 v24)) ∧ (¬ (a2 = a1) → rx_aw 228 93 [.ref 90, .int a0, .int a1, .int a2, .int (0 : Int32), rx_no] [] (rx_hp L t (rx_u hi24 90 50 (0 : Int32)) hl24 v24) Q))))))))) ∧ (¬ ((hi20 90 53) = (3 : Int32)) → rx_aw 228 93 [.ref 90, .int a0, .int a1, .int a2, .int (0 : Int32), rx_no] [] (rx_hp L t (rx_u hi20 90 50 (0 : Int32)) hl20 v20) Q)))))))))))))))))) : rx_me 228 [.ref 90, .int a0, .int a1, .int a2] (rx_hp L t hi hl v) Q := by
  show rx_aw 228 0 [.ref 90, .int a0, .int a1, .int a2, rx_no, rx_no] [] (rx_hp L t hi hl v) Q
  refine rx_aw_s 4 (pc := 0) rfl ?_
  refine rx_w_ifn (c := a2 = (-1 : Int32)) ⟨fun c1 => ?_, fun c1 => ?_⟩
  · have k := k.1 c1
    show rx_aw 228 6 [.ref 90, .int a0, .int a1, .int a2, rx_no, rx_no] [.ref 90] (rx_hp L t hi hl v) Q
    refine rx_aw_s 7 (pc := 6) rfl ?_
    show rx_aw 228 20 [.ref 90, .int a0, .int a1, .int a2, rx_no, rx_no] [.int a0, .int (0 : Int32), .ref 128] (rx_hp L t (rx_u hi 90 53 (2 : Int32)) hl v) Q
    obtain ⟨j2, ej2, hj2, k⟩ := k
    refine rx_aw_iast (pc := 20) (n := 3) j2 ej2 rfl rfl (by decide) rfl hj2 (by decide) ?_
    show rx_aw 228 21 [.ref 90, .int a0, .int a1, .int a2, rx_no, rx_no] [] (rx_hp L t (rx_u (rx_u hi 90 53 (2 : Int32)) 128 j2 a0) hl v) Q
    refine rx_aw_s 4 (pc := 21) rfl ?_
    show rx_aw 228 27 [.ref 90, .int a0, .int a1, .int a2, rx_no, rx_no] [.int a1, .int (1 : Int32), .ref 128] (rx_hp L t (rx_u (rx_u hi 90 53 (2 : Int32)) 128 j2 a0) hl v) Q
    obtain ⟨j3, ej3, hj3, k⟩ := k
    refine rx_aw_iast (pc := 27) (n := 3) j3 ej3 rfl rfl (by decide) rfl hj3 (by decide) ?_
    show rx_aw 228 28 [.ref 90, .int a0, .int a1, .int a2, rx_no, rx_no] [] (rx_hp L t (rx_u (rx_u (rx_u hi 90 53 (2 : Int32)) 128 j2 a0) 128 j3 a1) hl v) Q
    refine rx_aw_s 4 (pc := 28) rfl ?_
    show rx_aw 228 34 [.ref 90, .int a0, .int a1, .int a2, rx_no, rx_no] [.int a2, .int (2 : Int32), .ref 128] (rx_hp L t (rx_u (rx_u (rx_u hi 90 53 (2 : Int32)) 128 j2 a0) 128 j3 a1) hl v) Q
    obtain ⟨j4, ej4, hj4, k⟩ := k
    refine rx_aw_iast (pc := 34) (n := 3) j4 ej4 rfl rfl (by decide) rfl hj4 (by decide) ?_
    show rx_aw 228 35 [.ref 90, .int a0, .int a1, .int a2, rx_no, rx_no] [] (rx_hp L t (rx_u (rx_u (rx_u (rx_u hi 90 53 (2 : Int32)) 128 j2 a0) 128 j3 a1) 128 j4 a2) hl v) Q
    refine rx_aw_s 2 (pc := 35) rfl ?_
    show rx_aw 228 37 [.ref 90, .int a0, .int a1, .int a2, rx_no, rx_no] [.int a0, .ref 90] (rx_hp L t (rx_u (rx_u (rx_u (rx_u hi 90 53 (2 : Int32)) 128 j2 a0) 128 j3 a1) 128 j4 a2) hl v) Q
    refine rx_w_callI (j := 229) (pc := 37) rfl rfl rfl rfl rfl ?_
    refine rx_aw.mono k (fun r h2 k => ?_)
    obtain ⟨z5, rfl, hi5, hl5, v5, rfl, k⟩ := k
    refine ⟨z5, rfl, ?_⟩
    show rx_aw 228 40 [.ref 90, .int a0, .int a1, .int a2, rx_no, rx_no] [.int z5] (rx_hp L t hi5 hl5 v5) Q
    refine rx_aw_s 1 (pc := 40) rfl ?_
    refine rx_w_if (c := z5 = 0) ⟨fun c6 => ?_, fun c6 => ?_⟩
    · have k := k.1 c6
      show rx_aw 228 82 [.ref 90, .int a0, .int a1, .int a2, rx_no, rx_no] [] (rx_hp L t hi5 hl5 v5) Q
      refine rx_aw_s 1 (pc := 82) rfl ?_
      show rx_aw 228 84 [.ref 90, .int a0, .int a1, .int a2, rx_no, rx_no] [.int (-2 : Int32)] (rx_hp L t hi5 hl5 v5) Q
      exact rx_aw_ret (pc := 84) rfl k
    · have k := k.2 c6
      show rx_aw 228 43 [.ref 90, .int a0, .int a1, .int a2, rx_no, rx_no] [] (rx_hp L t hi5 hl5 v5) Q
      refine rx_aw_s 2 (pc := 43) rfl ?_
      show rx_aw 228 45 [.ref 90, .int a0, .int a1, .int a2, rx_no, rx_no] [.int a1, .ref 90] (rx_hp L t hi5 hl5 v5) Q
      refine rx_w_callI (j := 229) (pc := 45) rfl rfl rfl rfl rfl ?_
      refine rx_aw.mono k (fun r h2 k => ?_)
      obtain ⟨z7, rfl, hi7, hl7, v7, rfl, k⟩ := k
      refine ⟨z7, rfl, ?_⟩
      show rx_aw 228 48 [.ref 90, .int a0, .int a1, .int a2, rx_no, rx_no] [.int z7] (rx_hp L t hi7 hl7 v7) Q
      refine rx_aw_s 1 (pc := 48) rfl ?_
      refine rx_w_if (c := z7 = 0) ⟨fun c8 => ?_, fun c8 => ?_⟩
      · have k := k.1 c8
        show rx_aw 228 82 [.ref 90, .int a0, .int a1, .int a2, rx_no, rx_no] [] (rx_hp L t hi7 hl7 v7) Q
        refine rx_aw_s 1 (pc := 82) rfl ?_
        show rx_aw 228 84 [.ref 90, .int a0, .int a1, .int a2, rx_no, rx_no] [.int (-2 : Int32)] (rx_hp L t hi7 hl7 v7) Q
        exact rx_aw_ret (pc := 84) rfl k
      · have k := k.2 c8
        show rx_aw 228 51 [.ref 90, .int a0, .int a1, .int a2, rx_no, rx_no] [] (rx_hp L t hi7 hl7 v7) Q
        refine rx_aw_s 3 (pc := 51) rfl ?_
        refine rx_w_if (c := a0 = a1) ⟨fun c9 => ?_, fun c9 => ?_⟩
        · have k := k.1 c9
          show rx_aw 228 82 [.ref 90, .int a0, .int a1, .int a2, rx_no, rx_no] [] (rx_hp L t hi7 hl7 v7) Q
          refine rx_aw_s 1 (pc := 82) rfl ?_
          show rx_aw 228 84 [.ref 90, .int a0, .int a1, .int a2, rx_no, rx_no] [.int (-2 : Int32)] (rx_hp L t hi7 hl7 v7) Q
          exact rx_aw_ret (pc := 84) rfl k
        · have k := k.2 c9
          show rx_aw 228 56 [.ref 90, .int a0, .int a1, .int a2, rx_no, rx_no] [] (rx_hp L t hi7 hl7 v7) Q
          refine rx_aw_s 4 (pc := 56) rfl ?_
          refine rx_w_ifn (c := (hi7 90 53) = (3 : Int32)) ⟨fun c10 => ?_, fun c10 => ?_⟩
          · have k := k.1 c10
            show rx_aw 228 64 [.ref 90, .int a0, .int a1, .int a2, rx_no, rx_no] [] (rx_hp L t hi7 hl7 v7) Q
            refine rx_aw_s 2 (pc := 64) rfl ?_
            show rx_aw 228 66 [.ref 90, .int a0, .int a1, .int a2, rx_no, rx_no] [.int a2, .ref 90] (rx_hp L t hi7 hl7 v7) Q
            refine rx_w_callI (j := 229) (pc := 66) rfl rfl rfl rfl rfl ?_
            refine rx_aw.mono k (fun r h2 k => ?_)
            obtain ⟨z11, rfl, hi11, hl11, v11, rfl, k⟩ := k
            refine ⟨z11, rfl, ?_⟩
            show rx_aw 228 69 [.ref 90, .int a0, .int a1, .int a2, rx_no, rx_no] [.int z11] (rx_hp L t hi11 hl11 v11) Q
            refine rx_aw_s 1 (pc := 69) rfl ?_
            refine rx_w_if (c := z11 = 0) ⟨fun c12 => ?_, fun c12 => ?_⟩
            · have k := k.1 c12
              show rx_aw 228 82 [.ref 90, .int a0, .int a1, .int a2, rx_no, rx_no] [] (rx_hp L t hi11 hl11 v11) Q
              refine rx_aw_s 1 (pc := 82) rfl ?_
              show rx_aw 228 84 [.ref 90, .int a0, .int a1, .int a2, rx_no, rx_no] [.int (-2 : Int32)] (rx_hp L t hi11 hl11 v11) Q
              exact rx_aw_ret (pc := 84) rfl k
            · have k := k.2 c12
              show rx_aw 228 72 [.ref 90, .int a0, .int a1, .int a2, rx_no, rx_no] [] (rx_hp L t hi11 hl11 v11) Q
              refine rx_aw_s 3 (pc := 72) rfl ?_
              refine rx_w_if (c := a2 = a0) ⟨fun c13 => ?_, fun c13 => ?_⟩
              · have k := k.1 c13
                show rx_aw 228 82 [.ref 90, .int a0, .int a1, .int a2, rx_no, rx_no] [] (rx_hp L t hi11 hl11 v11) Q
                refine rx_aw_s 1 (pc := 82) rfl ?_
                show rx_aw 228 84 [.ref 90, .int a0, .int a1, .int a2, rx_no, rx_no] [.int (-2 : Int32)] (rx_hp L t hi11 hl11 v11) Q
                exact rx_aw_ret (pc := 84) rfl k
              · have k := k.2 c13
                show rx_aw 228 77 [.ref 90, .int a0, .int a1, .int a2, rx_no, rx_no] [] (rx_hp L t hi11 hl11 v11) Q
                refine rx_aw_s 3 (pc := 77) rfl ?_
                refine rx_w_ifn (c := a2 = a1) ⟨fun c14 => ?_, fun c14 => ?_⟩
                · have k := k.1 c14
                  show rx_aw 228 82 [.ref 90, .int a0, .int a1, .int a2, rx_no, rx_no] [] (rx_hp L t hi11 hl11 v11) Q
                  refine rx_aw_s 1 (pc := 82) rfl ?_
                  show rx_aw 228 84 [.ref 90, .int a0, .int a1, .int a2, rx_no, rx_no] [.int (-2 : Int32)] (rx_hp L t hi11 hl11 v11) Q
                  exact rx_aw_ret (pc := 84) rfl k
                · have k := k.2 c14
                  show rx_aw 228 85 [.ref 90, .int a0, .int a1, .int a2, rx_no, rx_no] [] (rx_hp L t hi11 hl11 v11) Q
                  refine rx_aw_s 5 (pc := 85) rfl ?_
                  show rx_aw 228 93 [.ref 90, .int a0, .int a1, .int a2, .int (0 : Int32), rx_no] [] (rx_hp L t (rx_u hi11 90 50 (0 : Int32)) hl11 v11) Q
                  exact k
          · have k := k.2 c10
            show rx_aw 228 85 [.ref 90, .int a0, .int a1, .int a2, rx_no, rx_no] [] (rx_hp L t hi7 hl7 v7) Q
            refine rx_aw_s 5 (pc := 85) rfl ?_
            show rx_aw 228 93 [.ref 90, .int a0, .int a1, .int a2, .int (0 : Int32), rx_no] [] (rx_hp L t (rx_u hi7 90 50 (0 : Int32)) hl7 v7) Q
            exact k
  · have k := k.2 c1
    show rx_aw 228 10 [.ref 90, .int a0, .int a1, .int a2, rx_no, rx_no] [.ref 90] (rx_hp L t hi hl v) Q
    refine rx_aw_s 6 (pc := 10) rfl ?_
    show rx_aw 228 20 [.ref 90, .int a0, .int a1, .int a2, rx_no, rx_no] [.int a0, .int (0 : Int32), .ref 128] (rx_hp L t (rx_u hi 90 53 (3 : Int32)) hl v) Q
    obtain ⟨j15, ej15, hj15, k⟩ := k
    refine rx_aw_iast (pc := 20) (n := 3) j15 ej15 rfl rfl (by decide) rfl hj15 (by decide) ?_
    show rx_aw 228 21 [.ref 90, .int a0, .int a1, .int a2, rx_no, rx_no] [] (rx_hp L t (rx_u (rx_u hi 90 53 (3 : Int32)) 128 j15 a0) hl v) Q
    refine rx_aw_s 4 (pc := 21) rfl ?_
    show rx_aw 228 27 [.ref 90, .int a0, .int a1, .int a2, rx_no, rx_no] [.int a1, .int (1 : Int32), .ref 128] (rx_hp L t (rx_u (rx_u hi 90 53 (3 : Int32)) 128 j15 a0) hl v) Q
    obtain ⟨j16, ej16, hj16, k⟩ := k
    refine rx_aw_iast (pc := 27) (n := 3) j16 ej16 rfl rfl (by decide) rfl hj16 (by decide) ?_
    show rx_aw 228 28 [.ref 90, .int a0, .int a1, .int a2, rx_no, rx_no] [] (rx_hp L t (rx_u (rx_u (rx_u hi 90 53 (3 : Int32)) 128 j15 a0) 128 j16 a1) hl v) Q
    refine rx_aw_s 4 (pc := 28) rfl ?_
    show rx_aw 228 34 [.ref 90, .int a0, .int a1, .int a2, rx_no, rx_no] [.int a2, .int (2 : Int32), .ref 128] (rx_hp L t (rx_u (rx_u (rx_u hi 90 53 (3 : Int32)) 128 j15 a0) 128 j16 a1) hl v) Q
    obtain ⟨j17, ej17, hj17, k⟩ := k
    refine rx_aw_iast (pc := 34) (n := 3) j17 ej17 rfl rfl (by decide) rfl hj17 (by decide) ?_
    show rx_aw 228 35 [.ref 90, .int a0, .int a1, .int a2, rx_no, rx_no] [] (rx_hp L t (rx_u (rx_u (rx_u (rx_u hi 90 53 (3 : Int32)) 128 j15 a0) 128 j16 a1) 128 j17 a2) hl v) Q
    refine rx_aw_s 2 (pc := 35) rfl ?_
    show rx_aw 228 37 [.ref 90, .int a0, .int a1, .int a2, rx_no, rx_no] [.int a0, .ref 90] (rx_hp L t (rx_u (rx_u (rx_u (rx_u hi 90 53 (3 : Int32)) 128 j15 a0) 128 j16 a1) 128 j17 a2) hl v) Q
    refine rx_w_callI (j := 229) (pc := 37) rfl rfl rfl rfl rfl ?_
    refine rx_aw.mono k (fun r h2 k => ?_)
    obtain ⟨z18, rfl, hi18, hl18, v18, rfl, k⟩ := k
    refine ⟨z18, rfl, ?_⟩
    show rx_aw 228 40 [.ref 90, .int a0, .int a1, .int a2, rx_no, rx_no] [.int z18] (rx_hp L t hi18 hl18 v18) Q
    refine rx_aw_s 1 (pc := 40) rfl ?_
    refine rx_w_if (c := z18 = 0) ⟨fun c19 => ?_, fun c19 => ?_⟩
    · have k := k.1 c19
      show rx_aw 228 82 [.ref 90, .int a0, .int a1, .int a2, rx_no, rx_no] [] (rx_hp L t hi18 hl18 v18) Q
      refine rx_aw_s 1 (pc := 82) rfl ?_
      show rx_aw 228 84 [.ref 90, .int a0, .int a1, .int a2, rx_no, rx_no] [.int (-2 : Int32)] (rx_hp L t hi18 hl18 v18) Q
      exact rx_aw_ret (pc := 84) rfl k
    · have k := k.2 c19
      show rx_aw 228 43 [.ref 90, .int a0, .int a1, .int a2, rx_no, rx_no] [] (rx_hp L t hi18 hl18 v18) Q
      refine rx_aw_s 2 (pc := 43) rfl ?_
      show rx_aw 228 45 [.ref 90, .int a0, .int a1, .int a2, rx_no, rx_no] [.int a1, .ref 90] (rx_hp L t hi18 hl18 v18) Q
      refine rx_w_callI (j := 229) (pc := 45) rfl rfl rfl rfl rfl ?_
      refine rx_aw.mono k (fun r h2 k => ?_)
      obtain ⟨z20, rfl, hi20, hl20, v20, rfl, k⟩ := k
      refine ⟨z20, rfl, ?_⟩
      show rx_aw 228 48 [.ref 90, .int a0, .int a1, .int a2, rx_no, rx_no] [.int z20] (rx_hp L t hi20 hl20 v20) Q
      refine rx_aw_s 1 (pc := 48) rfl ?_
      refine rx_w_if (c := z20 = 0) ⟨fun c21 => ?_, fun c21 => ?_⟩
      · have k := k.1 c21
        show rx_aw 228 82 [.ref 90, .int a0, .int a1, .int a2, rx_no, rx_no] [] (rx_hp L t hi20 hl20 v20) Q
        refine rx_aw_s 1 (pc := 82) rfl ?_
        show rx_aw 228 84 [.ref 90, .int a0, .int a1, .int a2, rx_no, rx_no] [.int (-2 : Int32)] (rx_hp L t hi20 hl20 v20) Q
        exact rx_aw_ret (pc := 84) rfl k
      · have k := k.2 c21
        show rx_aw 228 51 [.ref 90, .int a0, .int a1, .int a2, rx_no, rx_no] [] (rx_hp L t hi20 hl20 v20) Q
        refine rx_aw_s 3 (pc := 51) rfl ?_
        refine rx_w_if (c := a0 = a1) ⟨fun c22 => ?_, fun c22 => ?_⟩
        · have k := k.1 c22
          show rx_aw 228 82 [.ref 90, .int a0, .int a1, .int a2, rx_no, rx_no] [] (rx_hp L t hi20 hl20 v20) Q
          refine rx_aw_s 1 (pc := 82) rfl ?_
          show rx_aw 228 84 [.ref 90, .int a0, .int a1, .int a2, rx_no, rx_no] [.int (-2 : Int32)] (rx_hp L t hi20 hl20 v20) Q
          exact rx_aw_ret (pc := 84) rfl k
        · have k := k.2 c22
          show rx_aw 228 56 [.ref 90, .int a0, .int a1, .int a2, rx_no, rx_no] [] (rx_hp L t hi20 hl20 v20) Q
          refine rx_aw_s 4 (pc := 56) rfl ?_
          refine rx_w_ifn (c := (hi20 90 53) = (3 : Int32)) ⟨fun c23 => ?_, fun c23 => ?_⟩
          · have k := k.1 c23
            show rx_aw 228 64 [.ref 90, .int a0, .int a1, .int a2, rx_no, rx_no] [] (rx_hp L t hi20 hl20 v20) Q
            refine rx_aw_s 2 (pc := 64) rfl ?_
            show rx_aw 228 66 [.ref 90, .int a0, .int a1, .int a2, rx_no, rx_no] [.int a2, .ref 90] (rx_hp L t hi20 hl20 v20) Q
            refine rx_w_callI (j := 229) (pc := 66) rfl rfl rfl rfl rfl ?_
            refine rx_aw.mono k (fun r h2 k => ?_)
            obtain ⟨z24, rfl, hi24, hl24, v24, rfl, k⟩ := k
            refine ⟨z24, rfl, ?_⟩
            show rx_aw 228 69 [.ref 90, .int a0, .int a1, .int a2, rx_no, rx_no] [.int z24] (rx_hp L t hi24 hl24 v24) Q
            refine rx_aw_s 1 (pc := 69) rfl ?_
            refine rx_w_if (c := z24 = 0) ⟨fun c25 => ?_, fun c25 => ?_⟩
            · have k := k.1 c25
              show rx_aw 228 82 [.ref 90, .int a0, .int a1, .int a2, rx_no, rx_no] [] (rx_hp L t hi24 hl24 v24) Q
              refine rx_aw_s 1 (pc := 82) rfl ?_
              show rx_aw 228 84 [.ref 90, .int a0, .int a1, .int a2, rx_no, rx_no] [.int (-2 : Int32)] (rx_hp L t hi24 hl24 v24) Q
              exact rx_aw_ret (pc := 84) rfl k
            · have k := k.2 c25
              show rx_aw 228 72 [.ref 90, .int a0, .int a1, .int a2, rx_no, rx_no] [] (rx_hp L t hi24 hl24 v24) Q
              refine rx_aw_s 3 (pc := 72) rfl ?_
              refine rx_w_if (c := a2 = a0) ⟨fun c26 => ?_, fun c26 => ?_⟩
              · have k := k.1 c26
                show rx_aw 228 82 [.ref 90, .int a0, .int a1, .int a2, rx_no, rx_no] [] (rx_hp L t hi24 hl24 v24) Q
                refine rx_aw_s 1 (pc := 82) rfl ?_
                show rx_aw 228 84 [.ref 90, .int a0, .int a1, .int a2, rx_no, rx_no] [.int (-2 : Int32)] (rx_hp L t hi24 hl24 v24) Q
                exact rx_aw_ret (pc := 84) rfl k
              · have k := k.2 c26
                show rx_aw 228 77 [.ref 90, .int a0, .int a1, .int a2, rx_no, rx_no] [] (rx_hp L t hi24 hl24 v24) Q
                refine rx_aw_s 3 (pc := 77) rfl ?_
                refine rx_w_ifn (c := a2 = a1) ⟨fun c27 => ?_, fun c27 => ?_⟩
                · have k := k.1 c27
                  show rx_aw 228 82 [.ref 90, .int a0, .int a1, .int a2, rx_no, rx_no] [] (rx_hp L t hi24 hl24 v24) Q
                  refine rx_aw_s 1 (pc := 82) rfl ?_
                  show rx_aw 228 84 [.ref 90, .int a0, .int a1, .int a2, rx_no, rx_no] [.int (-2 : Int32)] (rx_hp L t hi24 hl24 v24) Q
                  exact rx_aw_ret (pc := 84) rfl k
                · have k := k.2 c27
                  show rx_aw 228 85 [.ref 90, .int a0, .int a1, .int a2, rx_no, rx_no] [] (rx_hp L t hi24 hl24 v24) Q
                  refine rx_aw_s 5 (pc := 85) rfl ?_
                  show rx_aw 228 93 [.ref 90, .int a0, .int a1, .int a2, .int (0 : Int32), rx_no] [] (rx_hp L t (rx_u hi24 90 50 (0 : Int32)) hl24 v24) Q
                  exact k
          · have k := k.2 c23
            show rx_aw 228 85 [.ref 90, .int a0, .int a1, .int a2, rx_no, rx_no] [] (rx_hp L t hi20 hl20 v20) Q
            refine rx_aw_s 5 (pc := 85) rfl ?_
            show rx_aw 228 93 [.ref 90, .int a0, .int a1, .int a2, .int (0 : Int32), rx_no] [] (rx_hp L t (rx_u hi20 90 50 (0 : Int32)) hl20 v20) Q
            exact k
set_option maxRecDepth 100000 in
theorem w228_few_r_93 {L : Nat} {t : List (Nat × Nat)} {hi : Nat → Nat → Int32} {hl : Nat → Nat → Int64} {v : Nat → Nat → Option Nat} {Q : Option Value → rx_H → Prop} {x1 : Int32} {x2 : Int32} {x3 : Int32} {x4 : Int32} (k : (((hi 90 2) ≤ x4 → rx_aw 228 172 [.ref 90, .int x1, .int x2, .int x3, .int (0 : Int32), rx_no] [] (rx_hp L t hi hl v) Q) ∧ (¬ ((hi 90 2) ≤ x4) → (∃ j29 : Nat, x4 = nI j29 ∧ j29 < 64 ∧ rx_me 168 [.ref 90, .int x4] (rx_hp L t (rx_u hi 127 j29 (-1 : Int32)) hl v) (fun r h2 => ∃ z30 : Int32, r = some (.int z30) ∧ rx_ok2 L t h2 (fun hi30 hl30 v30 => ((z30 = 0 → (((hi30 90 50) = (20 : Int32) → Q (some (.int (-2 : Int32))) (rx_hp L t hi30 hl30 v30)) ∧ (¬ ((hi30 90 50) = (20 : Int32)) → (∃ j33 : Nat, (hi30 90 50) = nI j33 ∧ j33 < 20 ∧ (∃ j34 : Nat, x4 = nI j34 ∧ j34 < 64 ∧ rx_aw 228 93 [.ref 90, .int x1, .int x2, .int x3, .int (x4 + (1 : Int32)), rx_no] [] (rx_hp L t (rx_u (rx_u (rx_u hi30 126 j33 x4) 127 j34 ((rx_u hi30 126 j33 x4) 90 50)) 90 50 (((rx_u (rx_u hi30 126 j33 x4) 127 j34 ((rx_u hi30 126 j33 x4) 90 50)) 90 50) + (1 : Int32))) hl30 v30) Q))))) ∧ (¬ (z30 = 0) → rx_aw 228 93 [.ref 90, .int x1, .int x2, .int x3, .int (x4 + (1 : Int32)), rx_no] [] (rx_hp L t hi30 hl30 v30) Q)))))))) : rx_aw 228 93 [.ref 90, .int x1, .int x2, .int x3, .int x4, rx_no] [] (rx_hp L t hi hl v) Q := by
  refine rx_aw_s 4 (pc := 93) rfl ?_
  refine rx_w_if (c := (hi 90 2) ≤ x4) ⟨fun c28 => ?_, fun c28 => ?_⟩
  · have k := k.1 c28
    show rx_aw 228 169 [.ref 90, .int x1, .int x2, .int x3, .int x4, rx_no] [] (rx_hp L t hi hl v) Q
    refine rx_aw_s 2 (pc := 169) rfl ?_
    show rx_aw 228 172 [.ref 90, .int x1, .int x2, .int x3, .int (0 : Int32), rx_no] [] (rx_hp L t hi hl v) Q
    exact k
  · have k := k.2 c28
    show rx_aw 228 102 [.ref 90, .int x1, .int x2, .int x3, .int x4, rx_no] [] (rx_hp L t hi hl v) Q
    refine rx_aw_s 4 (pc := 102) rfl ?_
    show rx_aw 228 109 [.ref 90, .int x1, .int x2, .int x3, .int x4, rx_no] [.int (-1 : Int32), .int x4, .ref 127] (rx_hp L t hi hl v) Q
    obtain ⟨j29, ej29, hj29, k⟩ := k
    refine rx_aw_iast (pc := 109) (n := 64) j29 ej29 rfl rfl (by decide) rfl hj29 (by decide) ?_
    show rx_aw 228 110 [.ref 90, .int x1, .int x2, .int x3, .int x4, rx_no] [] (rx_hp L t (rx_u hi 127 j29 (-1 : Int32)) hl v) Q
    refine rx_aw_s 2 (pc := 110) rfl ?_
    show rx_aw 228 113 [.ref 90, .int x1, .int x2, .int x3, .int x4, rx_no] [.int x4, .ref 90] (rx_hp L t (rx_u hi 127 j29 (-1 : Int32)) hl v) Q
    refine rx_w_callI (j := 168) (pc := 113) rfl rfl rfl rfl rfl ?_
    refine rx_aw.mono k (fun r h2 k => ?_)
    obtain ⟨z30, rfl, hi30, hl30, v30, rfl, k⟩ := k
    refine ⟨z30, rfl, ?_⟩
    show rx_aw 228 116 [.ref 90, .int x1, .int x2, .int x3, .int x4, rx_no] [.int z30] (rx_hp L t hi30 hl30 v30) Q
    refine rx_aw_s 1 (pc := 116) rfl ?_
    refine rx_w_ifn (c := z30 = 0) ⟨fun c31 => ?_, fun c31 => ?_⟩
    · have k := k.1 c31
      show rx_aw 228 119 [.ref 90, .int x1, .int x2, .int x3, .int x4, rx_no] [] (rx_hp L t hi30 hl30 v30) Q
      refine rx_aw_s 4 (pc := 119) rfl ?_
      refine rx_w_ifn (c := (hi30 90 50) = (20 : Int32)) ⟨fun c32 => ?_, fun c32 => ?_⟩
      · have k := k.1 c32
        show rx_aw 228 128 [.ref 90, .int x1, .int x2, .int x3, .int x4, rx_no] [] (rx_hp L t hi30 hl30 v30) Q
        refine rx_aw_s 1 (pc := 128) rfl ?_
        show rx_aw 228 130 [.ref 90, .int x1, .int x2, .int x3, .int x4, rx_no] [.int (-2 : Int32)] (rx_hp L t hi30 hl30 v30) Q
        exact rx_aw_ret (pc := 130) rfl k
      · have k := k.2 c32
        show rx_aw 228 131 [.ref 90, .int x1, .int x2, .int x3, .int x4, rx_no] [] (rx_hp L t hi30 hl30 v30) Q
        refine rx_aw_s 5 (pc := 131) rfl ?_
        show rx_aw 228 141 [.ref 90, .int x1, .int x2, .int x3, .int x4, rx_no] [.int x4, .int (hi30 90 50), .ref 126] (rx_hp L t hi30 hl30 v30) Q
        obtain ⟨j33, ej33, hj33, k⟩ := k
        refine rx_aw_iast (pc := 141) (n := 20) j33 ej33 rfl rfl (by decide) rfl hj33 (by decide) ?_
        show rx_aw 228 142 [.ref 90, .int x1, .int x2, .int x3, .int x4, rx_no] [] (rx_hp L t (rx_u hi30 126 j33 x4) hl30 v30) Q
        refine rx_aw_s 5 (pc := 142) rfl ?_
        show rx_aw 228 152 [.ref 90, .int x1, .int x2, .int x3, .int x4, rx_no] [.int ((rx_u hi30 126 j33 x4) 90 50), .int x4, .ref 127] (rx_hp L t (rx_u hi30 126 j33 x4) hl30 v30) Q
        obtain ⟨j34, ej34, hj34, k⟩ := k
        refine rx_aw_iast (pc := 152) (n := 64) j34 ej34 rfl rfl (by decide) rfl hj34 (by decide) ?_
        show rx_aw 228 153 [.ref 90, .int x1, .int x2, .int x3, .int x4, rx_no] [] (rx_hp L t (rx_u (rx_u hi30 126 j33 x4) 127 j34 ((rx_u hi30 126 j33 x4) 90 50)) hl30 v30) Q
        refine rx_aw_s 8 (pc := 153) rfl ?_
        show rx_aw 228 93 [.ref 90, .int x1, .int x2, .int x3, .int (x4 + (1 : Int32)), rx_no] [] (rx_hp L t (rx_u (rx_u (rx_u hi30 126 j33 x4) 127 j34 ((rx_u hi30 126 j33 x4) 90 50)) 90 50 (((rx_u (rx_u hi30 126 j33 x4) 127 j34 ((rx_u hi30 126 j33 x4) 90 50)) 90 50) + (1 : Int32))) hl30 v30) Q
        exact k
    · have k := k.2 c31
      show rx_aw 228 163 [.ref 90, .int x1, .int x2, .int x3, .int x4, rx_no] [] (rx_hp L t hi30 hl30 v30) Q
      refine rx_aw_s 2 (pc := 163) rfl ?_
      show rx_aw 228 93 [.ref 90, .int x1, .int x2, .int x3, .int (x4 + (1 : Int32)), rx_no] [] (rx_hp L t hi30 hl30 v30) Q
      exact k
set_option maxRecDepth 100000 in
theorem w228_few_r_172 {L : Nat} {t : List (Nat × Nat)} {hi : Nat → Nat → Int32} {hl : Nat → Nat → Int64} {v : Nat → Nat → Option Nat} {Q : Option Value → rx_H → Prop} {x1 : Int32} {x2 : Int32} {x3 : Int32} {x4 : Int32} (k : (((64000 : Int32) ≤ x4 → rx_aw 228 206 [.ref 90, .int x1, .int x2, .int x3, .int (0 : Int32), rx_no] [] (rx_hp L t hi hl v) Q) ∧ (¬ ((64000 : Int32) ≤ x4) → (∃ j36 : Nat, x4 = nI j36 ∧ j36 < 64000 ∧ (∃ j37 : Nat, x4 = nI j37 ∧ j37 < 64000 ∧ rx_aw 228 172 [.ref 90, .int x1, .int x2, .int x3, .int (x4 + (1 : Int32)), rx_no] [] (rx_hp L t (rx_u (rx_u hi 129 j36 (1000000 : Int32)) 130 j37 (vp_nar .boolean (0 : Int32))) hl v) Q))))) : rx_aw 228 172 [.ref 90, .int x1, .int x2, .int x3, .int x4, rx_no] [] (rx_hp L t hi hl v) Q := by
  refine rx_aw_s 3 (pc := 172) rfl ?_
  refine rx_w_if (c := (64000 : Int32) ≤ x4) ⟨fun c35 => ?_, fun c35 => ?_⟩
  · have k := k.1 c35
    show rx_aw 228 203 [.ref 90, .int x1, .int x2, .int x3, .int x4, rx_no] [] (rx_hp L t hi hl v) Q
    refine rx_aw_s 2 (pc := 203) rfl ?_
    show rx_aw 228 206 [.ref 90, .int x1, .int x2, .int x3, .int (0 : Int32), rx_no] [] (rx_hp L t hi hl v) Q
    exact k
  · have k := k.2 c35
    show rx_aw 228 179 [.ref 90, .int x1, .int x2, .int x3, .int x4, rx_no] [] (rx_hp L t hi hl v) Q
    refine rx_aw_s 4 (pc := 179) rfl ?_
    show rx_aw 228 188 [.ref 90, .int x1, .int x2, .int x3, .int x4, rx_no] [.int (1000000 : Int32), .int x4, .ref 129] (rx_hp L t hi hl v) Q
    obtain ⟨j36, ej36, hj36, k⟩ := k
    refine rx_aw_iast (pc := 188) (n := 64000) j36 ej36 rfl rfl (by decide) rfl hj36 (by decide) ?_
    show rx_aw 228 189 [.ref 90, .int x1, .int x2, .int x3, .int x4, rx_no] [] (rx_hp L t (rx_u hi 129 j36 (1000000 : Int32)) hl v) Q
    refine rx_aw_s 4 (pc := 189) rfl ?_
    show rx_aw 228 196 [.ref 90, .int x1, .int x2, .int x3, .int x4, rx_no] [.int (0 : Int32), .int x4, .ref 130] (rx_hp L t (rx_u hi 129 j36 (1000000 : Int32)) hl v) Q
    obtain ⟨j37, ej37, hj37, k⟩ := k
    refine rx_aw_zast (pc := 196) (n := 64000) j37 ej37 rfl rfl (by decide) rfl hj37 (by decide) ?_
    show rx_aw 228 197 [.ref 90, .int x1, .int x2, .int x3, .int x4, rx_no] [] (rx_hp L t (rx_u (rx_u hi 129 j36 (1000000 : Int32)) 130 j37 (vp_nar .boolean (0 : Int32))) hl v) Q
    refine rx_aw_s 2 (pc := 197) rfl ?_
    show rx_aw 228 172 [.ref 90, .int x1, .int x2, .int x3, .int (x4 + (1 : Int32)), rx_no] [] (rx_hp L t (rx_u (rx_u hi 129 j36 (1000000 : Int32)) 130 j37 (vp_nar .boolean (0 : Int32))) hl v) Q
    exact k
set_option maxRecDepth 100000 in
theorem w228_few_r_206 {L : Nat} {t : List (Nat × Nat)} {hi : Nat → Nat → Int32} {hl : Nat → Nat → Int64} {v : Nat → Nat → Option Nat} {Q : Option Value → rx_H → Prop} {x1 : Int32} {x2 : Int32} {x3 : Int32} {x4 : Int32} (k : (((hi 90 53) ≤ x4 → rx_me 231 [.ref 90, .ref 132, .int (((1 : Int32) <<< ((hi 90 53) &&& 31)) - (1 : Int32))] (rx_hp L t hi hl v) (fun r h2 => ∃ z39 : Int32, r = some (.int z39) ∧ rx_ok2 L t h2 (fun hi39 hl39 v39 => rx_me 232 [.ref 90, .int z39, .int (0 : Int32)] (rx_hp L t hi39 hl39 v39) (fun r h2 => ∃ z40 : Int32, r = some (.int z40) ∧ rx_ok2 L t h2 (fun hi40 hl40 v40 => rx_aw 228 293 [.ref 90, .int x1, .int x2, .int x3, .int z40, .int (0 : Int32)] [] (rx_hp L t hi40 hl40 v40) Q))))) ∧ (¬ ((hi 90 53) ≤ x4) → (∃ j41 : Nat, x4 = nI j41 ∧ j41 < 3 ∧ rx_me 230 [.ref 90, .int (hi 128 j41)] (rx_hp L t hi hl v) (fun r h2 => ∃ z42 : Int64, r = some (.long z42) ∧ rx_ok2 L t h2 (fun hi42 hl42 v42 => (∃ j43 : Nat, x4 = nI j43 ∧ j43 < 3 ∧ (∃ j44 : Nat, x4 = nI j44 ∧ j44 < 3 ∧ (∃ j45 : Nat, ((402 : Int32) * (hi42 128 j44)) = nI j45 ∧ j45 < 2412 ∧ (∃ j46 : Nat, (hi42 101 j45) = nI j46 ∧ j46 < 64 ∧ (∃ j47 : Nat, x4 = nI j47 ∧ j47 < 3 ∧ rx_aw 228 206 [.ref 90, .int x1, .int x2, .int x3, .int (x4 + (1 : Int32)), rx_no] [] (rx_hp L t (rx_u hi42 132 j47 (hi42 127 j46)) (rx_u hl42 131 j43 z42) v42) Q))))))))))) : rx_aw 228 206 [.ref 90, .int x1, .int x2, .int x3, .int x4, rx_no] [] (rx_hp L t hi hl v) Q := by
  refine rx_aw_s 4 (pc := 206) rfl ?_
  refine rx_w_if (c := (hi 90 53) ≤ x4) ⟨fun c38 => ?_, fun c38 => ?_⟩
  · have k := k.1 c38
    show rx_aw 228 267 [.ref 90, .int x1, .int x2, .int x3, .int x4, rx_no] [] (rx_hp L t hi hl v) Q
    refine rx_aw_s 10 (pc := 267) rfl ?_
    show rx_aw 228 281 [.ref 90, .int x1, .int x2, .int x3, .int x4, rx_no] [.int (((1 : Int32) <<< ((hi 90 53) &&& 31)) - (1 : Int32)), .ref 132, .ref 90, .ref 90] (rx_hp L t hi hl v) Q
    refine rx_w_callI (j := 231) (pc := 281) rfl rfl rfl rfl rfl ?_
    refine rx_aw.mono k (fun r h2 k => ?_)
    obtain ⟨z39, rfl, hi39, hl39, v39, rfl, k⟩ := k
    refine ⟨z39, rfl, ?_⟩
    show rx_aw 228 284 [.ref 90, .int x1, .int x2, .int x3, .int x4, rx_no] [.int z39, .ref 90] (rx_hp L t hi39 hl39 v39) Q
    refine rx_aw_s 1 (pc := 284) rfl ?_
    show rx_aw 228 285 [.ref 90, .int x1, .int x2, .int x3, .int x4, rx_no] [.int (0 : Int32), .int z39, .ref 90] (rx_hp L t hi39 hl39 v39) Q
    refine rx_w_callI (j := 232) (pc := 285) rfl rfl rfl rfl rfl ?_
    refine rx_aw.mono k (fun r h2 k => ?_)
    obtain ⟨z40, rfl, hi40, hl40, v40, rfl, k⟩ := k
    refine ⟨z40, rfl, ?_⟩
    show rx_aw 228 288 [.ref 90, .int x1, .int x2, .int x3, .int x4, rx_no] [.int z40] (rx_hp L t hi40 hl40 v40) Q
    refine rx_aw_s 3 (pc := 288) rfl ?_
    show rx_aw 228 293 [.ref 90, .int x1, .int x2, .int x3, .int z40, .int (0 : Int32)] [] (rx_hp L t hi40 hl40 v40) Q
    exact k
  · have k := k.2 c38
    show rx_aw 228 215 [.ref 90, .int x1, .int x2, .int x3, .int x4, rx_no] [] (rx_hp L t hi hl v) Q
    refine rx_aw_s 7 (pc := 215) rfl ?_
    show rx_aw 228 228 [.ref 90, .int x1, .int x2, .int x3, .int x4, rx_no] [.int x4, .ref 128, .ref 90, .int x4, .ref 131] (rx_hp L t hi hl v) Q
    obtain ⟨j41, ej41, hj41, k⟩ := k
    refine rx_aw_iald (pc := 228) (n := 3) j41 ej41 rfl rfl rfl hj41 (by decide) ?_
    show rx_aw 228 229 [.ref 90, .int x1, .int x2, .int x3, .int x4, rx_no] [.int (hi 128 j41), .ref 90, .int x4, .ref 131] (rx_hp L t hi hl v) Q
    refine rx_w_callL (j := 230) (pc := 229) rfl rfl rfl rfl rfl ?_
    refine rx_aw.mono k (fun r h2 k => ?_)
    obtain ⟨z42, rfl, hi42, hl42, v42, rfl, k⟩ := k
    refine ⟨z42, rfl, ?_⟩
    show rx_aw 228 232 [.ref 90, .int x1, .int x2, .int x3, .int x4, rx_no] [.long z42, .int x4, .ref 131] (rx_hp L t hi42 hl42 v42) Q
    obtain ⟨j43, ej43, hj43, k⟩ := k
    refine rx_aw_last (pc := 232) (n := 3) j43 ej43 rfl rfl (by decide) rfl hj43 (by decide) ?_
    show rx_aw 228 233 [.ref 90, .int x1, .int x2, .int x3, .int x4, rx_no] [] (rx_hp L t hi42 (rx_u hl42 131 j43 z42) v42) Q
    refine rx_aw_s 11 (pc := 233) rfl ?_
    show rx_aw 228 256 [.ref 90, .int x1, .int x2, .int x3, .int x4, rx_no] [.int x4, .ref 128, .int (402 : Int32), .ref 101, .ref 127, .int x4, .ref 132] (rx_hp L t hi42 (rx_u hl42 131 j43 z42) v42) Q
    obtain ⟨j44, ej44, hj44, k⟩ := k
    refine rx_aw_iald (pc := 256) (n := 3) j44 ej44 rfl rfl rfl hj44 (by decide) ?_
    show rx_aw 228 257 [.ref 90, .int x1, .int x2, .int x3, .int x4, rx_no] [.int (hi42 128 j44), .int (402 : Int32), .ref 101, .ref 127, .int x4, .ref 132] (rx_hp L t hi42 (rx_u hl42 131 j43 z42) v42) Q
    refine rx_aw_s 1 (pc := 257) rfl ?_
    show rx_aw 228 258 [.ref 90, .int x1, .int x2, .int x3, .int x4, rx_no] [.int ((402 : Int32) * (hi42 128 j44)), .ref 101, .ref 127, .int x4, .ref 132] (rx_hp L t hi42 (rx_u hl42 131 j43 z42) v42) Q
    obtain ⟨j45, ej45, hj45, k⟩ := k
    refine rx_aw_iald (pc := 258) (n := 2412) j45 ej45 rfl rfl rfl hj45 (by decide) ?_
    show rx_aw 228 259 [.ref 90, .int x1, .int x2, .int x3, .int x4, rx_no] [.int (hi42 101 j45), .ref 127, .int x4, .ref 132] (rx_hp L t hi42 (rx_u hl42 131 j43 z42) v42) Q
    obtain ⟨j46, ej46, hj46, k⟩ := k
    refine rx_aw_iald (pc := 259) (n := 64) j46 ej46 rfl rfl rfl hj46 (by decide) ?_
    show rx_aw 228 260 [.ref 90, .int x1, .int x2, .int x3, .int x4, rx_no] [.int (hi42 127 j46), .int x4, .ref 132] (rx_hp L t hi42 (rx_u hl42 131 j43 z42) v42) Q
    obtain ⟨j47, ej47, hj47, k⟩ := k
    refine rx_aw_iast (pc := 260) (n := 3) j47 ej47 rfl rfl (by decide) rfl hj47 (by decide) ?_
    show rx_aw 228 261 [.ref 90, .int x1, .int x2, .int x3, .int x4, rx_no] [] (rx_hp L t (rx_u hi42 132 j47 (hi42 127 j46)) (rx_u hl42 131 j43 z42) v42) Q
    refine rx_aw_s 2 (pc := 261) rfl ?_
    show rx_aw 228 206 [.ref 90, .int x1, .int x2, .int x3, .int (x4 + (1 : Int32)), rx_no] [] (rx_hp L t (rx_u hi42 132 j47 (hi42 127 j46)) (rx_u hl42 131 j43 z42) v42) Q
    exact k
set_option maxRecDepth 100000 in
theorem w228_few_r_293 {L : Nat} {t : List (Nat × Nat)} {hi : Nat → Nat → Int32} {hl : Nat → Nat → Int64} {v : Nat → Nat → Option Nat} {Q : Option Value → rx_H → Prop} {x1 : Int32} {x2 : Int32} {x3 : Int32} {x4 : Int32} {x5 : Int32} (k : rx_me 233 [.ref 90, .int x5] (rx_hp L t hi hl v) (fun r h2 => ∃ z48 : Int32, r = some (.int z48) ∧ rx_ok2 L t h2 (fun hi48 hl48 v48 => ((z48 = 0 → Q (some (.int (-1 : Int32))) (rx_hp L t hi48 hl48 v48)) ∧ (¬ (z48 = 0) → rx_me 234 [.ref 90, .int x5] (rx_hp L t hi48 hl48 v48) (fun r h2 => ∃ z50 : Int32, r = some (.int z50) ∧ rx_ok2 L t h2 (fun hi50 hl50 v50 => ((z50 = 0 → rx_aw 228 293 [.ref 90, .int x1, .int x2, .int x3, .int x4, .int (x5 + (1 : Int32))] [] (rx_hp L t hi50 hl50 v50) Q) ∧ (¬ (z50 = 0) → Q (some (.int x5)) (rx_hp L t hi50 hl50 v50)))))))))) : rx_aw 228 293 [.ref 90, .int x1, .int x2, .int x3, .int x4, .int x5] [] (rx_hp L t hi hl v) Q := by
  refine rx_aw_s 2 (pc := 293) rfl ?_
  show rx_aw 228 296 [.ref 90, .int x1, .int x2, .int x3, .int x4, .int x5] [.int x5, .ref 90] (rx_hp L t hi hl v) Q
  refine rx_w_callI (j := 233) (pc := 296) rfl rfl rfl rfl rfl ?_
  refine rx_aw.mono k (fun r h2 k => ?_)
  obtain ⟨z48, rfl, hi48, hl48, v48, rfl, k⟩ := k
  refine ⟨z48, rfl, ?_⟩
  show rx_aw 228 299 [.ref 90, .int x1, .int x2, .int x3, .int x4, .int x5] [.int z48] (rx_hp L t hi48 hl48 v48) Q
  refine rx_aw_s 1 (pc := 299) rfl ?_
  refine rx_w_if (c := z48 = 0) ⟨fun c49 => ?_, fun c49 => ?_⟩
  · have k := k.1 c49
    show rx_aw 228 320 [.ref 90, .int x1, .int x2, .int x3, .int x4, .int x5] [] (rx_hp L t hi48 hl48 v48) Q
    refine rx_aw_s 1 (pc := 320) rfl ?_
    show rx_aw 228 321 [.ref 90, .int x1, .int x2, .int x3, .int x4, .int x5] [.int (-1 : Int32)] (rx_hp L t hi48 hl48 v48) Q
    exact rx_aw_ret (pc := 321) rfl k
  · have k := k.2 c49
    show rx_aw 228 302 [.ref 90, .int x1, .int x2, .int x3, .int x4, .int x5] [] (rx_hp L t hi48 hl48 v48) Q
    refine rx_aw_s 2 (pc := 302) rfl ?_
    show rx_aw 228 305 [.ref 90, .int x1, .int x2, .int x3, .int x4, .int x5] [.int x5, .ref 90] (rx_hp L t hi48 hl48 v48) Q
    refine rx_w_callI (j := 234) (pc := 305) rfl rfl rfl rfl rfl ?_
    refine rx_aw.mono k (fun r h2 k => ?_)
    obtain ⟨z50, rfl, hi50, hl50, v50, rfl, k⟩ := k
    refine ⟨z50, rfl, ?_⟩
    show rx_aw 228 308 [.ref 90, .int x1, .int x2, .int x3, .int x4, .int x5] [.int z50] (rx_hp L t hi50 hl50 v50) Q
    refine rx_aw_s 1 (pc := 308) rfl ?_
    refine rx_w_if (c := z50 = 0) ⟨fun c51 => ?_, fun c51 => ?_⟩
    · have k := k.1 c51
      show rx_aw 228 314 [.ref 90, .int x1, .int x2, .int x3, .int x4, .int x5] [] (rx_hp L t hi50 hl50 v50) Q
      refine rx_aw_s 2 (pc := 314) rfl ?_
      show rx_aw 228 293 [.ref 90, .int x1, .int x2, .int x3, .int x4, .int (x5 + (1 : Int32))] [] (rx_hp L t hi50 hl50 v50) Q
      exact k
    · have k := k.2 c51
      show rx_aw 228 311 [.ref 90, .int x1, .int x2, .int x3, .int x4, .int x5] [] (rx_hp L t hi50 hl50 v50) Q
      refine rx_aw_s 1 (pc := 311) rfl ?_
      show rx_aw 228 313 [.ref 90, .int x1, .int x2, .int x3, .int x4, .int x5] [.int x5] (rx_hp L t hi50 hl50 v50) Q
      exact rx_aw_ret (pc := 313) rfl k
set_option maxRecDepth 100000 in
/-- CartFloorModel.isOne(I)Z -/
theorem w229_isOne_r {L : Nat} {t : List (Nat × Nat)} {hi : Nat → Nat → Int32} {hl : Nat → Nat → Int64} {v : Nat → Nat → Option Nat} {Q : Option Value → rx_H → Prop} {a0 : Int32} (k : rx_me 161 [.ref 90, .int a0] (rx_hp L t hi hl v) (fun r h2 => ∃ z1 : Int32, r = some (.int z1) ∧ rx_ok2 L t h2 (fun hi1 hl1 v1 => ((z1 = 0 → Q (some (.int (0 : Int32))) (rx_hp L t hi1 hl1 v1)) ∧ (¬ (z1 = 0) → (∃ j3 : Nat, a0 = nI j3 ∧ j3 < 6 ∧ (((1 : Int32) < (hi1 93 j3) → Q (some (.int (0 : Int32))) (rx_hp L t hi1 hl1 v1)) ∧ (¬ ((1 : Int32) < (hi1 93 j3)) → (∃ j5 : Nat, ((402 : Int32) * a0) = nI j5 ∧ j5 < 2412 ∧ ((0 ≤ (hi1 103 j5) → Q (some (.int (0 : Int32))) (rx_hp L t hi1 hl1 v1)) ∧ (¬ (0 ≤ (hi1 103 j5)) → (∃ j7 : Nat, a0 = nI j7 ∧ j7 < 6 ∧ (((hi1 96 j7) = 0 → Q (some (.int (0 : Int32))) (rx_hp L t hi1 hl1 v1)) ∧ (¬ ((hi1 96 j7) = 0) → (∃ j9 : Nat, a0 = nI j9 ∧ j9 < 6 ∧ ((0 ≤ (hi1 98 j9) → Q (some (.int (0 : Int32))) (rx_hp L t hi1 hl1 v1)) ∧ (¬ (0 ≤ (hi1 98 j9)) → Q (some (.int (1 : Int32))) (rx_hp L t hi1 hl1 v1)))))))))))))))))) : rx_me 229 [.ref 90, .int a0] (rx_hp L t hi hl v) Q := by
  show rx_aw 229 0 [.ref 90, .int a0] [] (rx_hp L t hi hl v) Q
  refine rx_aw_s 2 (pc := 0) rfl ?_
  show rx_aw 229 2 [.ref 90, .int a0] [.int a0, .ref 90] (rx_hp L t hi hl v) Q
  refine rx_w_callI (j := 161) (pc := 2) rfl rfl rfl rfl rfl ?_
  refine rx_aw.mono k (fun r h2 k => ?_)
  obtain ⟨z1, rfl, hi1, hl1, v1, rfl, k⟩ := k
  refine ⟨z1, rfl, ?_⟩
  show rx_aw 229 5 [.ref 90, .int a0] [.int z1] (rx_hp L t hi1 hl1 v1) Q
  refine rx_aw_s 1 (pc := 5) rfl ?_
  refine rx_w_if (c := z1 = 0) ⟨fun c2 => ?_, fun c2 => ?_⟩
  · have k := k.1 c2
    show rx_aw 229 53 [.ref 90, .int a0] [] (rx_hp L t hi1 hl1 v1) Q
    refine rx_aw_s 1 (pc := 53) rfl ?_
    show rx_aw 229 54 [.ref 90, .int a0] [.int (0 : Int32)] (rx_hp L t hi1 hl1 v1) Q
    exact rx_aw_ret (pc := 54) rfl k
  · have k := k.2 c2
    show rx_aw 229 8 [.ref 90, .int a0] [] (rx_hp L t hi1 hl1 v1) Q
    refine rx_aw_s 3 (pc := 8) rfl ?_
    show rx_aw 229 13 [.ref 90, .int a0] [.int a0, .ref 93] (rx_hp L t hi1 hl1 v1) Q
    obtain ⟨j3, ej3, hj3, k⟩ := k
    refine rx_aw_iald (pc := 13) (n := 6) j3 ej3 rfl rfl rfl hj3 (by decide) ?_
    show rx_aw 229 14 [.ref 90, .int a0] [.int (hi1 93 j3)] (rx_hp L t hi1 hl1 v1) Q
    refine rx_aw_s 2 (pc := 14) rfl ?_
    refine rx_w_if (c := (1 : Int32) < (hi1 93 j3)) ⟨fun c4 => ?_, fun c4 => ?_⟩
    · have k := k.1 c4
      show rx_aw 229 53 [.ref 90, .int a0] [] (rx_hp L t hi1 hl1 v1) Q
      refine rx_aw_s 1 (pc := 53) rfl ?_
      show rx_aw 229 54 [.ref 90, .int a0] [.int (0 : Int32)] (rx_hp L t hi1 hl1 v1) Q
      exact rx_aw_ret (pc := 54) rfl k
    · have k := k.2 c4
      show rx_aw 229 18 [.ref 90, .int a0] [] (rx_hp L t hi1 hl1 v1) Q
      refine rx_aw_s 5 (pc := 18) rfl ?_
      show rx_aw 229 27 [.ref 90, .int a0] [.int ((402 : Int32) * a0), .ref 103] (rx_hp L t hi1 hl1 v1) Q
      obtain ⟨j5, ej5, hj5, k⟩ := k
      refine rx_aw_iald (pc := 27) (n := 2412) j5 ej5 rfl rfl rfl hj5 (by decide) ?_
      show rx_aw 229 28 [.ref 90, .int a0] [.int (hi1 103 j5)] (rx_hp L t hi1 hl1 v1) Q
      refine rx_aw_s 1 (pc := 28) rfl ?_
      refine rx_w_if (c := 0 ≤ (hi1 103 j5)) ⟨fun c6 => ?_, fun c6 => ?_⟩
      · have k := k.1 c6
        show rx_aw 229 53 [.ref 90, .int a0] [] (rx_hp L t hi1 hl1 v1) Q
        refine rx_aw_s 1 (pc := 53) rfl ?_
        show rx_aw 229 54 [.ref 90, .int a0] [.int (0 : Int32)] (rx_hp L t hi1 hl1 v1) Q
        exact rx_aw_ret (pc := 54) rfl k
      · have k := k.2 c6
        show rx_aw 229 31 [.ref 90, .int a0] [] (rx_hp L t hi1 hl1 v1) Q
        refine rx_aw_s 3 (pc := 31) rfl ?_
        show rx_aw 229 36 [.ref 90, .int a0] [.int a0, .ref 96] (rx_hp L t hi1 hl1 v1) Q
        obtain ⟨j7, ej7, hj7, k⟩ := k
        refine rx_aw_bald (pc := 36) (n := 6) j7 ej7 rfl (Or.inr rfl) (by decide) rfl hj7 (by decide) ?_
        show rx_aw 229 37 [.ref 90, .int a0] [.int (hi1 96 j7)] (rx_hp L t hi1 hl1 v1) Q
        refine rx_aw_s 1 (pc := 37) rfl ?_
        refine rx_w_if (c := (hi1 96 j7) = 0) ⟨fun c8 => ?_, fun c8 => ?_⟩
        · have k := k.1 c8
          show rx_aw 229 53 [.ref 90, .int a0] [] (rx_hp L t hi1 hl1 v1) Q
          refine rx_aw_s 1 (pc := 53) rfl ?_
          show rx_aw 229 54 [.ref 90, .int a0] [.int (0 : Int32)] (rx_hp L t hi1 hl1 v1) Q
          exact rx_aw_ret (pc := 54) rfl k
        · have k := k.2 c8
          show rx_aw 229 40 [.ref 90, .int a0] [] (rx_hp L t hi1 hl1 v1) Q
          refine rx_aw_s 3 (pc := 40) rfl ?_
          show rx_aw 229 45 [.ref 90, .int a0] [.int a0, .ref 98] (rx_hp L t hi1 hl1 v1) Q
          obtain ⟨j9, ej9, hj9, k⟩ := k
          refine rx_aw_iald (pc := 45) (n := 6) j9 ej9 rfl rfl rfl hj9 (by decide) ?_
          show rx_aw 229 46 [.ref 90, .int a0] [.int (hi1 98 j9)] (rx_hp L t hi1 hl1 v1) Q
          refine rx_aw_s 1 (pc := 46) rfl ?_
          refine rx_w_if (c := 0 ≤ (hi1 98 j9)) ⟨fun c10 => ?_, fun c10 => ?_⟩
          · have k := k.1 c10
            show rx_aw 229 53 [.ref 90, .int a0] [] (rx_hp L t hi1 hl1 v1) Q
            refine rx_aw_s 1 (pc := 53) rfl ?_
            show rx_aw 229 54 [.ref 90, .int a0] [.int (0 : Int32)] (rx_hp L t hi1 hl1 v1) Q
            exact rx_aw_ret (pc := 54) rfl k
          · have k := k.2 c10
            show rx_aw 229 49 [.ref 90, .int a0] [] (rx_hp L t hi1 hl1 v1) Q
            refine rx_aw_s 2 (pc := 49) rfl ?_
            show rx_aw 229 54 [.ref 90, .int a0] [.int (1 : Int32)] (rx_hp L t hi1 hl1 v1) Q
            exact rx_aw_ret (pc := 54) rfl k
set_option maxRecDepth 100000 in
/-- CartFloorModel.shutOf(I)J -/
theorem w230_shutOf_r {L : Nat} {t : List (Nat × Nat)} {hi : Nat → Nat → Int32} {hl : Nat → Nat → Int64} {v : Nat → Nat → Option Nat} {Q : Option Value → rx_H → Prop} {a0 : Int32} (k : rx_me 167 [.ref 90] (rx_hp L t hi hl v) (fun r h2 => ∃ z1 : Int64, r = some (.long z1) ∧ rx_ok2 L t h2 (fun hi1 hl1 v1 => (∃ j2 : Nat, a0 = nI j2 ∧ j2 < 6 ∧ (((hi1 93 j2) = 0 → rx_me 171 [.ref 90, .int (0 : Int32), .int (-1 : Int32)] (rx_hp L t hi1 hl1 v1) (fun r h2 => ∃ z4 : Int64, r = some (.long z4) ∧ rx_ok2 L t h2 (fun hi4 hl4 v4 => rx_aw 230 28 [.ref 90, .int a0, .long (z1 ||| z4), rx_no, .int (0 : Int32), rx_no, rx_no] [] (rx_hp L t hi4 hl4 v4) Q))) ∧ (¬ ((hi1 93 j2) = 0) → rx_aw 230 28 [.ref 90, .int a0, .long (z1 ||| (0 : Int64)), rx_no, .int (0 : Int32), rx_no, rx_no] [] (rx_hp L t hi1 hl1 v1) Q)))))) : rx_me 230 [.ref 90, .int a0] (rx_hp L t hi hl v) Q := by
  show rx_aw 230 0 [.ref 90, .int a0, rx_no, rx_no, rx_no, rx_no, rx_no] [] (rx_hp L t hi hl v) Q
  refine rx_aw_s 1 (pc := 0) rfl ?_
  show rx_aw 230 1 [.ref 90, .int a0, rx_no, rx_no, rx_no, rx_no, rx_no] [.ref 90] (rx_hp L t hi hl v) Q
  refine rx_w_callL (j := 167) (pc := 1) rfl rfl rfl rfl rfl ?_
  refine rx_aw.mono k (fun r h2 k => ?_)
  obtain ⟨z1, rfl, hi1, hl1, v1, rfl, k⟩ := k
  refine ⟨z1, rfl, ?_⟩
  show rx_aw 230 4 [.ref 90, .int a0, rx_no, rx_no, rx_no, rx_no, rx_no] [.long z1] (rx_hp L t hi1 hl1 v1) Q
  refine rx_aw_s 3 (pc := 4) rfl ?_
  show rx_aw 230 9 [.ref 90, .int a0, rx_no, rx_no, rx_no, rx_no, rx_no] [.int a0, .ref 93, .long z1] (rx_hp L t hi1 hl1 v1) Q
  obtain ⟨j2, ej2, hj2, k⟩ := k
  refine rx_aw_iald (pc := 9) (n := 6) j2 ej2 rfl rfl rfl hj2 (by decide) ?_
  show rx_aw 230 10 [.ref 90, .int a0, rx_no, rx_no, rx_no, rx_no, rx_no] [.int (hi1 93 j2), .long z1] (rx_hp L t hi1 hl1 v1) Q
  refine rx_aw_s 1 (pc := 10) rfl ?_
  refine rx_w_ifn (c := (hi1 93 j2) = 0) ⟨fun c3 => ?_, fun c3 => ?_⟩
  · have k := k.1 c3
    show rx_aw 230 13 [.ref 90, .int a0, rx_no, rx_no, rx_no, rx_no, rx_no] [.long z1] (rx_hp L t hi1 hl1 v1) Q
    refine rx_aw_s 3 (pc := 13) rfl ?_
    show rx_aw 230 16 [.ref 90, .int a0, rx_no, rx_no, rx_no, rx_no, rx_no] [.int (-1 : Int32), .int (0 : Int32), .ref 90, .long z1] (rx_hp L t hi1 hl1 v1) Q
    refine rx_w_callL (j := 171) (pc := 16) rfl rfl rfl rfl rfl ?_
    refine rx_aw.mono k (fun r h2 k => ?_)
    obtain ⟨z4, rfl, hi4, hl4, v4, rfl, k⟩ := k
    refine ⟨z4, rfl, ?_⟩
    show rx_aw 230 19 [.ref 90, .int a0, rx_no, rx_no, rx_no, rx_no, rx_no] [.long z4, .long z1] (rx_hp L t hi4 hl4 v4) Q
    refine rx_aw_s 5 (pc := 19) rfl ?_
    show rx_aw 230 28 [.ref 90, .int a0, .long (z1 ||| z4), rx_no, .int (0 : Int32), rx_no, rx_no] [] (rx_hp L t hi4 hl4 v4) Q
    exact k
  · have k := k.2 c3
    show rx_aw 230 22 [.ref 90, .int a0, rx_no, rx_no, rx_no, rx_no, rx_no] [.long z1] (rx_hp L t hi1 hl1 v1) Q
    refine rx_aw_s 5 (pc := 22) rfl ?_
    show rx_aw 230 28 [.ref 90, .int a0, .long (z1 ||| (0 : Int64)), rx_no, .int (0 : Int32), rx_no, rx_no] [] (rx_hp L t hi1 hl1 v1) Q
    exact k
set_option maxRecDepth 100000 in
theorem w230_shutOf_r_28 {L : Nat} {t : List (Nat × Nat)} {hi : Nat → Nat → Int32} {hl : Nat → Nat → Int64} {v : Nat → Nat → Option Nat} {Q : Option Value → rx_H → Prop} {x1 : Int32} {x2 : Int64} {x4 : Int32} (k : (((hi 90 6) ≤ x4 → Q (some (.long x2)) (rx_hp L t hi hl v)) ∧ (¬ ((hi 90 6) ≤ x4) → rx_aw 230 43 [.ref 90, .int x1, .long x2, rx_no, .int x4, .int (0 : Int32), .int (0 : Int32)] [] (rx_hp L t hi hl v) Q))) : rx_aw 230 28 [.ref 90, .int x1, .long x2, rx_no, .int x4, rx_no, rx_no] [] (rx_hp L t hi hl v) Q := by
  refine rx_aw_s 4 (pc := 28) rfl ?_
  refine rx_w_if (c := (hi 90 6) ≤ x4) ⟨fun c5 => ?_, fun c5 => ?_⟩
  · have k := k.1 c5
    show rx_aw 230 109 [.ref 90, .int x1, .long x2, rx_no, .int x4, rx_no, rx_no] [] (rx_hp L t hi hl v) Q
    refine rx_aw_s 1 (pc := 109) rfl ?_
    show rx_aw 230 110 [.ref 90, .int x1, .long x2, rx_no, .int x4, rx_no, rx_no] [.long x2] (rx_hp L t hi hl v) Q
    exact rx_aw_ret (pc := 110) rfl k
  · have k := k.2 c5
    show rx_aw 230 37 [.ref 90, .int x1, .long x2, rx_no, .int x4, rx_no, rx_no] [] (rx_hp L t hi hl v) Q
    refine rx_aw_s 4 (pc := 37) rfl ?_
    show rx_aw 230 43 [.ref 90, .int x1, .long x2, rx_no, .int x4, .int (0 : Int32), .int (0 : Int32)] [] (rx_hp L t hi hl v) Q
    exact k
set_option maxRecDepth 100000 in
theorem w230_shutOf_r_43 {L : Nat} {t : List (Nat × Nat)} {hi : Nat → Nat → Int32} {hl : Nat → Nat → Int64} {v : Nat → Nat → Option Nat} {Q : Option Value → rx_H → Prop} {x1 : Int32} {x2 : Int64} {x4 : Int32} {x5 : Int32} {x6 : Int32} (k : (((hi 90 53) ≤ x6 → ((x5 = 0 → (∃ j8 : Nat, ((402 : Int32) * x4) = nI j8 ∧ j8 < 2412 ∧ rx_aw 230 28 [.ref 90, .int x1, .long (x2 ||| (hl 105 j8)), rx_no, .int (x4 + (1 : Int32)), rx_no, rx_no] [] (rx_hp L t hi hl v) Q)) ∧ (¬ (x5 = 0) → rx_aw 230 28 [.ref 90, .int x1, .long (x2 ||| (0 : Int64)), rx_no, .int (x4 + (1 : Int32)), rx_no, rx_no] [] (rx_hp L t hi hl v) Q))) ∧ (¬ ((hi 90 53) ≤ x6) → (∃ j9 : Nat, x6 = nI j9 ∧ j9 < 3 ∧ (((hi 128 j9) = x4 → rx_aw 230 43 [.ref 90, .int x1, .long x2, rx_no, .int x4, .int (x5 ||| (1 : Int32)), .int (x6 + (1 : Int32))] [] (rx_hp L t hi hl v) Q) ∧ (¬ ((hi 128 j9) = x4) → rx_aw 230 43 [.ref 90, .int x1, .long x2, rx_no, .int x4, .int (x5 ||| (0 : Int32)), .int (x6 + (1 : Int32))] [] (rx_hp L t hi hl v) Q)))))) : rx_aw 230 43 [.ref 90, .int x1, .long x2, rx_no, .int x4, .int x5, .int x6] [] (rx_hp L t hi hl v) Q := by
  refine rx_aw_s 4 (pc := 43) rfl ?_
  refine rx_w_if (c := (hi 90 53) ≤ x6) ⟨fun c6 => ?_, fun c6 => ?_⟩
  · have k := k.1 c6
    show rx_aw 230 80 [.ref 90, .int x1, .long x2, rx_no, .int x4, .int x5, .int x6] [] (rx_hp L t hi hl v) Q
    refine rx_aw_s 3 (pc := 80) rfl ?_
    refine rx_w_if (c := x5 = 0) ⟨fun c7 => ?_, fun c7 => ?_⟩
    · have k := k.1 c7
      show rx_aw 230 90 [.ref 90, .int x1, .long x2, rx_no, .int x4, .int x5, .int x6] [.long x2] (rx_hp L t hi hl v) Q
      refine rx_aw_s 5 (pc := 90) rfl ?_
      show rx_aw 230 100 [.ref 90, .int x1, .long x2, rx_no, .int x4, .int x5, .int x6] [.int ((402 : Int32) * x4), .ref 105, .long x2] (rx_hp L t hi hl v) Q
      obtain ⟨j8, ej8, hj8, k⟩ := k
      refine rx_aw_lald (pc := 100) (n := 2412) j8 ej8 rfl rfl (by decide) rfl hj8 (by decide) ?_
      show rx_aw 230 101 [.ref 90, .int x1, .long x2, rx_no, .int x4, .int x5, .int x6] [.long (hl 105 j8), .long x2] (rx_hp L t hi hl v) Q
      refine rx_aw_s 4 (pc := 101) rfl ?_
      show rx_aw 230 28 [.ref 90, .int x1, .long (x2 ||| (hl 105 j8)), rx_no, .int (x4 + (1 : Int32)), .int x5, .int x6] [] (rx_hp L t hi hl v) Q
      exact rx_aw_le (ls := [.ref 90, .int x1, .long (x2 ||| (hl 105 j8)), rx_no, .int (x4 + (1 : Int32)), rx_no, rx_no]) ⟨Or.inr rfl, ⟨Or.inr rfl, ⟨Or.inr rfl, ⟨Or.inl rfl, ⟨Or.inr rfl, ⟨Or.inl rfl, ⟨Or.inl rfl, trivial⟩⟩⟩⟩⟩⟩⟩ k
    · have k := k.2 c7
      show rx_aw 230 86 [.ref 90, .int x1, .long x2, rx_no, .int x4, .int x5, .int x6] [.long x2] (rx_hp L t hi hl v) Q
      refine rx_aw_s 6 (pc := 86) rfl ?_
      show rx_aw 230 28 [.ref 90, .int x1, .long (x2 ||| (0 : Int64)), rx_no, .int (x4 + (1 : Int32)), .int x5, .int x6] [] (rx_hp L t hi hl v) Q
      exact rx_aw_le (ls := [.ref 90, .int x1, .long (x2 ||| (0 : Int64)), rx_no, .int (x4 + (1 : Int32)), rx_no, rx_no]) ⟨Or.inr rfl, ⟨Or.inr rfl, ⟨Or.inr rfl, ⟨Or.inl rfl, ⟨Or.inr rfl, ⟨Or.inl rfl, ⟨Or.inl rfl, trivial⟩⟩⟩⟩⟩⟩⟩ k
  · have k := k.2 c6
    show rx_aw 230 52 [.ref 90, .int x1, .long x2, rx_no, .int x4, .int x5, .int x6] [] (rx_hp L t hi hl v) Q
    refine rx_aw_s 4 (pc := 52) rfl ?_
    show rx_aw 230 60 [.ref 90, .int x1, .long x2, rx_no, .int x4, .int x5, .int x6] [.int x6, .ref 128, .int x5] (rx_hp L t hi hl v) Q
    obtain ⟨j9, ej9, hj9, k⟩ := k
    refine rx_aw_iald (pc := 60) (n := 3) j9 ej9 rfl rfl rfl hj9 (by decide) ?_
    show rx_aw 230 61 [.ref 90, .int x1, .long x2, rx_no, .int x4, .int x5, .int x6] [.int (hi 128 j9), .int x5] (rx_hp L t hi hl v) Q
    refine rx_aw_s 2 (pc := 61) rfl ?_
    refine rx_w_ifn (c := (hi 128 j9) = x4) ⟨fun c10 => ?_, fun c10 => ?_⟩
    · have k := k.1 c10
      show rx_aw 230 66 [.ref 90, .int x1, .long x2, rx_no, .int x4, .int x5, .int x6] [.int x5] (rx_hp L t hi hl v) Q
      refine rx_aw_s 6 (pc := 66) rfl ?_
      show rx_aw 230 43 [.ref 90, .int x1, .long x2, rx_no, .int x4, .int (x5 ||| (1 : Int32)), .int (x6 + (1 : Int32))] [] (rx_hp L t hi hl v) Q
      exact k
    · have k := k.2 c10
      show rx_aw 230 70 [.ref 90, .int x1, .long x2, rx_no, .int x4, .int x5, .int x6] [.int x5] (rx_hp L t hi hl v) Q
      refine rx_aw_s 5 (pc := 70) rfl ?_
      show rx_aw 230 43 [.ref 90, .int x1, .long x2, rx_no, .int x4, .int (x5 ||| (0 : Int32)), .int (x6 + (1 : Int32))] [] (rx_hp L t hi hl v) Q
      exact k
set_option maxRecDepth 100000 in
/-- CartFloorModel.better(II)Z -/
theorem w232_better_r {L : Nat} {t : List (Nat × Nat)} {hi : Nat → Nat → Int32} {hl : Nat → Nat → Int64} {v : Nat → Nat → Option Nat} {Q : Option Value → rx_H → Prop} {a0 : Int32} {a1 : Int32} (k : (∃ j1 : Nat, a0 = nI j1 ∧ j1 < 64000 ∧ (((hi 129 j1) ≤ a1 → Q (some (.int (0 : Int32))) (rx_hp L t hi hl v)) ∧ (¬ ((hi 129 j1) ≤ a1) → (∃ j3 : Nat, a0 = nI j3 ∧ j3 < 64000 ∧ Q (some (.int (1 : Int32))) (rx_hp L t (rx_u hi 129 j3 a1) hl v)))))) : rx_me 232 [.ref 90, .int a0, .int a1] (rx_hp L t hi hl v) Q := by
  show rx_aw 232 0 [.ref 90, .int a0, .int a1] [] (rx_hp L t hi hl v) Q
  refine rx_aw_s 4 (pc := 0) rfl ?_
  show rx_aw 232 6 [.ref 90, .int a0, .int a1] [.int a0, .ref 129, .int a1] (rx_hp L t hi hl v) Q
  obtain ⟨j1, ej1, hj1, k⟩ := k
  refine rx_aw_iald (pc := 6) (n := 64000) j1 ej1 rfl rfl rfl hj1 (by decide) ?_
  show rx_aw 232 7 [.ref 90, .int a0, .int a1] [.int (hi 129 j1), .int a1] (rx_hp L t hi hl v) Q
  refine rx_aw_s 1 (pc := 7) rfl ?_
  refine rx_w_if (c := (hi 129 j1) ≤ a1) ⟨fun c2 => ?_, fun c2 => ?_⟩
  · have k := k.1 c2
    show rx_aw 232 19 [.ref 90, .int a0, .int a1] [] (rx_hp L t hi hl v) Q
    refine rx_aw_s 1 (pc := 19) rfl ?_
    show rx_aw 232 20 [.ref 90, .int a0, .int a1] [.int (0 : Int32)] (rx_hp L t hi hl v) Q
    exact rx_aw_ret (pc := 20) rfl k
  · have k := k.2 c2
    show rx_aw 232 10 [.ref 90, .int a0, .int a1] [] (rx_hp L t hi hl v) Q
    refine rx_aw_s 4 (pc := 10) rfl ?_
    show rx_aw 232 16 [.ref 90, .int a0, .int a1] [.int a1, .int a0, .ref 129] (rx_hp L t hi hl v) Q
    obtain ⟨j3, ej3, hj3, k⟩ := k
    refine rx_aw_iast (pc := 16) (n := 64000) j3 ej3 rfl rfl (by decide) rfl hj3 (by decide) ?_
    show rx_aw 232 17 [.ref 90, .int a0, .int a1] [] (rx_hp L t (rx_u hi 129 j3 a1) hl v) Q
    refine rx_aw_s 1 (pc := 17) rfl ?_
    show rx_aw 232 18 [.ref 90, .int a0, .int a1] [.int (1 : Int32)] (rx_hp L t (rx_u hi 129 j3 a1) hl v) Q
    exact rx_aw_ret (pc := 18) rfl k
set_option maxRecDepth 100000 in
/-- CartFloorModel.isPending(I)Z -/
theorem w233_isPending_r {L : Nat} {t : List (Nat × Nat)} {hi : Nat → Nat → Int32} {hl : Nat → Nat → Int64} {v : Nat → Nat → Option Nat} {Q : Option Value → rx_H → Prop} {a0 : Int32} (k : rx_aw 233 4 [.ref 90, .int a0, .int (0 : Int32), .int (0 : Int32)] [] (rx_hp L t hi hl v) Q) : rx_me 233 [.ref 90, .int a0] (rx_hp L t hi hl v) Q := by
  show rx_aw 233 0 [.ref 90, .int a0, rx_no, rx_no] [] (rx_hp L t hi hl v) Q
  refine rx_aw_s 4 (pc := 0) rfl ?_
  show rx_aw 233 4 [.ref 90, .int a0, .int (0 : Int32), .int (0 : Int32)] [] (rx_hp L t hi hl v) Q
  exact k
set_option maxRecDepth 100000 in
theorem w233_isPending_r_4 {L : Nat} {t : List (Nat × Nat)} {hi : Nat → Nat → Int32} {hl : Nat → Nat → Int64} {v : Nat → Nat → Option Nat} {Q : Option Value → rx_H → Prop} {x1 : Int32} {x2 : Int32} {x3 : Int32} (k : (((64000 : Int32) ≤ x3 → ((x2 = 0 ∨ x2 = 1) ∧ Q (some (.int x2)) (rx_hp L t hi hl v))) ∧ (¬ ((64000 : Int32) ≤ x3) → ((x2 = 0 → (∃ j3 : Nat, x3 = nI j3 ∧ j3 < 64000 ∧ (((hi 130 j3) = 0 → (∃ j5 : Nat, x3 = nI j5 ∧ j5 < 64000 ∧ (((hi 129 j5) < x1 → rx_aw 233 4 [.ref 90, .int x1, .int (0 : Int32), .int (x3 + (1 : Int32))] [] (rx_hp L t hi hl v) Q) ∧ (¬ ((hi 129 j5) < x1) → (∃ j7 : Nat, x3 = nI j7 ∧ j7 < 64000 ∧ (((1000000 : Int32) ≤ (hi 129 j7) → rx_aw 233 4 [.ref 90, .int x1, .int (0 : Int32), .int (x3 + (1 : Int32))] [] (rx_hp L t hi hl v) Q) ∧ (¬ ((1000000 : Int32) ≤ (hi 129 j7)) → rx_aw 233 4 [.ref 90, .int x1, .int (1 : Int32), .int (x3 + (1 : Int32))] [] (rx_hp L t hi hl v) Q))))))) ∧ (¬ ((hi 130 j3) = 0) → rx_aw 233 4 [.ref 90, .int x1, .int (0 : Int32), .int (x3 + (1 : Int32))] [] (rx_hp L t hi hl v) Q)))) ∧ (¬ (x2 = 0) → ((x2 = 0 ∨ x2 = 1) ∧ Q (some (.int x2)) (rx_hp L t hi hl v))))))) : rx_aw 233 4 [.ref 90, .int x1, .int x2, .int x3] [] (rx_hp L t hi hl v) Q := by
  refine rx_aw_s 3 (pc := 4) rfl ?_
  refine rx_w_if (c := (64000 : Int32) ≤ x3) ⟨fun c1 => ?_, fun c1 => ?_⟩
  · have k := k.1 c1
    show rx_aw 233 57 [.ref 90, .int x1, .int x2, .int x3] [] (rx_hp L t hi hl v) Q
    refine rx_aw_s 1 (pc := 57) rfl ?_
    show rx_aw 233 58 [.ref 90, .int x1, .int x2, .int x3] [.int x2] (rx_hp L t hi hl v) Q
    exact rx_w_zret (pc := 58) rfl rfl k
  · have k := k.2 c1
    show rx_aw 233 10 [.ref 90, .int x1, .int x2, .int x3] [] (rx_hp L t hi hl v) Q
    refine rx_aw_s 2 (pc := 10) rfl ?_
    refine rx_w_ifn (c := x2 = 0) ⟨fun c2 => ?_, fun c2 => ?_⟩
    · have k := k.1 c2
      show rx_aw 233 14 [.ref 90, .int x1, .int x2, .int x3] [] (rx_hp L t hi hl v) Q
      refine rx_aw_s 3 (pc := 14) rfl ?_
      show rx_aw 233 19 [.ref 90, .int x1, .int x2, .int x3] [.int x3, .ref 130] (rx_hp L t hi hl v) Q
      obtain ⟨j3, ej3, hj3, k⟩ := k
      refine rx_aw_bald (pc := 19) (n := 64000) j3 ej3 rfl (Or.inr rfl) (by decide) rfl hj3 (by decide) ?_
      show rx_aw 233 20 [.ref 90, .int x1, .int x2, .int x3] [.int (hi 130 j3)] (rx_hp L t hi hl v) Q
      refine rx_aw_s 1 (pc := 20) rfl ?_
      refine rx_w_ifn (c := (hi 130 j3) = 0) ⟨fun c4 => ?_, fun c4 => ?_⟩
      · have k := k.1 c4
        show rx_aw 233 23 [.ref 90, .int x1, .int x2, .int x3] [] (rx_hp L t hi hl v) Q
        refine rx_aw_s 3 (pc := 23) rfl ?_
        show rx_aw 233 28 [.ref 90, .int x1, .int x2, .int x3] [.int x3, .ref 129] (rx_hp L t hi hl v) Q
        obtain ⟨j5, ej5, hj5, k⟩ := k
        refine rx_aw_iald (pc := 28) (n := 64000) j5 ej5 rfl rfl rfl hj5 (by decide) ?_
        show rx_aw 233 29 [.ref 90, .int x1, .int x2, .int x3] [.int (hi 129 j5)] (rx_hp L t hi hl v) Q
        refine rx_aw_s 2 (pc := 29) rfl ?_
        refine rx_w_if (c := (hi 129 j5) < x1) ⟨fun c6 => ?_, fun c6 => ?_⟩
        · have k := k.1 c6
          show rx_aw 233 49 [.ref 90, .int x1, .int x2, .int x3] [] (rx_hp L t hi hl v) Q
          refine rx_aw_s 4 (pc := 49) rfl ?_
          show rx_aw 233 4 [.ref 90, .int x1, .int (0 : Int32), .int (x3 + (1 : Int32))] [] (rx_hp L t hi hl v) Q
          exact k
        · have k := k.2 c6
          show rx_aw 233 33 [.ref 90, .int x1, .int x2, .int x3] [] (rx_hp L t hi hl v) Q
          refine rx_aw_s 3 (pc := 33) rfl ?_
          show rx_aw 233 38 [.ref 90, .int x1, .int x2, .int x3] [.int x3, .ref 129] (rx_hp L t hi hl v) Q
          obtain ⟨j7, ej7, hj7, k⟩ := k
          refine rx_aw_iald (pc := 38) (n := 64000) j7 ej7 rfl rfl rfl hj7 (by decide) ?_
          show rx_aw 233 39 [.ref 90, .int x1, .int x2, .int x3] [.int (hi 129 j7)] (rx_hp L t hi hl v) Q
          refine rx_aw_s 2 (pc := 39) rfl ?_
          refine rx_w_if (c := (1000000 : Int32) ≤ (hi 129 j7)) ⟨fun c8 => ?_, fun c8 => ?_⟩
          · have k := k.1 c8
            show rx_aw 233 49 [.ref 90, .int x1, .int x2, .int x3] [] (rx_hp L t hi hl v) Q
            refine rx_aw_s 4 (pc := 49) rfl ?_
            show rx_aw 233 4 [.ref 90, .int x1, .int (0 : Int32), .int (x3 + (1 : Int32))] [] (rx_hp L t hi hl v) Q
            exact k
          · have k := k.2 c8
            show rx_aw 233 45 [.ref 90, .int x1, .int x2, .int x3] [] (rx_hp L t hi hl v) Q
            refine rx_aw_s 5 (pc := 45) rfl ?_
            show rx_aw 233 4 [.ref 90, .int x1, .int (1 : Int32), .int (x3 + (1 : Int32))] [] (rx_hp L t hi hl v) Q
            exact k
      · have k := k.2 c4
        show rx_aw 233 49 [.ref 90, .int x1, .int x2, .int x3] [] (rx_hp L t hi hl v) Q
        refine rx_aw_s 4 (pc := 49) rfl ?_
        show rx_aw 233 4 [.ref 90, .int x1, .int (0 : Int32), .int (x3 + (1 : Int32))] [] (rx_hp L t hi hl v) Q
        exact k
    · have k := k.2 c2
      show rx_aw 233 57 [.ref 90, .int x1, .int x2, .int x3] [] (rx_hp L t hi hl v) Q
      refine rx_aw_s 1 (pc := 57) rfl ?_
      show rx_aw 233 58 [.ref 90, .int x1, .int x2, .int x3] [.int x2] (rx_hp L t hi hl v) Q
      exact rx_w_zret (pc := 58) rfl rfl k
set_option maxRecDepth 100000 in
/-- CartFloorModel.settle(I)Z -/
theorem w234_settle_r {L : Nat} {t : List (Nat × Nat)} {hi : Nat → Nat → Int32} {hl : Nat → Nat → Int64} {v : Nat → Nat → Option Nat} {Q : Option Value → rx_H → Prop} {a0 : Int32} (k : rx_aw 234 4 [.ref 90, .int a0, .int (1 : Int32), .int (0 : Int32), rx_no, rx_no, rx_no, rx_no] [] (rx_hp L t hi hl v) Q) : rx_me 234 [.ref 90, .int a0] (rx_hp L t hi hl v) Q := by
  show rx_aw 234 0 [.ref 90, .int a0, rx_no, rx_no, rx_no, rx_no, rx_no, rx_no] [] (rx_hp L t hi hl v) Q
  refine rx_aw_s 4 (pc := 0) rfl ?_
  show rx_aw 234 4 [.ref 90, .int a0, .int (1 : Int32), .int (0 : Int32), rx_no, rx_no, rx_no, rx_no] [] (rx_hp L t hi hl v) Q
  exact k
set_option maxRecDepth 100000 in
theorem w234_settle_r_4 {L : Nat} {t : List (Nat × Nat)} {hi : Nat → Nat → Int32} {hl : Nat → Nat → Int64} {v : Nat → Nat → Option Nat} {Q : Option Value → rx_H → Prop} {x1 : Int32} {x2 : Int32} {x3 : Int32} (k : ((x2 = 0 → ((x3 = 0 ∨ x3 = 1) ∧ Q (some (.int x3)) (rx_hp L t hi hl v))) ∧ (¬ (x2 = 0) → rx_aw 234 13 [.ref 90, .int x1, .int (0 : Int32), .int x3, .int (0 : Int32), rx_no, rx_no, rx_no] [] (rx_hp L t hi hl v) Q))) : rx_aw 234 4 [.ref 90, .int x1, .int x2, .int x3, rx_no, rx_no, rx_no, rx_no] [] (rx_hp L t hi hl v) Q := by
  refine rx_aw_s 2 (pc := 4) rfl ?_
  refine rx_w_if (c := x2 = 0) ⟨fun c1 => ?_, fun c1 => ?_⟩
  · have k := k.1 c1
    show rx_aw 234 171 [.ref 90, .int x1, .int x2, .int x3, rx_no, rx_no, rx_no, rx_no] [] (rx_hp L t hi hl v) Q
    refine rx_aw_s 1 (pc := 171) rfl ?_
    show rx_aw 234 172 [.ref 90, .int x1, .int x2, .int x3, rx_no, rx_no, rx_no, rx_no] [.int x3] (rx_hp L t hi hl v) Q
    exact rx_w_zret (pc := 172) rfl rfl k
  · have k := k.2 c1
    show rx_aw 234 8 [.ref 90, .int x1, .int x2, .int x3, rx_no, rx_no, rx_no, rx_no] [] (rx_hp L t hi hl v) Q
    refine rx_aw_s 4 (pc := 8) rfl ?_
    show rx_aw 234 13 [.ref 90, .int x1, .int (0 : Int32), .int x3, .int (0 : Int32), rx_no, rx_no, rx_no] [] (rx_hp L t hi hl v) Q
    exact k
set_option maxRecDepth 100000 in
theorem w234_settle_r_13 {L : Nat} {t : List (Nat × Nat)} {hi : Nat → Nat → Int32} {hl : Nat → Nat → Int64} {v : Nat → Nat → Option Nat} {Q : Option Value → rx_H → Prop} {x1 : Int32} {x2 : Int32} {x3 : Int32} {x4 : Int32} (k : (((64000 : Int32) ≤ x4 → rx_aw 234 4 [.ref 90, .int x1, .int x2, .int x3, rx_no, rx_no, rx_no, rx_no] [] (rx_hp L t hi hl v) Q) ∧ (¬ ((64000 : Int32) ≤ x4) → (∃ j3 : Nat, x4 = nI j3 ∧ j3 < 64000 ∧ (((hi 129 j3) = x1 → (∃ j5 : Nat, x4 = nI j5 ∧ j5 < 64000 ∧ (((hi 130 j5) = 0 → (∃ j7 : Nat, x4 = nI j7 ∧ j7 < 64000 ∧ (((x4 - x4 / (8 : Int32) * (8 : Int32)) = 0 → rx_me 235 [.ref 90, .int x4] (rx_hp L t (rx_u hi 130 j7 (vp_nar .boolean (1 : Int32))) hl v) (fun r h2 => r = none ∧ rx_ok2 L t h2 (fun hi9 hl9 v9 => rx_aw 234 83 [.ref 90, .int x1, .int (1 : Int32), .int (x3 ||| (1 : Int32)), .int x4, .int (x4 - x4 / (8 : Int32) * (8 : Int32)), .int (0 : Int32), rx_no] [] (rx_hp L t hi9 hl9 v9) Q))) ∧ (¬ ((x4 - x4 / (8 : Int32) * (8 : Int32)) = 0) → rx_me 235 [.ref 90, .int x4] (rx_hp L t (rx_u hi 130 j7 (vp_nar .boolean (1 : Int32))) hl v) (fun r h2 => r = none ∧ rx_ok2 L t h2 (fun hi10 hl10 v10 => rx_aw 234 83 [.ref 90, .int x1, .int (1 : Int32), .int (x3 ||| (0 : Int32)), .int x4, .int (x4 - x4 / (8 : Int32) * (8 : Int32)), .int (0 : Int32), rx_no] [] (rx_hp L t hi10 hl10 v10) Q)))))) ∧ (¬ ((hi 130 j5) = 0) → rx_aw 234 13 [.ref 90, .int x1, .int x2, .int x3, .int (x4 + (1 : Int32)), rx_no, rx_no, rx_no] [] (rx_hp L t hi hl v) Q)))) ∧ (¬ ((hi 129 j3) = x1) → rx_aw 234 13 [.ref 90, .int x1, .int x2, .int x3, .int (x4 + (1 : Int32)), rx_no, rx_no, rx_no] [] (rx_hp L t hi hl v) Q)))))) : rx_aw 234 13 [.ref 90, .int x1, .int x2, .int x3, .int x4, rx_no, rx_no, rx_no] [] (rx_hp L t hi hl v) Q := by
  refine rx_aw_s 3 (pc := 13) rfl ?_
  refine rx_w_if (c := (64000 : Int32) ≤ x4) ⟨fun c2 => ?_, fun c2 => ?_⟩
  · have k := k.1 c2
    show rx_aw 234 168 [.ref 90, .int x1, .int x2, .int x3, .int x4, rx_no, rx_no, rx_no] [] (rx_hp L t hi hl v) Q
    refine rx_aw_s 1 (pc := 168) rfl ?_
    show rx_aw 234 4 [.ref 90, .int x1, .int x2, .int x3, .int x4, rx_no, rx_no, rx_no] [] (rx_hp L t hi hl v) Q
    exact rx_aw_le (ls := [.ref 90, .int x1, .int x2, .int x3, rx_no, rx_no, rx_no, rx_no]) ⟨Or.inr rfl, ⟨Or.inr rfl, ⟨Or.inr rfl, ⟨Or.inr rfl, ⟨Or.inl rfl, ⟨Or.inl rfl, ⟨Or.inl rfl, ⟨Or.inl rfl, trivial⟩⟩⟩⟩⟩⟩⟩⟩ k
  · have k := k.2 c2
    show rx_aw 234 20 [.ref 90, .int x1, .int x2, .int x3, .int x4, rx_no, rx_no, rx_no] [] (rx_hp L t hi hl v) Q
    refine rx_aw_s 3 (pc := 20) rfl ?_
    show rx_aw 234 26 [.ref 90, .int x1, .int x2, .int x3, .int x4, rx_no, rx_no, rx_no] [.int x4, .ref 129] (rx_hp L t hi hl v) Q
    obtain ⟨j3, ej3, hj3, k⟩ := k
    refine rx_aw_iald (pc := 26) (n := 64000) j3 ej3 rfl rfl rfl hj3 (by decide) ?_
    show rx_aw 234 27 [.ref 90, .int x1, .int x2, .int x3, .int x4, rx_no, rx_no, rx_no] [.int (hi 129 j3)] (rx_hp L t hi hl v) Q
    refine rx_aw_s 2 (pc := 27) rfl ?_
    refine rx_w_ifn (c := (hi 129 j3) = x1) ⟨fun c4 => ?_, fun c4 => ?_⟩
    · have k := k.1 c4
      show rx_aw 234 31 [.ref 90, .int x1, .int x2, .int x3, .int x4, rx_no, rx_no, rx_no] [] (rx_hp L t hi hl v) Q
      refine rx_aw_s 3 (pc := 31) rfl ?_
      show rx_aw 234 37 [.ref 90, .int x1, .int x2, .int x3, .int x4, rx_no, rx_no, rx_no] [.int x4, .ref 130] (rx_hp L t hi hl v) Q
      obtain ⟨j5, ej5, hj5, k⟩ := k
      refine rx_aw_bald (pc := 37) (n := 64000) j5 ej5 rfl (Or.inr rfl) (by decide) rfl hj5 (by decide) ?_
      show rx_aw 234 38 [.ref 90, .int x1, .int x2, .int x3, .int x4, rx_no, rx_no, rx_no] [.int (hi 130 j5)] (rx_hp L t hi hl v) Q
      refine rx_aw_s 1 (pc := 38) rfl ?_
      refine rx_w_if (c := (hi 130 j5) = 0) ⟨fun c6 => ?_, fun c6 => ?_⟩
      · have k := k.1 c6
        show rx_aw 234 44 [.ref 90, .int x1, .int x2, .int x3, .int x4, rx_no, rx_no, rx_no] [] (rx_hp L t hi hl v) Q
        refine rx_aw_s 4 (pc := 44) rfl ?_
        show rx_aw 234 51 [.ref 90, .int x1, .int x2, .int x3, .int x4, rx_no, rx_no, rx_no] [.int (1 : Int32), .int x4, .ref 130] (rx_hp L t hi hl v) Q
        obtain ⟨j7, ej7, hj7, k⟩ := k
        refine rx_aw_zast (pc := 51) (n := 64000) j7 ej7 rfl rfl (by decide) rfl hj7 (by decide) ?_
        show rx_aw 234 52 [.ref 90, .int x1, .int x2, .int x3, .int x4, rx_no, rx_no, rx_no] [] (rx_hp L t (rx_u hi 130 j7 (vp_nar .boolean (1 : Int32))) hl v) Q
        refine rx_aw_s 4 (pc := 52) rfl ?_
        show rx_aw 234 58 [.ref 90, .int x1, .int (1 : Int32), .int x3, .int x4, rx_no, rx_no, rx_no] [.int (8 : Int32), .int x4] (rx_hp L t (rx_u hi 130 j7 (vp_nar .boolean (1 : Int32))) hl v) Q
        refine rx_aw_rem (pc := 58) rfl (by decide) ?_
        show rx_aw 234 59 [.ref 90, .int x1, .int (1 : Int32), .int x3, .int x4, rx_no, rx_no, rx_no] [.int (x4 - x4 / (8 : Int32) * (8 : Int32))] (rx_hp L t (rx_u hi 130 j7 (vp_nar .boolean (1 : Int32))) hl v) Q
        refine rx_aw_s 4 (pc := 59) rfl ?_
        refine rx_w_ifn (c := (x4 - x4 / (8 : Int32) * (8 : Int32)) = 0) ⟨fun c8 => ?_, fun c8 => ?_⟩
        · have k := k.1 c8
          show rx_aw 234 67 [.ref 90, .int x1, .int (1 : Int32), .int x3, .int x4, .int (x4 - x4 / (8 : Int32) * (8 : Int32)), rx_no, rx_no] [.int x3] (rx_hp L t (rx_u hi 130 j7 (vp_nar .boolean (1 : Int32))) hl v) Q
          refine rx_aw_s 6 (pc := 67) rfl ?_
          show rx_aw 234 77 [.ref 90, .int x1, .int (1 : Int32), .int (x3 ||| (1 : Int32)), .int x4, .int (x4 - x4 / (8 : Int32) * (8 : Int32)), rx_no, rx_no] [.int x4, .ref 90] (rx_hp L t (rx_u hi 130 j7 (vp_nar .boolean (1 : Int32))) hl v) Q
          refine rx_w_callV (j := 235) (pc := 77) rfl rfl rfl rfl rfl ?_
          refine rx_aw.mono k (fun r h2 k => ?_)
          obtain ⟨rfl, hi9, hl9, v9, rfl, k⟩ := k
          refine ⟨rfl, ?_⟩
          show rx_aw 234 80 [.ref 90, .int x1, .int (1 : Int32), .int (x3 ||| (1 : Int32)), .int x4, .int (x4 - x4 / (8 : Int32) * (8 : Int32)), rx_no, rx_no] [] (rx_hp L t hi9 hl9 v9) Q
          refine rx_aw_s 2 (pc := 80) rfl ?_
          show rx_aw 234 83 [.ref 90, .int x1, .int (1 : Int32), .int (x3 ||| (1 : Int32)), .int x4, .int (x4 - x4 / (8 : Int32) * (8 : Int32)), .int (0 : Int32), rx_no] [] (rx_hp L t hi9 hl9 v9) Q
          exact k
        · have k := k.2 c8
          show rx_aw 234 71 [.ref 90, .int x1, .int (1 : Int32), .int x3, .int x4, .int (x4 - x4 / (8 : Int32) * (8 : Int32)), rx_no, rx_no] [.int x3] (rx_hp L t (rx_u hi 130 j7 (vp_nar .boolean (1 : Int32))) hl v) Q
          refine rx_aw_s 5 (pc := 71) rfl ?_
          show rx_aw 234 77 [.ref 90, .int x1, .int (1 : Int32), .int (x3 ||| (0 : Int32)), .int x4, .int (x4 - x4 / (8 : Int32) * (8 : Int32)), rx_no, rx_no] [.int x4, .ref 90] (rx_hp L t (rx_u hi 130 j7 (vp_nar .boolean (1 : Int32))) hl v) Q
          refine rx_w_callV (j := 235) (pc := 77) rfl rfl rfl rfl rfl ?_
          refine rx_aw.mono k (fun r h2 k => ?_)
          obtain ⟨rfl, hi10, hl10, v10, rfl, k⟩ := k
          refine ⟨rfl, ?_⟩
          show rx_aw 234 80 [.ref 90, .int x1, .int (1 : Int32), .int (x3 ||| (0 : Int32)), .int x4, .int (x4 - x4 / (8 : Int32) * (8 : Int32)), rx_no, rx_no] [] (rx_hp L t hi10 hl10 v10) Q
          refine rx_aw_s 2 (pc := 80) rfl ?_
          show rx_aw 234 83 [.ref 90, .int x1, .int (1 : Int32), .int (x3 ||| (0 : Int32)), .int x4, .int (x4 - x4 / (8 : Int32) * (8 : Int32)), .int (0 : Int32), rx_no] [] (rx_hp L t hi10 hl10 v10) Q
          exact k
      · have k := k.2 c6
        show rx_aw 234 41 [.ref 90, .int x1, .int x2, .int x3, .int x4, rx_no, rx_no, rx_no] [] (rx_hp L t hi hl v) Q
        refine rx_aw_s 3 (pc := 41) rfl ?_
        show rx_aw 234 13 [.ref 90, .int x1, .int x2, .int x3, .int (x4 + (1 : Int32)), rx_no, rx_no, rx_no] [] (rx_hp L t hi hl v) Q
        exact k
    · have k := k.2 c4
      show rx_aw 234 162 [.ref 90, .int x1, .int x2, .int x3, .int x4, rx_no, rx_no, rx_no] [] (rx_hp L t hi hl v) Q
      refine rx_aw_s 2 (pc := 162) rfl ?_
      show rx_aw 234 13 [.ref 90, .int x1, .int x2, .int x3, .int (x4 + (1 : Int32)), rx_no, rx_no, rx_no] [] (rx_hp L t hi hl v) Q
      exact k
set_option maxRecDepth 100000 in
theorem w234_settle_r_83 {L : Nat} {t : List (Nat × Nat)} {hi : Nat → Nat → Int32} {hl : Nat → Nat → Int64} {v : Nat → Nat → Option Nat} {Q : Option Value → rx_H → Prop} {x1 : Int32} {x2 : Int32} {x3 : Int32} {x4 : Int32} {x5 : Int32} {x6 : Int32} (k : (((hi 90 53) ≤ x6 → ((x5 = 0 → rx_aw 234 13 [.ref 90, .int x1, .int x2, .int x3, .int (x4 + (1 : Int32)), rx_no, rx_no, rx_no] [] (rx_hp L t hi hl v) Q) ∧ (¬ (x5 = 0) → rx_me 236 [.ref 90, .int x5, .int x1] (rx_hp L t hi hl v) (fun r h2 => r = none ∧ rx_ok2 L t h2 (fun hi13 hl13 v13 => rx_aw 234 13 [.ref 90, .int x1, .int x2, .int x3, .int (x4 + (1 : Int32)), rx_no, rx_no, rx_no] [] (rx_hp L t hi13 hl13 v13) Q))))) ∧ (¬ ((hi 90 53) ≤ x6) → ((((x5 >>> (x6 &&& 31)) &&& (1 : Int32)) = (1 : Int32) → (∃ j15 : Nat, x6 = nI j15 ∧ j15 < 3 ∧ (∃ j16 : Nat, (hi 132 j15) = nI j16 ∧ j16 < 20 ∧ (∃ j17 : Nat, x6 = nI j17 ∧ j17 < 3 ∧ (∃ j18 : Nat, (hi 128 j17) = nI j18 ∧ j18 < 6 ∧ (((hi 126 j16) = (hi 97 j18) → rx_me 232 [.ref 90, .int (x4 - ((1 : Int32) <<< (x6 &&& 31))), .int x1] (rx_hp L t hi hl v) (fun r h2 => ∃ z20 : Int32, r = some (.int z20) ∧ rx_ok2 L t h2 (fun hi20 hl20 v20 => rx_aw 234 83 [.ref 90, .int x1, .int x2, .int x3, .int x4, .int x5, .int (x6 + (1 : Int32)), rx_no] [] (rx_hp L t hi20 hl20 v20) Q))) ∧ (¬ ((hi 126 j16) = (hi 97 j18)) → rx_aw 234 83 [.ref 90, .int x1, .int x2, .int x3, .int x4, .int x5, .int (x6 + (1 : Int32)), rx_no] [] (rx_hp L t hi hl v) Q))))))) ∧ (¬ (((x5 >>> (x6 &&& 31)) &&& (1 : Int32)) = (1 : Int32)) → rx_aw 234 83 [.ref 90, .int x1, .int x2, .int x3, .int x4, .int x5, .int (x6 + (1 : Int32)), rx_no] [] (rx_hp L t hi hl v) Q))))) : rx_aw 234 83 [.ref 90, .int x1, .int x2, .int x3, .int x4, .int x5, .int x6, rx_no] [] (rx_hp L t hi hl v) Q := by
  refine rx_aw_s 4 (pc := 83) rfl ?_
  refine rx_w_if (c := (hi 90 53) ≤ x6) ⟨fun c11 => ?_, fun c11 => ?_⟩
  · have k := k.1 c11
    show rx_aw 234 150 [.ref 90, .int x1, .int x2, .int x3, .int x4, .int x5, .int x6, rx_no] [] (rx_hp L t hi hl v) Q
    refine rx_aw_s 2 (pc := 150) rfl ?_
    refine rx_w_if (c := x5 = 0) ⟨fun c12 => ?_, fun c12 => ?_⟩
    · have k := k.1 c12
      show rx_aw 234 162 [.ref 90, .int x1, .int x2, .int x3, .int x4, .int x5, .int x6, rx_no] [] (rx_hp L t hi hl v) Q
      refine rx_aw_s 2 (pc := 162) rfl ?_
      show rx_aw 234 13 [.ref 90, .int x1, .int x2, .int x3, .int (x4 + (1 : Int32)), .int x5, .int x6, rx_no] [] (rx_hp L t hi hl v) Q
      exact rx_aw_le (ls := [.ref 90, .int x1, .int x2, .int x3, .int (x4 + (1 : Int32)), rx_no, rx_no, rx_no]) ⟨Or.inr rfl, ⟨Or.inr rfl, ⟨Or.inr rfl, ⟨Or.inr rfl, ⟨Or.inr rfl, ⟨Or.inl rfl, ⟨Or.inl rfl, ⟨Or.inl rfl, trivial⟩⟩⟩⟩⟩⟩⟩⟩ k
    · have k := k.2 c12
      show rx_aw 234 155 [.ref 90, .int x1, .int x2, .int x3, .int x4, .int x5, .int x6, rx_no] [] (rx_hp L t hi hl v) Q
      refine rx_aw_s 3 (pc := 155) rfl ?_
      show rx_aw 234 159 [.ref 90, .int x1, .int x2, .int x3, .int x4, .int x5, .int x6, rx_no] [.int x1, .int x5, .ref 90] (rx_hp L t hi hl v) Q
      refine rx_w_callV (j := 236) (pc := 159) rfl rfl rfl rfl rfl ?_
      refine rx_aw.mono k (fun r h2 k => ?_)
      obtain ⟨rfl, hi13, hl13, v13, rfl, k⟩ := k
      refine ⟨rfl, ?_⟩
      show rx_aw 234 162 [.ref 90, .int x1, .int x2, .int x3, .int x4, .int x5, .int x6, rx_no] [] (rx_hp L t hi13 hl13 v13) Q
      refine rx_aw_s 2 (pc := 162) rfl ?_
      show rx_aw 234 13 [.ref 90, .int x1, .int x2, .int x3, .int (x4 + (1 : Int32)), .int x5, .int x6, rx_no] [] (rx_hp L t hi13 hl13 v13) Q
      exact rx_aw_le (ls := [.ref 90, .int x1, .int x2, .int x3, .int (x4 + (1 : Int32)), rx_no, rx_no, rx_no]) ⟨Or.inr rfl, ⟨Or.inr rfl, ⟨Or.inr rfl, ⟨Or.inr rfl, ⟨Or.inr rfl, ⟨Or.inl rfl, ⟨Or.inl rfl, ⟨Or.inl rfl, trivial⟩⟩⟩⟩⟩⟩⟩⟩ k
  · have k := k.2 c11
    show rx_aw 234 92 [.ref 90, .int x1, .int x2, .int x3, .int x4, .int x5, .int x6, rx_no] [] (rx_hp L t hi hl v) Q
    refine rx_aw_s 7 (pc := 92) rfl ?_
    refine rx_w_ifn (c := ((x5 >>> (x6 &&& 31)) &&& (1 : Int32)) = (1 : Int32)) ⟨fun c14 => ?_, fun c14 => ?_⟩
    · have k := k.1 c14
      show rx_aw 234 103 [.ref 90, .int x1, .int x2, .int x3, .int x4, .int x5, .int x6, rx_no] [] (rx_hp L t hi hl v) Q
      refine rx_aw_s 5 (pc := 103) rfl ?_
      show rx_aw 234 113 [.ref 90, .int x1, .int x2, .int x3, .int x4, .int x5, .int x6, rx_no] [.int x6, .ref 132, .ref 126] (rx_hp L t hi hl v) Q
      obtain ⟨j15, ej15, hj15, k⟩ := k
      refine rx_aw_iald (pc := 113) (n := 3) j15 ej15 rfl rfl rfl hj15 (by decide) ?_
      show rx_aw 234 114 [.ref 90, .int x1, .int x2, .int x3, .int x4, .int x5, .int x6, rx_no] [.int (hi 132 j15), .ref 126] (rx_hp L t hi hl v) Q
      obtain ⟨j16, ej16, hj16, k⟩ := k
      refine rx_aw_iald (pc := 114) (n := 20) j16 ej16 rfl rfl rfl hj16 (by decide) ?_
      show rx_aw 234 115 [.ref 90, .int x1, .int x2, .int x3, .int x4, .int x5, .int x6, rx_no] [.int (hi 126 j16)] (rx_hp L t hi hl v) Q
      refine rx_aw_s 5 (pc := 115) rfl ?_
      show rx_aw 234 125 [.ref 90, .int x1, .int x2, .int x3, .int x4, .int x5, .int x6, rx_no] [.int x6, .ref 128, .ref 97, .int (hi 126 j16)] (rx_hp L t hi hl v) Q
      obtain ⟨j17, ej17, hj17, k⟩ := k
      refine rx_aw_iald (pc := 125) (n := 3) j17 ej17 rfl rfl rfl hj17 (by decide) ?_
      show rx_aw 234 126 [.ref 90, .int x1, .int x2, .int x3, .int x4, .int x5, .int x6, rx_no] [.int (hi 128 j17), .ref 97, .int (hi 126 j16)] (rx_hp L t hi hl v) Q
      obtain ⟨j18, ej18, hj18, k⟩ := k
      refine rx_aw_iald (pc := 126) (n := 6) j18 ej18 rfl rfl rfl hj18 (by decide) ?_
      show rx_aw 234 127 [.ref 90, .int x1, .int x2, .int x3, .int x4, .int x5, .int x6, rx_no] [.int (hi 97 j18), .int (hi 126 j16)] (rx_hp L t hi hl v) Q
      refine rx_aw_s 1 (pc := 127) rfl ?_
      refine rx_w_ifn (c := (hi 126 j16) = (hi 97 j18)) ⟨fun c19 => ?_, fun c19 => ?_⟩
      · have k := k.1 c19
        show rx_aw 234 130 [.ref 90, .int x1, .int x2, .int x3, .int x4, .int x5, .int x6, rx_no] [] (rx_hp L t hi hl v) Q
        refine rx_aw_s 7 (pc := 130) rfl ?_
        show rx_aw 234 139 [.ref 90, .int x1, .int x2, .int x3, .int x4, .int x5, .int x6, rx_no] [.int x1, .int (x4 - ((1 : Int32) <<< (x6 &&& 31))), .ref 90] (rx_hp L t hi hl v) Q
        refine rx_w_callI (j := 232) (pc := 139) rfl rfl rfl rfl rfl ?_
        refine rx_aw.mono k (fun r h2 k => ?_)
        obtain ⟨z20, rfl, hi20, hl20, v20, rfl, k⟩ := k
        refine ⟨z20, rfl, ?_⟩
        show rx_aw 234 142 [.ref 90, .int x1, .int x2, .int x3, .int x4, .int x5, .int x6, rx_no] [.int z20] (rx_hp L t hi20 hl20 v20) Q
        refine rx_aw_s 3 (pc := 142) rfl ?_
        show rx_aw 234 83 [.ref 90, .int x1, .int x2, .int x3, .int x4, .int x5, .int (x6 + (1 : Int32)), .int z20] [] (rx_hp L t hi20 hl20 v20) Q
        exact rx_aw_le (ls := [.ref 90, .int x1, .int x2, .int x3, .int x4, .int x5, .int (x6 + (1 : Int32)), rx_no]) ⟨Or.inr rfl, ⟨Or.inr rfl, ⟨Or.inr rfl, ⟨Or.inr rfl, ⟨Or.inr rfl, ⟨Or.inr rfl, ⟨Or.inr rfl, ⟨Or.inl rfl, trivial⟩⟩⟩⟩⟩⟩⟩⟩ k
      · have k := k.2 c19
        show rx_aw 234 144 [.ref 90, .int x1, .int x2, .int x3, .int x4, .int x5, .int x6, rx_no] [] (rx_hp L t hi hl v) Q
        refine rx_aw_s 2 (pc := 144) rfl ?_
        show rx_aw 234 83 [.ref 90, .int x1, .int x2, .int x3, .int x4, .int x5, .int (x6 + (1 : Int32)), rx_no] [] (rx_hp L t hi hl v) Q
        exact k
    · have k := k.2 c14
      show rx_aw 234 144 [.ref 90, .int x1, .int x2, .int x3, .int x4, .int x5, .int x6, rx_no] [] (rx_hp L t hi hl v) Q
      refine rx_aw_s 2 (pc := 144) rfl ?_
      show rx_aw 234 83 [.ref 90, .int x1, .int x2, .int x3, .int x4, .int x5, .int (x6 + (1 : Int32)), rx_no] [] (rx_hp L t hi hl v) Q
      exact k
