/-! Methods walked by program (gen/wp.py): what is left to show of each. -/
/-- CartFloor$Floor.turnSquares(III)J -/
theorem w53_turnSquares {L : Nat} {t : List (Nat × Nat)} {hi : Nat → Nat → Int32} {hl : Nat → Nat → Int64} {v : Nat → Nat → Option Nat} {Q : Option Value → rx_H → Prop} {a0 : Int32} {a1 : Int32} {a2 : Int32} (k : ((a0 < (2 : Int32) → Q (some (.long (0 : Int64))) (rx_hp L t hi hl v)) ∧ (¬ (a0 < (2 : Int32)) → ((a2 < (3 : Int32) → Q (some (.long (0 : Int64))) (rx_hp L t hi hl v)) ∧ (¬ (a2 < (3 : Int32)) → (((4 : Int32) < a2 → Q (some (.long (0 : Int64))) (rx_hp L t hi hl v)) ∧ (¬ ((4 : Int32) < a2) → (∃ j4 : Nat, (((a2 - (3 : Int32)) * (256 : Int32)) + (a1 &&& (255 : Int32))) = nI j4 ∧ j4 < 512 ∧ Q (some (.long (hl 12 j4))) (rx_hp L t hi hl v))))))))) : rx_me 53 [.ref 7, .int a0, .int a1, .int a2] (rx_hp L t hi hl v) Q := by
  show rx_aw 53 0 [.ref 7, .int a0, .int a1, .int a2, rx_no] [] (rx_hp L t hi hl v) Q
  refine rx_aw_s 3 (pc := 0) rfl ?_
  refine rx_w_if (c := a0 < (2 : Int32)) ⟨fun c1 => ?_, fun c1 => ?_⟩
  · have k := k.1 c1
    show rx_aw 53 19 [.ref 7, .int a0, .int a1, .int a2, rx_no] [] (rx_hp L t hi hl v) Q
    refine rx_aw_s 5 (pc := 19) rfl ?_
    show rx_aw 53 49 [.ref 7, .int a0, .int a1, .int a2, .int (0 : Int32)] [.long (0 : Int64)] (rx_hp L t hi hl v) Q
    exact rx_aw_ret (pc := 49) rfl k
  · have k := k.2 c1
    show rx_aw 53 5 [.ref 7, .int a0, .int a1, .int a2, rx_no] [] (rx_hp L t hi hl v) Q
    refine rx_aw_s 3 (pc := 5) rfl ?_
    refine rx_w_if (c := a2 < (3 : Int32)) ⟨fun c2 => ?_, fun c2 => ?_⟩
    · have k := k.1 c2
      show rx_aw 53 19 [.ref 7, .int a0, .int a1, .int a2, rx_no] [] (rx_hp L t hi hl v) Q
      refine rx_aw_s 5 (pc := 19) rfl ?_
      show rx_aw 53 49 [.ref 7, .int a0, .int a1, .int a2, .int (0 : Int32)] [.long (0 : Int64)] (rx_hp L t hi hl v) Q
      exact rx_aw_ret (pc := 49) rfl k
    · have k := k.2 c2
      show rx_aw 53 10 [.ref 7, .int a0, .int a1, .int a2, rx_no] [] (rx_hp L t hi hl v) Q
      refine rx_aw_s 3 (pc := 10) rfl ?_
      refine rx_w_if (c := (4 : Int32) < a2) ⟨fun c3 => ?_, fun c3 => ?_⟩
      · have k := k.1 c3
        show rx_aw 53 19 [.ref 7, .int a0, .int a1, .int a2, rx_no] [] (rx_hp L t hi hl v) Q
        refine rx_aw_s 5 (pc := 19) rfl ?_
        show rx_aw 53 49 [.ref 7, .int a0, .int a1, .int a2, .int (0 : Int32)] [.long (0 : Int64)] (rx_hp L t hi hl v) Q
        exact rx_aw_ret (pc := 49) rfl k
      · have k := k.2 c3
        show rx_aw 53 15 [.ref 7, .int a0, .int a1, .int a2, rx_no] [] (rx_hp L t hi hl v) Q
        refine rx_aw_s 16 (pc := 15) rfl ?_
        show rx_aw 53 44 [.ref 7, .int a0, .int a1, .int a2, .int (1 : Int32)] [.int (((a2 - (3 : Int32)) * (256 : Int32)) + (a1 &&& (255 : Int32))), .ref 12] (rx_hp L t hi hl v) Q
        obtain ⟨j4, ej4, hj4, k⟩ := k
        refine rx_aw_lald (pc := 44) (n := 512) j4 ej4 rfl rfl (by decide) rfl hj4 (by decide) ?_
        show rx_aw 53 45 [.ref 7, .int a0, .int a1, .int a2, .int (1 : Int32)] [.long (hl 12 j4)] (rx_hp L t hi hl v) Q
        refine rx_aw_s 1 (pc := 45) rfl ?_
        show rx_aw 53 49 [.ref 7, .int a0, .int a1, .int a2, .int (1 : Int32)] [.long (hl 12 j4)] (rx_hp L t hi hl v) Q
        exact rx_aw_ret (pc := 49) rfl k
/-- CartFloor.cart(IIII)I -/
theorem w54_cart {L : Nat} {t : List (Nat × Nat)} {hi : Nat → Nat → Int32} {hl : Nat → Nat → Int64} {v : Nat → Nat → Option Nat} {Q : Option Value → rx_H → Prop} {a0 : Int32} {a1 : Int32} {a2 : Int32} {a3 : Int32} (k : rx_me 26 [.ref 7, .int a1, .int a2] (rx_hp L t hi hl v) (fun r h2 => ∃ z1 : Int32, r = some (.int z1) ∧ rx_ok2 L t h2 (fun hi1 hl1 v1 => ((a0 < 0 → Q (some (.int (-2 : Int32))) (rx_hp L t hi1 hl1 v1)) ∧ (¬ (a0 < 0) → (((3 : Int32) < a0 → Q (some (.int (-2 : Int32))) (rx_hp L t hi1 hl1 v1)) ∧ (¬ ((3 : Int32) < a0) → ((z1 < 0 → Q (some (.int (-2 : Int32))) (rx_hp L t hi1 hl1 v1)) ∧ (¬ (z1 < 0) → ((a3 < 0 → Q (some (.int (-2 : Int32))) (rx_hp L t hi1 hl1 v1)) ∧ (¬ (a3 < 0) → ((a3 ≤ (3 : Int32) → (((6 : Int32) ≤ (hi1 13 3) → Q (some (.int (-2 : Int32))) (rx_hp L t hi1 hl1 v1)) ∧ (¬ ((6 : Int32) ≤ (hi1 13 3)) → rx_me 35 [.ref 13] (rx_hp L t hi1 hl1 v1) (fun r h2 => ∃ z8 : Int32, r = some (.int z8) ∧ rx_ok2 L t h2 (fun hi8 hl8 v8 => ((z8 = 0 → rx_me 55 [.int z1, .int a3, .int (-1 : Int32)] (rx_hp L t hi8 hl8 v8) (fun r h2 => ∃ z10 : Int32, r = some (.int z10) ∧ rx_ok2 L t h2 (fun hi10 hl10 v10 => rx_me 42 [.ref 7, .int a0, .int z10] (rx_hp L t hi10 hl10 v10) (fun r h2 => ∃ z11 : Int64, r = some (.long z11) ∧ rx_ok2 L t h2 (fun hi11 hl11 v11 => ((a0 < (2 : Int32) → rx_me 39 [.ref 13] (rx_hp L t hi11 hl11 v11) (fun r h2 => ∃ z13 : Int64, r = some (.long z13) ∧ rx_ok2 L t h2 (fun hi13 hl13 v13 => ((a0 = (1 : Int32) → (((lg_cmp (z11 &&& ((hl13 7 10) ||| (z13 ||| (0 : Int64)))) (0 : Int64)) = 0 → rx_me 56 [.ref 13, .int a0, .int z10] (rx_hp L t hi13 hl13 v13) (fun r h2 => ∃ z16 : Int32, r = some (.int z16) ∧ rx_ok2 L t h2 (fun hi16 hl16 v16 => Q (some (.int z16)) (rx_hp L t hi16 hl16 v16)))) ∧ (¬ ((lg_cmp (z11 &&& ((hl13 7 10) ||| (z13 ||| (0 : Int64)))) (0 : Int64)) = 0) → Q (some (.int (-2 : Int32))) (rx_hp L t hi13 hl13 v13)))) ∧ (¬ (a0 = (1 : Int32)) → rx_me 37 [.ref 13, .int (0 : Int32), .int (-1 : Int32)] (rx_hp L t hi13 hl13 v13) (fun r h2 => ∃ z17 : Int64, r = some (.long z17) ∧ rx_ok2 L t h2 (fun hi17 hl17 v17 => (((lg_cmp (z11 &&& ((hl17 7 10) ||| (z13 ||| z17))) (0 : Int64)) = 0 → rx_me 56 [.ref 13, .int a0, .int z10] (rx_hp L t hi17 hl17 v17) (fun r h2 => ∃ z19 : Int32, r = some (.int z19) ∧ rx_ok2 L t h2 (fun hi19 hl19 v19 => Q (some (.int z19)) (rx_hp L t hi19 hl19 v19)))) ∧ (¬ ((lg_cmp (z11 &&& ((hl17 7 10) ||| (z13 ||| z17))) (0 : Int64)) = 0) → Q (some (.int (-2 : Int32))) (rx_hp L t hi17 hl17 v17)))))))))) ∧ (¬ (a0 < (2 : Int32)) → rx_me 13 [.long z11] (rx_hp L t hi11 hl11 v11) (fun r h2 => ∃ z20 : Int32, r = some (.int z20) ∧ rx_ok2 L t h2 (fun hi20 hl20 v20 => (((2 : Int32) ≤ z20 → rx_me 39 [.ref 13] (rx_hp L t hi20 hl20 v20) (fun r h2 => ∃ z22 : Int64, r = some (.long z22) ∧ rx_ok2 L t h2 (fun hi22 hl22 v22 => ((a0 = (1 : Int32) → (((lg_cmp (z11 &&& ((hl22 7 10) ||| (z22 ||| (0 : Int64)))) (0 : Int64)) = 0 → rx_me 56 [.ref 13, .int a0, .int z10] (rx_hp L t hi22 hl22 v22) (fun r h2 => ∃ z25 : Int32, r = some (.int z25) ∧ rx_ok2 L t h2 (fun hi25 hl25 v25 => Q (some (.int z25)) (rx_hp L t hi25 hl25 v25)))) ∧ (¬ ((lg_cmp (z11 &&& ((hl22 7 10) ||| (z22 ||| (0 : Int64)))) (0 : Int64)) = 0) → Q (some (.int (-2 : Int32))) (rx_hp L t hi22 hl22 v22)))) ∧ (¬ (a0 = (1 : Int32)) → rx_me 37 [.ref 13, .int (0 : Int32), .int (-1 : Int32)] (rx_hp L t hi22 hl22 v22) (fun r h2 => ∃ z26 : Int64, r = some (.long z26) ∧ rx_ok2 L t h2 (fun hi26 hl26 v26 => (((lg_cmp (z11 &&& ((hl26 7 10) ||| (z22 ||| z26))) (0 : Int64)) = 0 → rx_me 56 [.ref 13, .int a0, .int z10] (rx_hp L t hi26 hl26 v26) (fun r h2 => ∃ z28 : Int32, r = some (.int z28) ∧ rx_ok2 L t h2 (fun hi28 hl28 v28 => Q (some (.int z28)) (rx_hp L t hi28 hl28 v28)))) ∧ (¬ ((lg_cmp (z11 &&& ((hl26 7 10) ||| (z22 ||| z26))) (0 : Int64)) = 0) → Q (some (.int (-2 : Int32))) (rx_hp L t hi26 hl26 v26)))))))))) ∧ (¬ ((2 : Int32) ≤ z20) → Q (some (.int (-2 : Int32))) (rx_hp L t hi20 hl20 v20)))))))))))) ∧ (¬ (z8 = 0) → Q (some (.int (-2 : Int32))) (rx_hp L t hi8 hl8 v8)))))))) ∧ (¬ (a3 ≤ (3 : Int32)) → Q (some (.int (-2 : Int32))) (rx_hp L t hi1 hl1 v1)))))))))))))) : rx_me 54 [.ref 1, .int a0, .int a1, .int a2, .int a3] (rx_hp L t hi hl v) Q := by
  show rx_aw 54 0 [.ref 1, .int a0, .int a1, .int a2, .int a3, rx_no, rx_no, rx_no, rx_no, rx_no, rx_no] [] (rx_hp L t hi hl v) Q
  refine rx_aw_s 4 (pc := 0) rfl ?_
  show rx_aw 54 6 [.ref 1, .int a0, .int a1, .int a2, .int a3, rx_no, rx_no, rx_no, rx_no, rx_no, rx_no] [.int a2, .int a1, .ref 7] (rx_hp L t hi hl v) Q
  refine rx_w_callI (j := 26) (pc := 6) rfl rfl rfl rfl rfl ?_
  refine rx_aw.mono k (fun r h2 k => ?_)
  obtain ⟨z1, rfl, hi1, hl1, v1, rfl, k⟩ := k
  refine ⟨z1, rfl, ?_⟩
  show rx_aw 54 9 [.ref 1, .int a0, .int a1, .int a2, .int a3, rx_no, rx_no, rx_no, rx_no, rx_no, rx_no] [.int z1] (rx_hp L t hi1 hl1 v1) Q
  refine rx_aw_s 3 (pc := 9) rfl ?_
  refine rx_w_if (c := a0 < 0) ⟨fun c2 => ?_, fun c2 => ?_⟩
  · have k := k.1 c2
    show rx_aw 54 36 [.ref 1, .int a0, .int a1, .int a2, .int a3, .int z1, rx_no, rx_no, rx_no, rx_no, rx_no] [] (rx_hp L t hi1 hl1 v1) Q
    refine rx_aw_s 1 (pc := 36) rfl ?_
    show rx_aw 54 38 [.ref 1, .int a0, .int a1, .int a2, .int a3, .int z1, rx_no, rx_no, rx_no, rx_no, rx_no] [.int (-2 : Int32)] (rx_hp L t hi1 hl1 v1) Q
    exact rx_aw_ret (pc := 38) rfl k
  · have k := k.2 c2
    show rx_aw 54 15 [.ref 1, .int a0, .int a1, .int a2, .int a3, .int z1, rx_no, rx_no, rx_no, rx_no, rx_no] [] (rx_hp L t hi1 hl1 v1) Q
    refine rx_aw_s 3 (pc := 15) rfl ?_
    refine rx_w_if (c := (3 : Int32) < a0) ⟨fun c3 => ?_, fun c3 => ?_⟩
    · have k := k.1 c3
      show rx_aw 54 36 [.ref 1, .int a0, .int a1, .int a2, .int a3, .int z1, rx_no, rx_no, rx_no, rx_no, rx_no] [] (rx_hp L t hi1 hl1 v1) Q
      refine rx_aw_s 1 (pc := 36) rfl ?_
      show rx_aw 54 38 [.ref 1, .int a0, .int a1, .int a2, .int a3, .int z1, rx_no, rx_no, rx_no, rx_no, rx_no] [.int (-2 : Int32)] (rx_hp L t hi1 hl1 v1) Q
      exact rx_aw_ret (pc := 38) rfl k
    · have k := k.2 c3
      show rx_aw 54 20 [.ref 1, .int a0, .int a1, .int a2, .int a3, .int z1, rx_no, rx_no, rx_no, rx_no, rx_no] [] (rx_hp L t hi1 hl1 v1) Q
      refine rx_aw_s 2 (pc := 20) rfl ?_
      refine rx_w_if (c := z1 < 0) ⟨fun c4 => ?_, fun c4 => ?_⟩
      · have k := k.1 c4
        show rx_aw 54 36 [.ref 1, .int a0, .int a1, .int a2, .int a3, .int z1, rx_no, rx_no, rx_no, rx_no, rx_no] [] (rx_hp L t hi1 hl1 v1) Q
        refine rx_aw_s 1 (pc := 36) rfl ?_
        show rx_aw 54 38 [.ref 1, .int a0, .int a1, .int a2, .int a3, .int z1, rx_no, rx_no, rx_no, rx_no, rx_no] [.int (-2 : Int32)] (rx_hp L t hi1 hl1 v1) Q
        exact rx_aw_ret (pc := 38) rfl k
      · have k := k.2 c4
        show rx_aw 54 25 [.ref 1, .int a0, .int a1, .int a2, .int a3, .int z1, rx_no, rx_no, rx_no, rx_no, rx_no] [] (rx_hp L t hi1 hl1 v1) Q
        refine rx_aw_s 2 (pc := 25) rfl ?_
        refine rx_w_if (c := a3 < 0) ⟨fun c5 => ?_, fun c5 => ?_⟩
        · have k := k.1 c5
          show rx_aw 54 36 [.ref 1, .int a0, .int a1, .int a2, .int a3, .int z1, rx_no, rx_no, rx_no, rx_no, rx_no] [] (rx_hp L t hi1 hl1 v1) Q
          refine rx_aw_s 1 (pc := 36) rfl ?_
          show rx_aw 54 38 [.ref 1, .int a0, .int a1, .int a2, .int a3, .int z1, rx_no, rx_no, rx_no, rx_no, rx_no] [.int (-2 : Int32)] (rx_hp L t hi1 hl1 v1) Q
          exact rx_aw_ret (pc := 38) rfl k
        · have k := k.2 c5
          show rx_aw 54 30 [.ref 1, .int a0, .int a1, .int a2, .int a3, .int z1, rx_no, rx_no, rx_no, rx_no, rx_no] [] (rx_hp L t hi1 hl1 v1) Q
          refine rx_aw_s 3 (pc := 30) rfl ?_
          refine rx_w_if (c := a3 ≤ (3 : Int32)) ⟨fun c6 => ?_, fun c6 => ?_⟩
          · have k := k.1 c6
            show rx_aw 54 39 [.ref 1, .int a0, .int a1, .int a2, .int a3, .int z1, rx_no, rx_no, rx_no, rx_no, rx_no] [] (rx_hp L t hi1 hl1 v1) Q
            refine rx_aw_s 5 (pc := 39) rfl ?_
            refine rx_w_if (c := (6 : Int32) ≤ (hi1 13 3)) ⟨fun c7 => ?_, fun c7 => ?_⟩
            · have k := k.1 c7
              show rx_aw 54 61 [.ref 1, .int a0, .int a1, .int a2, .int a3, .int z1, rx_no, rx_no, rx_no, rx_no, rx_no] [] (rx_hp L t hi1 hl1 v1) Q
              refine rx_aw_s 1 (pc := 61) rfl ?_
              show rx_aw 54 63 [.ref 1, .int a0, .int a1, .int a2, .int a3, .int z1, rx_no, rx_no, rx_no, rx_no, rx_no] [.int (-2 : Int32)] (rx_hp L t hi1 hl1 v1) Q
              exact rx_aw_ret (pc := 63) rfl k
            · have k := k.2 c7
              show rx_aw 54 51 [.ref 1, .int a0, .int a1, .int a2, .int a3, .int z1, rx_no, rx_no, rx_no, rx_no, rx_no] [] (rx_hp L t hi1 hl1 v1) Q
              refine rx_aw_s 2 (pc := 51) rfl ?_
              show rx_aw 54 55 [.ref 1, .int a0, .int a1, .int a2, .int a3, .int z1, rx_no, rx_no, rx_no, rx_no, rx_no] [.ref 13] (rx_hp L t hi1 hl1 v1) Q
              refine rx_w_callI (j := 35) (pc := 55) rfl rfl rfl rfl rfl ?_
              refine rx_aw.mono k (fun r h2 k => ?_)
              obtain ⟨z8, rfl, hi8, hl8, v8, rfl, k⟩ := k
              refine ⟨z8, rfl, ?_⟩
              show rx_aw 54 58 [.ref 1, .int a0, .int a1, .int a2, .int a3, .int z1, rx_no, rx_no, rx_no, rx_no, rx_no] [.int z8] (rx_hp L t hi8 hl8 v8) Q
              refine rx_aw_s 1 (pc := 58) rfl ?_
              refine rx_w_if (c := z8 = 0) ⟨fun c9 => ?_, fun c9 => ?_⟩
              · have k := k.1 c9
                show rx_aw 54 64 [.ref 1, .int a0, .int a1, .int a2, .int a3, .int z1, rx_no, rx_no, rx_no, rx_no, rx_no] [] (rx_hp L t hi8 hl8 v8) Q
                refine rx_aw_s 3 (pc := 64) rfl ?_
                show rx_aw 54 69 [.ref 1, .int a0, .int a1, .int a2, .int a3, .int z1, rx_no, rx_no, rx_no, rx_no, rx_no] [.int (-1 : Int32), .int a3, .int z1] (rx_hp L t hi8 hl8 v8) Q
                refine rx_w_callI (j := 55) (pc := 69) rfl rfl rfl rfl rfl ?_
                refine rx_aw.mono k (fun r h2 k => ?_)
                obtain ⟨z10, rfl, hi10, hl10, v10, rfl, k⟩ := k
                refine ⟨z10, rfl, ?_⟩
                show rx_aw 54 72 [.ref 1, .int a0, .int a1, .int a2, .int a3, .int z1, rx_no, rx_no, rx_no, rx_no, rx_no] [.int z10] (rx_hp L t hi10 hl10 v10) Q
                refine rx_aw_s 5 (pc := 72) rfl ?_
                show rx_aw 54 81 [.ref 1, .int a0, .int a1, .int a2, .int a3, .int z1, .int z10, rx_no, rx_no, rx_no, rx_no] [.int z10, .int a0, .ref 7] (rx_hp L t hi10 hl10 v10) Q
                refine rx_w_callL (j := 42) (pc := 81) rfl rfl rfl rfl rfl ?_
                refine rx_aw.mono k (fun r h2 k => ?_)
                obtain ⟨z11, rfl, hi11, hl11, v11, rfl, k⟩ := k
                refine ⟨z11, rfl, ?_⟩
                show rx_aw 54 84 [.ref 1, .int a0, .int a1, .int a2, .int a3, .int z1, .int z10, rx_no, rx_no, rx_no, rx_no] [.long z11] (rx_hp L t hi11 hl11 v11) Q
                refine rx_aw_s 4 (pc := 84) rfl ?_
                refine rx_w_if (c := a0 < (2 : Int32)) ⟨fun c12 => ?_, fun c12 => ?_⟩
                · have k := k.1 c12
                  show rx_aw 54 103 [.ref 1, .int a0, .int a1, .int a2, .int a3, .int z1, .int z10, .long z11, rx_no, rx_no, rx_no] [] (rx_hp L t hi11 hl11 v11) Q
                  refine rx_aw_s 2 (pc := 103) rfl ?_
                  show rx_aw 54 107 [.ref 1, .int a0, .int a1, .int a2, .int a3, .int z1, .int z10, .long z11, rx_no, rx_no, rx_no] [.ref 13] (rx_hp L t hi11 hl11 v11) Q
                  refine rx_w_callL (j := 39) (pc := 107) rfl rfl rfl rfl rfl ?_
                  refine rx_aw.mono k (fun r h2 k => ?_)
                  obtain ⟨z13, rfl, hi13, hl13, v13, rfl, k⟩ := k
                  refine ⟨z13, rfl, ?_⟩
                  show rx_aw 54 110 [.ref 1, .int a0, .int a1, .int a2, .int a3, .int z1, .int z10, .long z11, rx_no, rx_no, rx_no] [.long z13] (rx_hp L t hi13 hl13 v13) Q
                  refine rx_aw_s 3 (pc := 110) rfl ?_
                  refine rx_w_ifn (c := a0 = (1 : Int32)) ⟨fun c14 => ?_, fun c14 => ?_⟩
                  · have k := k.1 c14
                    show rx_aw 54 115 [.ref 1, .int a0, .int a1, .int a2, .int a3, .int z1, .int z10, .long z11, rx_no, rx_no, rx_no] [.long z13] (rx_hp L t hi13 hl13 v13) Q
                    refine rx_aw_s 14 (pc := 115) rfl ?_
                    refine rx_w_if (c := (lg_cmp (z11 &&& ((hl13 7 10) ||| (z13 ||| (0 : Int64)))) (0 : Int64)) = 0) ⟨fun c15 => ?_, fun c15 => ?_⟩
                    · have k := k.1 c15
                      show rx_aw 54 152 [.ref 1, .int a0, .int a1, .int a2, .int a3, .int z1, .int z10, .long z11, rx_no, .long (z13 ||| (0 : Int64)), rx_no] [] (rx_hp L t hi13 hl13 v13) Q
                      refine rx_aw_s 4 (pc := 152) rfl ?_
                      show rx_aw 54 159 [.ref 1, .int a0, .int a1, .int a2, .int a3, .int z1, .int z10, .long z11, rx_no, .long (z13 ||| (0 : Int64)), rx_no] [.int z10, .int a0, .ref 13] (rx_hp L t hi13 hl13 v13) Q
                      refine rx_w_callI (j := 56) (pc := 159) rfl rfl rfl rfl rfl ?_
                      refine rx_aw.mono k (fun r h2 k => ?_)
                      obtain ⟨z16, rfl, hi16, hl16, v16, rfl, k⟩ := k
                      refine ⟨z16, rfl, ?_⟩
                      show rx_aw 54 162 [.ref 1, .int a0, .int a1, .int a2, .int a3, .int z1, .int z10, .long z11, rx_no, .long (z13 ||| (0 : Int64)), rx_no] [.int z16] (rx_hp L t hi16 hl16 v16) Q
                      exact rx_aw_ret (pc := 162) rfl k
                    · have k := k.2 c15
                      show rx_aw 54 149 [.ref 1, .int a0, .int a1, .int a2, .int a3, .int z1, .int z10, .long z11, rx_no, .long (z13 ||| (0 : Int64)), rx_no] [] (rx_hp L t hi13 hl13 v13) Q
                      refine rx_aw_s 1 (pc := 149) rfl ?_
                      show rx_aw 54 151 [.ref 1, .int a0, .int a1, .int a2, .int a3, .int z1, .int z10, .long z11, rx_no, .long (z13 ||| (0 : Int64)), rx_no] [.int (-2 : Int32)] (rx_hp L t hi13 hl13 v13) Q
                      exact rx_aw_ret (pc := 151) rfl k
                  · have k := k.2 c14
                    show rx_aw 54 119 [.ref 1, .int a0, .int a1, .int a2, .int a3, .int z1, .int z10, .long z11, rx_no, rx_no, rx_no] [.long z13] (rx_hp L t hi13 hl13 v13) Q
                    refine rx_aw_s 4 (pc := 119) rfl ?_
                    show rx_aw 54 125 [.ref 1, .int a0, .int a1, .int a2, .int a3, .int z1, .int z10, .long z11, rx_no, rx_no, rx_no] [.int (-1 : Int32), .int (0 : Int32), .ref 13, .long z13] (rx_hp L t hi13 hl13 v13) Q
                    refine rx_w_callL (j := 37) (pc := 125) rfl rfl rfl rfl rfl ?_
                    refine rx_aw.mono k (fun r h2 k => ?_)
                    obtain ⟨z17, rfl, hi17, hl17, v17, rfl, k⟩ := k
                    refine ⟨z17, rfl, ?_⟩
                    show rx_aw 54 128 [.ref 1, .int a0, .int a1, .int a2, .int a3, .int z1, .int z10, .long z11, rx_no, rx_no, rx_no] [.long z17, .long z13] (rx_hp L t hi17 hl17 v17) Q
                    refine rx_aw_s 12 (pc := 128) rfl ?_
                    refine rx_w_if (c := (lg_cmp (z11 &&& ((hl17 7 10) ||| (z13 ||| z17))) (0 : Int64)) = 0) ⟨fun c18 => ?_, fun c18 => ?_⟩
                    · have k := k.1 c18
                      show rx_aw 54 152 [.ref 1, .int a0, .int a1, .int a2, .int a3, .int z1, .int z10, .long z11, rx_no, .long (z13 ||| z17), rx_no] [] (rx_hp L t hi17 hl17 v17) Q
                      refine rx_aw_s 4 (pc := 152) rfl ?_
                      show rx_aw 54 159 [.ref 1, .int a0, .int a1, .int a2, .int a3, .int z1, .int z10, .long z11, rx_no, .long (z13 ||| z17), rx_no] [.int z10, .int a0, .ref 13] (rx_hp L t hi17 hl17 v17) Q
                      refine rx_w_callI (j := 56) (pc := 159) rfl rfl rfl rfl rfl ?_
                      refine rx_aw.mono k (fun r h2 k => ?_)
                      obtain ⟨z19, rfl, hi19, hl19, v19, rfl, k⟩ := k
                      refine ⟨z19, rfl, ?_⟩
                      show rx_aw 54 162 [.ref 1, .int a0, .int a1, .int a2, .int a3, .int z1, .int z10, .long z11, rx_no, .long (z13 ||| z17), rx_no] [.int z19] (rx_hp L t hi19 hl19 v19) Q
                      exact rx_aw_ret (pc := 162) rfl k
                    · have k := k.2 c18
                      show rx_aw 54 149 [.ref 1, .int a0, .int a1, .int a2, .int a3, .int z1, .int z10, .long z11, rx_no, .long (z13 ||| z17), rx_no] [] (rx_hp L t hi17 hl17 v17) Q
                      refine rx_aw_s 1 (pc := 149) rfl ?_
                      show rx_aw 54 151 [.ref 1, .int a0, .int a1, .int a2, .int a3, .int z1, .int z10, .long z11, rx_no, .long (z13 ||| z17), rx_no] [.int (-2 : Int32)] (rx_hp L t hi17 hl17 v17) Q
                      exact rx_aw_ret (pc := 151) rfl k
                · have k := k.2 c12
                  show rx_aw 54 91 [.ref 1, .int a0, .int a1, .int a2, .int a3, .int z1, .int z10, .long z11, rx_no, rx_no, rx_no] [] (rx_hp L t hi11 hl11 v11) Q
                  refine rx_aw_s 1 (pc := 91) rfl ?_
                  show rx_aw 54 93 [.ref 1, .int a0, .int a1, .int a2, .int a3, .int z1, .int z10, .long z11, rx_no, rx_no, rx_no] [.long z11] (rx_hp L t hi11 hl11 v11) Q
                  refine rx_w_callI (j := 13) (pc := 93) rfl rfl rfl rfl rfl ?_
                  refine rx_aw.mono k (fun r h2 k => ?_)
                  obtain ⟨z20, rfl, hi20, hl20, v20, rfl, k⟩ := k
                  refine ⟨z20, rfl, ?_⟩
                  show rx_aw 54 96 [.ref 1, .int a0, .int a1, .int a2, .int a3, .int z1, .int z10, .long z11, rx_no, rx_no, rx_no] [.int z20] (rx_hp L t hi20 hl20 v20) Q
                  refine rx_aw_s 2 (pc := 96) rfl ?_
                  refine rx_w_if (c := (2 : Int32) ≤ z20) ⟨fun c21 => ?_, fun c21 => ?_⟩
                  · have k := k.1 c21
                    show rx_aw 54 103 [.ref 1, .int a0, .int a1, .int a2, .int a3, .int z1, .int z10, .long z11, rx_no, rx_no, rx_no] [] (rx_hp L t hi20 hl20 v20) Q
                    refine rx_aw_s 2 (pc := 103) rfl ?_
                    show rx_aw 54 107 [.ref 1, .int a0, .int a1, .int a2, .int a3, .int z1, .int z10, .long z11, rx_no, rx_no, rx_no] [.ref 13] (rx_hp L t hi20 hl20 v20) Q
                    refine rx_w_callL (j := 39) (pc := 107) rfl rfl rfl rfl rfl ?_
                    refine rx_aw.mono k (fun r h2 k => ?_)
                    obtain ⟨z22, rfl, hi22, hl22, v22, rfl, k⟩ := k
                    refine ⟨z22, rfl, ?_⟩
                    show rx_aw 54 110 [.ref 1, .int a0, .int a1, .int a2, .int a3, .int z1, .int z10, .long z11, rx_no, rx_no, rx_no] [.long z22] (rx_hp L t hi22 hl22 v22) Q
                    refine rx_aw_s 3 (pc := 110) rfl ?_
                    refine rx_w_ifn (c := a0 = (1 : Int32)) ⟨fun c23 => ?_, fun c23 => ?_⟩
                    · have k := k.1 c23
                      show rx_aw 54 115 [.ref 1, .int a0, .int a1, .int a2, .int a3, .int z1, .int z10, .long z11, rx_no, rx_no, rx_no] [.long z22] (rx_hp L t hi22 hl22 v22) Q
                      refine rx_aw_s 14 (pc := 115) rfl ?_
                      refine rx_w_if (c := (lg_cmp (z11 &&& ((hl22 7 10) ||| (z22 ||| (0 : Int64)))) (0 : Int64)) = 0) ⟨fun c24 => ?_, fun c24 => ?_⟩
                      · have k := k.1 c24
                        show rx_aw 54 152 [.ref 1, .int a0, .int a1, .int a2, .int a3, .int z1, .int z10, .long z11, rx_no, .long (z22 ||| (0 : Int64)), rx_no] [] (rx_hp L t hi22 hl22 v22) Q
                        refine rx_aw_s 4 (pc := 152) rfl ?_
                        show rx_aw 54 159 [.ref 1, .int a0, .int a1, .int a2, .int a3, .int z1, .int z10, .long z11, rx_no, .long (z22 ||| (0 : Int64)), rx_no] [.int z10, .int a0, .ref 13] (rx_hp L t hi22 hl22 v22) Q
                        refine rx_w_callI (j := 56) (pc := 159) rfl rfl rfl rfl rfl ?_
                        refine rx_aw.mono k (fun r h2 k => ?_)
                        obtain ⟨z25, rfl, hi25, hl25, v25, rfl, k⟩ := k
                        refine ⟨z25, rfl, ?_⟩
                        show rx_aw 54 162 [.ref 1, .int a0, .int a1, .int a2, .int a3, .int z1, .int z10, .long z11, rx_no, .long (z22 ||| (0 : Int64)), rx_no] [.int z25] (rx_hp L t hi25 hl25 v25) Q
                        exact rx_aw_ret (pc := 162) rfl k
                      · have k := k.2 c24
                        show rx_aw 54 149 [.ref 1, .int a0, .int a1, .int a2, .int a3, .int z1, .int z10, .long z11, rx_no, .long (z22 ||| (0 : Int64)), rx_no] [] (rx_hp L t hi22 hl22 v22) Q
                        refine rx_aw_s 1 (pc := 149) rfl ?_
                        show rx_aw 54 151 [.ref 1, .int a0, .int a1, .int a2, .int a3, .int z1, .int z10, .long z11, rx_no, .long (z22 ||| (0 : Int64)), rx_no] [.int (-2 : Int32)] (rx_hp L t hi22 hl22 v22) Q
                        exact rx_aw_ret (pc := 151) rfl k
                    · have k := k.2 c23
                      show rx_aw 54 119 [.ref 1, .int a0, .int a1, .int a2, .int a3, .int z1, .int z10, .long z11, rx_no, rx_no, rx_no] [.long z22] (rx_hp L t hi22 hl22 v22) Q
                      refine rx_aw_s 4 (pc := 119) rfl ?_
                      show rx_aw 54 125 [.ref 1, .int a0, .int a1, .int a2, .int a3, .int z1, .int z10, .long z11, rx_no, rx_no, rx_no] [.int (-1 : Int32), .int (0 : Int32), .ref 13, .long z22] (rx_hp L t hi22 hl22 v22) Q
                      refine rx_w_callL (j := 37) (pc := 125) rfl rfl rfl rfl rfl ?_
                      refine rx_aw.mono k (fun r h2 k => ?_)
                      obtain ⟨z26, rfl, hi26, hl26, v26, rfl, k⟩ := k
                      refine ⟨z26, rfl, ?_⟩
                      show rx_aw 54 128 [.ref 1, .int a0, .int a1, .int a2, .int a3, .int z1, .int z10, .long z11, rx_no, rx_no, rx_no] [.long z26, .long z22] (rx_hp L t hi26 hl26 v26) Q
                      refine rx_aw_s 12 (pc := 128) rfl ?_
                      refine rx_w_if (c := (lg_cmp (z11 &&& ((hl26 7 10) ||| (z22 ||| z26))) (0 : Int64)) = 0) ⟨fun c27 => ?_, fun c27 => ?_⟩
                      · have k := k.1 c27
                        show rx_aw 54 152 [.ref 1, .int a0, .int a1, .int a2, .int a3, .int z1, .int z10, .long z11, rx_no, .long (z22 ||| z26), rx_no] [] (rx_hp L t hi26 hl26 v26) Q
                        refine rx_aw_s 4 (pc := 152) rfl ?_
                        show rx_aw 54 159 [.ref 1, .int a0, .int a1, .int a2, .int a3, .int z1, .int z10, .long z11, rx_no, .long (z22 ||| z26), rx_no] [.int z10, .int a0, .ref 13] (rx_hp L t hi26 hl26 v26) Q
                        refine rx_w_callI (j := 56) (pc := 159) rfl rfl rfl rfl rfl ?_
                        refine rx_aw.mono k (fun r h2 k => ?_)
                        obtain ⟨z28, rfl, hi28, hl28, v28, rfl, k⟩ := k
                        refine ⟨z28, rfl, ?_⟩
                        show rx_aw 54 162 [.ref 1, .int a0, .int a1, .int a2, .int a3, .int z1, .int z10, .long z11, rx_no, .long (z22 ||| z26), rx_no] [.int z28] (rx_hp L t hi28 hl28 v28) Q
                        exact rx_aw_ret (pc := 162) rfl k
                      · have k := k.2 c27
                        show rx_aw 54 149 [.ref 1, .int a0, .int a1, .int a2, .int a3, .int z1, .int z10, .long z11, rx_no, .long (z22 ||| z26), rx_no] [] (rx_hp L t hi26 hl26 v26) Q
                        refine rx_aw_s 1 (pc := 149) rfl ?_
                        show rx_aw 54 151 [.ref 1, .int a0, .int a1, .int a2, .int a3, .int z1, .int z10, .long z11, rx_no, .long (z22 ||| z26), rx_no] [.int (-2 : Int32)] (rx_hp L t hi26 hl26 v26) Q
                        exact rx_aw_ret (pc := 151) rfl k
                  · have k := k.2 c21
                    show rx_aw 54 100 [.ref 1, .int a0, .int a1, .int a2, .int a3, .int z1, .int z10, .long z11, rx_no, rx_no, rx_no] [] (rx_hp L t hi20 hl20 v20) Q
                    refine rx_aw_s 1 (pc := 100) rfl ?_
                    show rx_aw 54 102 [.ref 1, .int a0, .int a1, .int a2, .int a3, .int z1, .int z10, .long z11, rx_no, rx_no, rx_no] [.int (-2 : Int32)] (rx_hp L t hi20 hl20 v20) Q
                    exact rx_aw_ret (pc := 102) rfl k
              · have k := k.2 c9
                show rx_aw 54 61 [.ref 1, .int a0, .int a1, .int a2, .int a3, .int z1, rx_no, rx_no, rx_no, rx_no, rx_no] [] (rx_hp L t hi8 hl8 v8) Q
                refine rx_aw_s 1 (pc := 61) rfl ?_
                show rx_aw 54 63 [.ref 1, .int a0, .int a1, .int a2, .int a3, .int z1, rx_no, rx_no, rx_no, rx_no, rx_no] [.int (-2 : Int32)] (rx_hp L t hi8 hl8 v8) Q
                exact rx_aw_ret (pc := 63) rfl k
          · have k := k.2 c6
            show rx_aw 54 36 [.ref 1, .int a0, .int a1, .int a2, .int a3, .int z1, rx_no, rx_no, rx_no, rx_no, rx_no] [] (rx_hp L t hi1 hl1 v1) Q
            refine rx_aw_s 1 (pc := 36) rfl ?_
            show rx_aw 54 38 [.ref 1, .int a0, .int a1, .int a2, .int a3, .int z1, rx_no, rx_no, rx_no, rx_no, rx_no] [.int (-2 : Int32)] (rx_hp L t hi1 hl1 v1) Q
            exact rx_aw_ret (pc := 38) rfl k
/-- CartFloor.stanceOf(III)I -/
theorem w55_stanceOf {L : Nat} {t : List (Nat × Nat)} {hi : Nat → Nat → Int32} {hl : Nat → Nat → Int64} {v : Nat → Nat → Option Nat} {Q : Option Value → rx_H → Prop} {a0 : Int32} {a1 : Int32} {a2 : Int32} (k : Q (some (.int ((a0 ||| (a1 <<< ((6 : Int32) &&& 31))) ||| ((a2 + (1 : Int32)) <<< ((8 : Int32) &&& 31))))) (rx_hp L t hi hl v)) : rx_me 55 [.int a0, .int a1, .int a2] (rx_hp L t hi hl v) Q := by
  show rx_aw 55 0 [.int a0, .int a1, .int a2] [] (rx_hp L t hi hl v) Q
  refine rx_aw_s 11 (pc := 0) rfl ?_
  show rx_aw 55 13 [.int a0, .int a1, .int a2] [.int ((a0 ||| (a1 <<< ((6 : Int32) &&& 31))) ||| ((a2 + (1 : Int32)) <<< ((8 : Int32) &&& 31)))] (rx_hp L t hi hl v) Q
  exact rx_aw_ret (pc := 13) rfl k
/-- CartFloor$Traffic.addCart(II)I -/
theorem w56_addCart {L : Nat} {t : List (Nat × Nat)} {hi : Nat → Nat → Int32} {hl : Nat → Nat → Int64} {v : Nat → Nat → Option Nat} {Q : Option Value → rx_H → Prop} {a0 : Int32} {a1 : Int32} (k : (∃ j1 : Nat, (hi 13 3) = nI j1 ∧ j1 < 6 ∧ rx_me 57 [.ref (rx_ct j1), .int a1] (rx_hp L t (rx_u hi (rx_ct j1) 5 a0) hl v) (fun r h2 => r = none ∧ rx_ok2 L t h2 (fun hi2 hl2 v2 => rx_me 41 [.ref 13] (rx_hp L t (rx_u hi2 13 3 ((hi2 13 3) + (1 : Int32))) hl2 v2) (fun r h2 => r = none ∧ rx_ok2 L t h2 (fun hi3 hl3 v3 => Q (some (.int ((hi3 13 3) - (1 : Int32)))) (rx_hp L t hi3 hl3 v3))))))) : rx_me 56 [.ref 13, .int a0, .int a1] (rx_hp L t hi hl v) Q := by
  show rx_aw 56 0 [.ref 13, .int a0, .int a1, rx_no] [] (rx_hp L t hi hl v) Q
  refine rx_aw_s 4 (pc := 0) rfl ?_
  show rx_aw 56 8 [.ref 13, .int a0, .int a1, rx_no] [.int (hi 13 3), .ref 14] (rx_hp L t hi hl v) Q
  obtain ⟨j1, ej1, hj1, k⟩ := k
  refine rx_w_carts (pc := 8) rfl ⟨j1, ej1, hj1, ?_⟩
  show rx_aw 56 9 [.ref 13, .int a0, .int a1, rx_no] [.ref (rx_ct j1)] (rx_hp L t hi hl v) Q
  refine rx_aw_s 3 (pc := 9) rfl ?_
  show rx_aw 56 12 [.ref 13, .int a0, .int a1, .ref (rx_ct j1)] [.int a0, .ref (rx_ct j1)] (rx_hp L t hi hl v) Q
  refine rx_w_cp hj1 (pc := 12) rfl rfl (by decide) ?_
  show rx_aw 56 15 [.ref 13, .int a0, .int a1, .ref (rx_ct j1)] [] (rx_hp L t (rx_u hi (rx_ct j1) 5 a0) hl v) Q
  refine rx_aw_s 2 (pc := 15) rfl ?_
  show rx_aw 56 17 [.ref 13, .int a0, .int a1, .ref (rx_ct j1)] [.int a1, .ref (rx_ct j1)] (rx_hp L t (rx_u hi (rx_ct j1) 5 a0) hl v) Q
  refine rx_w_callV (j := 57) (pc := 17) rfl rfl rfl rfl (rx_mayc rfl rfl rfl rfl (rx_ck (rx_cart_s hj1).1) (rx_ct_pos _)) ?_
  refine rx_aw.mono k (fun r h2 k => ?_)
  obtain ⟨rfl, hi2, hl2, v2, rfl, k⟩ := k
  refine ⟨rfl, ?_⟩
  show rx_aw 56 20 [.ref 13, .int a0, .int a1, .ref (rx_ct j1)] [] (rx_hp L t hi2 hl2 v2) Q
  refine rx_aw_s 7 (pc := 20) rfl ?_
  show rx_aw 56 31 [.ref 13, .int a0, .int a1, .ref (rx_ct j1)] [.ref 13] (rx_hp L t (rx_u hi2 13 3 ((hi2 13 3) + (1 : Int32))) hl2 v2) Q
  refine rx_w_callV (j := 41) (pc := 31) rfl rfl rfl rfl rfl ?_
  refine rx_aw.mono k (fun r h2 k => ?_)
  obtain ⟨rfl, hi3, hl3, v3, rfl, k⟩ := k
  refine ⟨rfl, ?_⟩
  show rx_aw 56 34 [.ref 13, .int a0, .int a1, .ref (rx_ct j1)] [] (rx_hp L t hi3 hl3 v3) Q
  refine rx_aw_s 4 (pc := 34) rfl ?_
  show rx_aw 56 40 [.ref 13, .int a0, .int a1, .ref (rx_ct j1)] [.int ((hi3 13 3) - (1 : Int32))] (rx_hp L t hi3 hl3 v3) Q
  exact rx_aw_ret (pc := 40) rfl k
/-- CartFloor$Cart.wake(I)V -/
theorem w57_wake {L : Nat} {t : List (Nat × Nat)} {hi : Nat → Nat → Int32} {hl : Nat → Nat → Int64} {v : Nat → Nat → Option Nat} {Q : Option Value → rx_H → Prop} {c : Nat} (hc : c < 6) {a0 : Int32} (k : Q none (rx_hp L t (rx_u (rx_u (rx_u (rx_u (rx_u (rx_u hi (rx_ct c) 6 a0) (rx_ct c) 7 (0 : Int32)) (rx_ct c) 8 (-1 : Int32)) (rx_ct c) 9 (-1 : Int32)) (rx_ct c) 10 (0 : Int32)) (rx_ct c) 11 (0 : Int32)) hl v)) : rx_me 57 [.ref (rx_ct c), .int a0] (rx_hp L t hi hl v) Q := by
  show rx_aw 57 0 [.ref (rx_ct c), .int a0] [] (rx_hp L t hi hl v) Q
  refine rx_aw_s 2 (pc := 0) rfl ?_
  show rx_aw 57 2 [.ref (rx_ct c), .int a0] [.int a0, .ref (rx_ct c)] (rx_hp L t hi hl v) Q
  refine rx_w_cp hc (pc := 2) rfl rfl (by decide) ?_
  show rx_aw 57 5 [.ref (rx_ct c), .int a0] [] (rx_hp L t (rx_u hi (rx_ct c) 6 a0) hl v) Q
  refine rx_aw_s 2 (pc := 5) rfl ?_
  show rx_aw 57 7 [.ref (rx_ct c), .int a0] [.int (0 : Int32), .ref (rx_ct c)] (rx_hp L t (rx_u hi (rx_ct c) 6 a0) hl v) Q
  refine rx_w_cp hc (pc := 7) rfl rfl (by decide) ?_
  show rx_aw 57 10 [.ref (rx_ct c), .int a0] [] (rx_hp L t (rx_u (rx_u hi (rx_ct c) 6 a0) (rx_ct c) 7 (0 : Int32)) hl v) Q
  refine rx_aw_s 2 (pc := 10) rfl ?_
  show rx_aw 57 12 [.ref (rx_ct c), .int a0] [.int (-1 : Int32), .ref (rx_ct c)] (rx_hp L t (rx_u (rx_u hi (rx_ct c) 6 a0) (rx_ct c) 7 (0 : Int32)) hl v) Q
  refine rx_w_cp hc (pc := 12) rfl rfl (by decide) ?_
  show rx_aw 57 15 [.ref (rx_ct c), .int a0] [] (rx_hp L t (rx_u (rx_u (rx_u hi (rx_ct c) 6 a0) (rx_ct c) 7 (0 : Int32)) (rx_ct c) 8 (-1 : Int32)) hl v) Q
  refine rx_aw_s 2 (pc := 15) rfl ?_
  show rx_aw 57 17 [.ref (rx_ct c), .int a0] [.int (-1 : Int32), .ref (rx_ct c)] (rx_hp L t (rx_u (rx_u (rx_u hi (rx_ct c) 6 a0) (rx_ct c) 7 (0 : Int32)) (rx_ct c) 8 (-1 : Int32)) hl v) Q
  refine rx_w_cp hc (pc := 17) rfl rfl (by decide) ?_
  show rx_aw 57 20 [.ref (rx_ct c), .int a0] [] (rx_hp L t (rx_u (rx_u (rx_u (rx_u hi (rx_ct c) 6 a0) (rx_ct c) 7 (0 : Int32)) (rx_ct c) 8 (-1 : Int32)) (rx_ct c) 9 (-1 : Int32)) hl v) Q
  refine rx_aw_s 2 (pc := 20) rfl ?_
  show rx_aw 57 22 [.ref (rx_ct c), .int a0] [.int (0 : Int32), .ref (rx_ct c)] (rx_hp L t (rx_u (rx_u (rx_u (rx_u hi (rx_ct c) 6 a0) (rx_ct c) 7 (0 : Int32)) (rx_ct c) 8 (-1 : Int32)) (rx_ct c) 9 (-1 : Int32)) hl v) Q
  refine rx_w_cp hc (pc := 22) rfl rfl (by decide) ?_
  show rx_aw 57 25 [.ref (rx_ct c), .int a0] [] (rx_hp L t (rx_u (rx_u (rx_u (rx_u (rx_u hi (rx_ct c) 6 a0) (rx_ct c) 7 (0 : Int32)) (rx_ct c) 8 (-1 : Int32)) (rx_ct c) 9 (-1 : Int32)) (rx_ct c) 10 (0 : Int32)) hl v) Q
  refine rx_aw_s 2 (pc := 25) rfl ?_
  show rx_aw 57 27 [.ref (rx_ct c), .int a0] [.int (0 : Int32), .ref (rx_ct c)] (rx_hp L t (rx_u (rx_u (rx_u (rx_u (rx_u hi (rx_ct c) 6 a0) (rx_ct c) 7 (0 : Int32)) (rx_ct c) 8 (-1 : Int32)) (rx_ct c) 9 (-1 : Int32)) (rx_ct c) 10 (0 : Int32)) hl v) Q
  refine rx_w_cz hc (pc := 27) rfl rfl (by decide) ⟨by decide, ?_⟩
  show rx_aw 57 30 [.ref (rx_ct c), .int a0] [] (rx_hp L t (rx_u (rx_u (rx_u (rx_u (rx_u (rx_u hi (rx_ct c) 6 a0) (rx_ct c) 7 (0 : Int32)) (rx_ct c) 8 (-1 : Int32)) (rx_ct c) 9 (-1 : Int32)) (rx_ct c) 10 (0 : Int32)) (rx_ct c) 11 (0 : Int32)) hl v) Q
  exact rx_aw_ret (pc := 30) rfl k
/-- CartFloor.errand(IIII)I -/
theorem w58_errand {L : Nat} {t : List (Nat × Nat)} {hi : Nat → Nat → Int32} {hl : Nat → Nat → Int64} {v : Nat → Nat → Option Nat} {Q : Option Value → rx_H → Prop} {a0 : Int32} {a1 : Int32} {a2 : Int32} {a3 : Int32} (k : rx_me 59 [.ref 13, .int a0] (rx_hp L t hi hl v) (fun r h2 => ∃ z1 : Option Nat, r = some (va_rf z1) ∧ rx_ok2 L t h2 (fun hi1 hl1 v1 => (z1 = none ∧ rx_me 26 [.ref 7, .int a1, .int a2] (rx_hp L t hi1 hl1 v1) (fun r h2 => ∃ z2 : Int32, r = some (.int z2) ∧ rx_ok2 L t h2 (fun hi2 hl2 v2 => Q (some (.int (-2 : Int32))) (rx_hp L t hi2 hl2 v2)))) ∨ (∃ q1 : Nat, q1 < 6 ∧ z1 = some (rx_ct q1) ∧ rx_me 26 [.ref 7, .int a1, .int a2] (rx_hp L t hi1 hl1 v1) (fun r h2 => ∃ z3 : Int32, r = some (.int z3) ∧ rx_ok2 L t h2 (fun hi3 hl3 v3 => (((hi3 (rx_ct q1) 5) = (3 : Int32) → Q (some (.int (-2 : Int32))) (rx_hp L t hi3 hl3 v3)) ∧ (¬ ((hi3 (rx_ct q1) 5) = (3 : Int32)) → ((0 ≤ (hi3 (rx_ct q1) 8) → Q (some (.int (-2 : Int32))) (rx_hp L t hi3 hl3 v3)) ∧ (¬ (0 ≤ (hi3 (rx_ct q1) 8)) → (((hi3 (rx_ct q1) 10) = 0 → ((z3 < 0 → Q (some (.int (-2 : Int32))) (rx_hp L t hi3 hl3 v3)) ∧ (¬ (z3 < 0) → rx_me 9 [.int z3] (rx_hp L t hi3 hl3 v3) (fun r h2 => ∃ z8 : Int64, r = some (.long z8) ∧ rx_ok2 L t h2 (fun hi8 hl8 v8 => (((lg_cmp ((hl3 7 10) &&& z8) (0 : Int64)) = 0 → ((a3 < (-1 : Int32) → Q (some (.int (-2 : Int32))) (rx_hp L t hi8 hl8 v8)) ∧ (¬ (a3 < (-1 : Int32)) → ((a3 < (hi8 13 4) → ((a3 < 0 → Q (some (.int (1 : Int32))) (rx_hp L t (rx_u (rx_u hi8 (rx_ct q1) 8 z3) (rx_ct q1) 9 a3) hl8 v8)) ∧ (¬ (a3 < 0) → rx_me 60 [.ref 1, .ref (rx_ct q1), .int z3, .int a3] (rx_hp L t hi8 hl8 v8) (fun r h2 => ∃ z13 : Int32, r = some (.int z13) ∧ rx_ok2 L t h2 (fun hi13 hl13 v13 => ((z13 = 0 → Q (some (.int (-2 : Int32))) (rx_hp L t hi13 hl13 v13)) ∧ (¬ (z13 = 0) → Q (some (.int (1 : Int32))) (rx_hp L t (rx_u (rx_u hi13 (rx_ct q1) 8 z3) (rx_ct q1) 9 a3) hl13 v13)))))))) ∧ (¬ (a3 < (hi8 13 4)) → Q (some (.int (-2 : Int32))) (rx_hp L t hi8 hl8 v8)))))) ∧ (¬ ((lg_cmp ((hl3 7 10) &&& z8) (0 : Int64)) = 0) → Q (some (.int (-2 : Int32))) (rx_hp L t hi8 hl8 v8)))))))) ∧ (¬ ((hi3 (rx_ct q1) 10) = 0) → Q (some (.int (-2 : Int32))) (rx_hp L t hi3 hl3 v3))))))))))))) : rx_me 58 [.ref 1, .int a0, .int a1, .int a2, .int a3] (rx_hp L t hi hl v) Q := by
  show rx_aw 58 0 [.ref 1, .int a0, .int a1, .int a2, .int a3, rx_no, rx_no] [] (rx_hp L t hi hl v) Q
  refine rx_aw_s 3 (pc := 0) rfl ?_
  show rx_aw 58 5 [.ref 1, .int a0, .int a1, .int a2, .int a3, rx_no, rx_no] [.int a0, .ref 13] (rx_hp L t hi hl v) Q
  refine rx_w_callR (j := 59) (pc := 5) rfl rfl rfl rfl rfl ?_
  refine rx_aw.mono k (fun r h2 k => ?_)
  obtain ⟨z1, rfl, hi1, hl1, v1, rfl, k⟩ := k
  refine ⟨z1, rfl, ?_⟩
  rcases k with ⟨rfl, k⟩ | ⟨q1, hq1, rfl, k⟩
  · show rx_aw 58 8 [.ref 1, .int a0, .int a1, .int a2, .int a3, rx_no, rx_no] [.null] (rx_hp L t hi1 hl1 v1) Q
    refine rx_aw_s 5 (pc := 8) rfl ?_
    show rx_aw 58 16 [.ref 1, .int a0, .int a1, .int a2, .int a3, .null, rx_no] [.int a2, .int a1, .ref 7] (rx_hp L t hi1 hl1 v1) Q
    refine rx_w_callI (j := 26) (pc := 16) rfl rfl rfl rfl rfl ?_
    refine rx_aw.mono k (fun r h2 k => ?_)
    obtain ⟨z2, rfl, hi2, hl2, v2, rfl, k⟩ := k
    refine ⟨z2, rfl, ?_⟩
    show rx_aw 58 19 [.ref 1, .int a0, .int a1, .int a2, .int a3, .null, rx_no] [.int z2] (rx_hp L t hi2 hl2 v2) Q
    refine rx_aw_s 4 (pc := 19) rfl ?_
    show rx_aw 58 53 [.ref 1, .int a0, .int a1, .int a2, .int a3, .null, .int z2] [.int (-2 : Int32)] (rx_hp L t hi2 hl2 v2) Q
    exact rx_aw_ret (pc := 53) rfl k
  · show rx_aw 58 8 [.ref 1, .int a0, .int a1, .int a2, .int a3, rx_no, rx_no] [.ref (rx_ct q1)] (rx_hp L t hi1 hl1 v1) Q
    refine rx_aw_s 5 (pc := 8) rfl ?_
    show rx_aw 58 16 [.ref 1, .int a0, .int a1, .int a2, .int a3, .ref (rx_ct q1), rx_no] [.int a2, .int a1, .ref 7] (rx_hp L t hi1 hl1 v1) Q
    refine rx_w_callI (j := 26) (pc := 16) rfl rfl rfl rfl rfl ?_
    refine rx_aw.mono k (fun r h2 k => ?_)
    obtain ⟨z3, rfl, hi3, hl3, v3, rfl, k⟩ := k
    refine ⟨z3, rfl, ?_⟩
    show rx_aw 58 19 [.ref 1, .int a0, .int a1, .int a2, .int a3, .ref (rx_ct q1), rx_no] [.int z3] (rx_hp L t hi3 hl3 v3) Q
    refine rx_aw_s 4 (pc := 19) rfl ?_
    show rx_aw 58 28 [.ref 1, .int a0, .int a1, .int a2, .int a3, .ref (rx_ct q1), .int z3] [.ref (rx_ct q1)] (rx_hp L t hi3 hl3 v3) Q
    refine rx_w_cg hq1 (pc := 28) rfl (by decide) (by decide) ?_
    show rx_aw 58 31 [.ref 1, .int a0, .int a1, .int a2, .int a3, .ref (rx_ct q1), .int z3] [.int (hi3 (rx_ct q1) 5)] (rx_hp L t hi3 hl3 v3) Q
    refine rx_aw_s 2 (pc := 31) rfl ?_
    refine rx_w_if (c := (hi3 (rx_ct q1) 5) = (3 : Int32)) ⟨fun c4 => ?_, fun c4 => ?_⟩
    · have k := k.1 c4
      show rx_aw 58 51 [.ref 1, .int a0, .int a1, .int a2, .int a3, .ref (rx_ct q1), .int z3] [] (rx_hp L t hi3 hl3 v3) Q
      refine rx_aw_s 1 (pc := 51) rfl ?_
      show rx_aw 58 53 [.ref 1, .int a0, .int a1, .int a2, .int a3, .ref (rx_ct q1), .int z3] [.int (-2 : Int32)] (rx_hp L t hi3 hl3 v3) Q
      exact rx_aw_ret (pc := 53) rfl k
    · have k := k.2 c4
      show rx_aw 58 35 [.ref 1, .int a0, .int a1, .int a2, .int a3, .ref (rx_ct q1), .int z3] [] (rx_hp L t hi3 hl3 v3) Q
      refine rx_aw_s 1 (pc := 35) rfl ?_
      show rx_aw 58 37 [.ref 1, .int a0, .int a1, .int a2, .int a3, .ref (rx_ct q1), .int z3] [.ref (rx_ct q1)] (rx_hp L t hi3 hl3 v3) Q
      refine rx_w_cg hq1 (pc := 37) rfl (by decide) (by decide) ?_
      show rx_aw 58 40 [.ref 1, .int a0, .int a1, .int a2, .int a3, .ref (rx_ct q1), .int z3] [.int (hi3 (rx_ct q1) 8)] (rx_hp L t hi3 hl3 v3) Q
      refine rx_aw_s 1 (pc := 40) rfl ?_
      refine rx_w_if (c := 0 ≤ (hi3 (rx_ct q1) 8)) ⟨fun c5 => ?_, fun c5 => ?_⟩
      · have k := k.1 c5
        show rx_aw 58 51 [.ref 1, .int a0, .int a1, .int a2, .int a3, .ref (rx_ct q1), .int z3] [] (rx_hp L t hi3 hl3 v3) Q
        refine rx_aw_s 1 (pc := 51) rfl ?_
        show rx_aw 58 53 [.ref 1, .int a0, .int a1, .int a2, .int a3, .ref (rx_ct q1), .int z3] [.int (-2 : Int32)] (rx_hp L t hi3 hl3 v3) Q
        exact rx_aw_ret (pc := 53) rfl k
      · have k := k.2 c5
        show rx_aw 58 43 [.ref 1, .int a0, .int a1, .int a2, .int a3, .ref (rx_ct q1), .int z3] [] (rx_hp L t hi3 hl3 v3) Q
        refine rx_aw_s 1 (pc := 43) rfl ?_
        show rx_aw 58 45 [.ref 1, .int a0, .int a1, .int a2, .int a3, .ref (rx_ct q1), .int z3] [.ref (rx_ct q1)] (rx_hp L t hi3 hl3 v3) Q
        refine rx_w_cg hq1 (pc := 45) rfl (by decide) (by decide) ?_
        show rx_aw 58 48 [.ref 1, .int a0, .int a1, .int a2, .int a3, .ref (rx_ct q1), .int z3] [.int (hi3 (rx_ct q1) 10)] (rx_hp L t hi3 hl3 v3) Q
        refine rx_aw_s 1 (pc := 48) rfl ?_
        refine rx_w_if (c := (hi3 (rx_ct q1) 10) = 0) ⟨fun c6 => ?_, fun c6 => ?_⟩
        · have k := k.1 c6
          show rx_aw 58 54 [.ref 1, .int a0, .int a1, .int a2, .int a3, .ref (rx_ct q1), .int z3] [] (rx_hp L t hi3 hl3 v3) Q
          refine rx_aw_s 2 (pc := 54) rfl ?_
          refine rx_w_if (c := z3 < 0) ⟨fun c7 => ?_, fun c7 => ?_⟩
          · have k := k.1 c7
            show rx_aw 58 95 [.ref 1, .int a0, .int a1, .int a2, .int a3, .ref (rx_ct q1), .int z3] [] (rx_hp L t hi3 hl3 v3) Q
            refine rx_aw_s 1 (pc := 95) rfl ?_
            show rx_aw 58 97 [.ref 1, .int a0, .int a1, .int a2, .int a3, .ref (rx_ct q1), .int z3] [.int (-2 : Int32)] (rx_hp L t hi3 hl3 v3) Q
            exact rx_aw_ret (pc := 97) rfl k
          · have k := k.2 c7
            show rx_aw 58 59 [.ref 1, .int a0, .int a1, .int a2, .int a3, .ref (rx_ct q1), .int z3] [] (rx_hp L t hi3 hl3 v3) Q
            refine rx_aw_s 4 (pc := 59) rfl ?_
            show rx_aw 58 68 [.ref 1, .int a0, .int a1, .int a2, .int a3, .ref (rx_ct q1), .int z3] [.int z3, .long (hl3 7 10)] (rx_hp L t hi3 hl3 v3) Q
            refine rx_w_callL (j := 9) (pc := 68) rfl rfl rfl rfl rfl ?_
            refine rx_aw.mono k (fun r h2 k => ?_)
            obtain ⟨z8, rfl, hi8, hl8, v8, rfl, k⟩ := k
            refine ⟨z8, rfl, ?_⟩
            show rx_aw 58 71 [.ref 1, .int a0, .int a1, .int a2, .int a3, .ref (rx_ct q1), .int z3] [.long z8, .long (hl3 7 10)] (rx_hp L t hi8 hl8 v8) Q
            refine rx_aw_s 4 (pc := 71) rfl ?_
            refine rx_w_ifn (c := (lg_cmp ((hl3 7 10) &&& z8) (0 : Int64)) = 0) ⟨fun c9 => ?_, fun c9 => ?_⟩
            · have k := k.1 c9
              show rx_aw 58 77 [.ref 1, .int a0, .int a1, .int a2, .int a3, .ref (rx_ct q1), .int z3] [] (rx_hp L t hi8 hl8 v8) Q
              refine rx_aw_s 3 (pc := 77) rfl ?_
              refine rx_w_if (c := a3 < (-1 : Int32)) ⟨fun c10 => ?_, fun c10 => ?_⟩
              · have k := k.1 c10
                show rx_aw 58 95 [.ref 1, .int a0, .int a1, .int a2, .int a3, .ref (rx_ct q1), .int z3] [] (rx_hp L t hi8 hl8 v8) Q
                refine rx_aw_s 1 (pc := 95) rfl ?_
                show rx_aw 58 97 [.ref 1, .int a0, .int a1, .int a2, .int a3, .ref (rx_ct q1), .int z3] [.int (-2 : Int32)] (rx_hp L t hi8 hl8 v8) Q
                exact rx_aw_ret (pc := 97) rfl k
              · have k := k.2 c10
                show rx_aw 58 83 [.ref 1, .int a0, .int a1, .int a2, .int a3, .ref (rx_ct q1), .int z3] [] (rx_hp L t hi8 hl8 v8) Q
                refine rx_aw_s 5 (pc := 83) rfl ?_
                refine rx_w_if (c := a3 < (hi8 13 4)) ⟨fun c11 => ?_, fun c11 => ?_⟩
                · have k := k.1 c11
                  show rx_aw 58 98 [.ref 1, .int a0, .int a1, .int a2, .int a3, .ref (rx_ct q1), .int z3] [] (rx_hp L t hi8 hl8 v8) Q
                  refine rx_aw_s 2 (pc := 98) rfl ?_
                  refine rx_w_if (c := a3 < 0) ⟨fun c12 => ?_, fun c12 => ?_⟩
                  · have k := k.1 c12
                    show rx_aw 58 119 [.ref 1, .int a0, .int a1, .int a2, .int a3, .ref (rx_ct q1), .int z3] [] (rx_hp L t hi8 hl8 v8) Q
                    refine rx_aw_s 2 (pc := 119) rfl ?_
                    show rx_aw 58 123 [.ref 1, .int a0, .int a1, .int a2, .int a3, .ref (rx_ct q1), .int z3] [.int z3, .ref (rx_ct q1)] (rx_hp L t hi8 hl8 v8) Q
                    refine rx_w_cp hq1 (pc := 123) rfl rfl (by decide) ?_
                    show rx_aw 58 126 [.ref 1, .int a0, .int a1, .int a2, .int a3, .ref (rx_ct q1), .int z3] [] (rx_hp L t (rx_u hi8 (rx_ct q1) 8 z3) hl8 v8) Q
                    refine rx_aw_s 2 (pc := 126) rfl ?_
                    show rx_aw 58 130 [.ref 1, .int a0, .int a1, .int a2, .int a3, .ref (rx_ct q1), .int z3] [.int a3, .ref (rx_ct q1)] (rx_hp L t (rx_u hi8 (rx_ct q1) 8 z3) hl8 v8) Q
                    refine rx_w_cp hq1 (pc := 130) rfl rfl (by decide) ?_
                    show rx_aw 58 133 [.ref 1, .int a0, .int a1, .int a2, .int a3, .ref (rx_ct q1), .int z3] [] (rx_hp L t (rx_u (rx_u hi8 (rx_ct q1) 8 z3) (rx_ct q1) 9 a3) hl8 v8) Q
                    refine rx_aw_s 1 (pc := 133) rfl ?_
                    show rx_aw 58 134 [.ref 1, .int a0, .int a1, .int a2, .int a3, .ref (rx_ct q1), .int z3] [.int (1 : Int32)] (rx_hp L t (rx_u (rx_u hi8 (rx_ct q1) 8 z3) (rx_ct q1) 9 a3) hl8 v8) Q
                    exact rx_aw_ret (pc := 134) rfl k
                  · have k := k.2 c12
                    show rx_aw 58 103 [.ref 1, .int a0, .int a1, .int a2, .int a3, .ref (rx_ct q1), .int z3] [] (rx_hp L t hi8 hl8 v8) Q
                    refine rx_aw_s 4 (pc := 103) rfl ?_
                    show rx_aw 58 110 [.ref 1, .int a0, .int a1, .int a2, .int a3, .ref (rx_ct q1), .int z3] [.int a3, .int z3, .ref (rx_ct q1), .ref 1] (rx_hp L t hi8 hl8 v8) Q
                    refine rx_w_callI (j := 60) (pc := 110) rfl rfl rfl rfl rfl ?_
                    refine rx_aw.mono k (fun r h2 k => ?_)
                    obtain ⟨z13, rfl, hi13, hl13, v13, rfl, k⟩ := k
                    refine ⟨z13, rfl, ?_⟩
                    show rx_aw 58 113 [.ref 1, .int a0, .int a1, .int a2, .int a3, .ref (rx_ct q1), .int z3] [.int z13] (rx_hp L t hi13 hl13 v13) Q
                    refine rx_aw_s 1 (pc := 113) rfl ?_
                    refine rx_w_ifn (c := z13 = 0) ⟨fun c14 => ?_, fun c14 => ?_⟩
                    · have k := k.1 c14
                      show rx_aw 58 116 [.ref 1, .int a0, .int a1, .int a2, .int a3, .ref (rx_ct q1), .int z3] [] (rx_hp L t hi13 hl13 v13) Q
                      refine rx_aw_s 1 (pc := 116) rfl ?_
                      show rx_aw 58 118 [.ref 1, .int a0, .int a1, .int a2, .int a3, .ref (rx_ct q1), .int z3] [.int (-2 : Int32)] (rx_hp L t hi13 hl13 v13) Q
                      exact rx_aw_ret (pc := 118) rfl k
                    · have k := k.2 c14
                      show rx_aw 58 119 [.ref 1, .int a0, .int a1, .int a2, .int a3, .ref (rx_ct q1), .int z3] [] (rx_hp L t hi13 hl13 v13) Q
                      refine rx_aw_s 2 (pc := 119) rfl ?_
                      show rx_aw 58 123 [.ref 1, .int a0, .int a1, .int a2, .int a3, .ref (rx_ct q1), .int z3] [.int z3, .ref (rx_ct q1)] (rx_hp L t hi13 hl13 v13) Q
                      refine rx_w_cp hq1 (pc := 123) rfl rfl (by decide) ?_
                      show rx_aw 58 126 [.ref 1, .int a0, .int a1, .int a2, .int a3, .ref (rx_ct q1), .int z3] [] (rx_hp L t (rx_u hi13 (rx_ct q1) 8 z3) hl13 v13) Q
                      refine rx_aw_s 2 (pc := 126) rfl ?_
                      show rx_aw 58 130 [.ref 1, .int a0, .int a1, .int a2, .int a3, .ref (rx_ct q1), .int z3] [.int a3, .ref (rx_ct q1)] (rx_hp L t (rx_u hi13 (rx_ct q1) 8 z3) hl13 v13) Q
                      refine rx_w_cp hq1 (pc := 130) rfl rfl (by decide) ?_
                      show rx_aw 58 133 [.ref 1, .int a0, .int a1, .int a2, .int a3, .ref (rx_ct q1), .int z3] [] (rx_hp L t (rx_u (rx_u hi13 (rx_ct q1) 8 z3) (rx_ct q1) 9 a3) hl13 v13) Q
                      refine rx_aw_s 1 (pc := 133) rfl ?_
                      show rx_aw 58 134 [.ref 1, .int a0, .int a1, .int a2, .int a3, .ref (rx_ct q1), .int z3] [.int (1 : Int32)] (rx_hp L t (rx_u (rx_u hi13 (rx_ct q1) 8 z3) (rx_ct q1) 9 a3) hl13 v13) Q
                      exact rx_aw_ret (pc := 134) rfl k
                · have k := k.2 c11
                  show rx_aw 58 95 [.ref 1, .int a0, .int a1, .int a2, .int a3, .ref (rx_ct q1), .int z3] [] (rx_hp L t hi8 hl8 v8) Q
                  refine rx_aw_s 1 (pc := 95) rfl ?_
                  show rx_aw 58 97 [.ref 1, .int a0, .int a1, .int a2, .int a3, .ref (rx_ct q1), .int z3] [.int (-2 : Int32)] (rx_hp L t hi8 hl8 v8) Q
                  exact rx_aw_ret (pc := 97) rfl k
            · have k := k.2 c9
              show rx_aw 58 95 [.ref 1, .int a0, .int a1, .int a2, .int a3, .ref (rx_ct q1), .int z3] [] (rx_hp L t hi8 hl8 v8) Q
              refine rx_aw_s 1 (pc := 95) rfl ?_
              show rx_aw 58 97 [.ref 1, .int a0, .int a1, .int a2, .int a3, .ref (rx_ct q1), .int z3] [.int (-2 : Int32)] (rx_hp L t hi8 hl8 v8) Q
              exact rx_aw_ret (pc := 97) rfl k
        · have k := k.2 c6
          show rx_aw 58 51 [.ref 1, .int a0, .int a1, .int a2, .int a3, .ref (rx_ct q1), .int z3] [] (rx_hp L t hi3 hl3 v3) Q
          refine rx_aw_s 1 (pc := 51) rfl ?_
          show rx_aw 58 53 [.ref 1, .int a0, .int a1, .int a2, .int a3, .ref (rx_ct q1), .int z3] [.int (-2 : Int32)] (rx_hp L t hi3 hl3 v3) Q
          exact rx_aw_ret (pc := 53) rfl k
/-- CartFloor$Traffic.cartOf(I)LCartFloor$Cart; -/
theorem w59_cartOf {L : Nat} {t : List (Nat × Nat)} {hi : Nat → Nat → Int32} {hl : Nat → Nat → Int64} {v : Nat → Nat → Option Nat} {Q : Option Value → rx_H → Prop} {a0 : Int32} (k : ((a0 < 0 → Q (some (.null)) (rx_hp L t hi hl v)) ∧ (¬ (a0 < 0) → ((a0 < (hi 13 3) → (∃ j3 : Nat, a0 = nI j3 ∧ j3 < 6 ∧ Q (some (.ref (rx_ct j3))) (rx_hp L t hi hl v))) ∧ (¬ (a0 < (hi 13 3)) → Q (some (.null)) (rx_hp L t hi hl v)))))) : rx_me 59 [.ref 13, .int a0] (rx_hp L t hi hl v) Q := by
  show rx_aw 59 0 [.ref 13, .int a0] [] (rx_hp L t hi hl v) Q
  refine rx_aw_s 2 (pc := 0) rfl ?_
  refine rx_w_if (c := a0 < 0) ⟨fun c1 => ?_, fun c1 => ?_⟩
  · have k := k.1 c1
    show rx_aw 59 12 [.ref 13, .int a0] [] (rx_hp L t hi hl v) Q
    refine rx_aw_s 2 (pc := 12) rfl ?_
    show rx_aw 59 22 [.ref 13, .int a0] [.null] (rx_hp L t hi hl v) Q
    exact rx_aw_ret (pc := 22) rfl k
  · have k := k.2 c1
    show rx_aw 59 4 [.ref 13, .int a0] [] (rx_hp L t hi hl v) Q
    refine rx_aw_s 4 (pc := 4) rfl ?_
    refine rx_w_if (c := a0 < (hi 13 3)) ⟨fun c2 => ?_, fun c2 => ?_⟩
    · have k := k.1 c2
      show rx_aw 59 16 [.ref 13, .int a0] [] (rx_hp L t hi hl v) Q
      refine rx_aw_s 3 (pc := 16) rfl ?_
      show rx_aw 59 21 [.ref 13, .int a0] [.int a0, .ref 14] (rx_hp L t hi hl v) Q
      obtain ⟨j3, ej3, hj3, k⟩ := k
      refine rx_w_carts (pc := 21) rfl ⟨j3, ej3, hj3, ?_⟩
      show rx_aw 59 22 [.ref 13, .int a0] [.ref (rx_ct j3)] (rx_hp L t hi hl v) Q
      exact rx_aw_ret (pc := 22) rfl k
    · have k := k.2 c2
      show rx_aw 59 12 [.ref 13, .int a0] [] (rx_hp L t hi hl v) Q
      refine rx_aw_s 2 (pc := 12) rfl ?_
      show rx_aw 59 22 [.ref 13, .int a0] [.null] (rx_hp L t hi hl v) Q
      exact rx_aw_ret (pc := 22) rfl k
/-- CartFloor.mayBring(LCartFloor$Cart;II)Z -/
theorem w60_mayBring {L : Nat} {t : List (Nat × Nat)} {hi : Nat → Nat → Int32} {hl : Nat → Nat → Int64} {v : Nat → Nat → Option Nat} {Q : Option Value → rx_H → Prop} {c0 : Nat} (hc0 : c0 < 6) {a1 : Int32} {a2 : Int32} (k : (((hi (rx_ct c0) 5) = (1 : Int32) → (∃ j2 : Nat, a1 = nI j2 ∧ j2 < 64 ∧ (((hi 8 j2) = (2 : Int32) → rx_me 48 [.int (hi (rx_ct c0) 6)] (rx_hp L t hi hl v) (fun r h2 => ∃ z4 : Int32, r = some (.int z4) ∧ rx_ok2 L t h2 (fun hi4 hl4 v4 => ((z4 < 0 → rx_aw 60 48 [.ref 1, .ref (rx_ct c0), .int a1, .int a2, .int z4, .int (0 : Int32), rx_no] [] (rx_hp L t hi4 hl4 v4) Q) ∧ (¬ (z4 < 0) → ((z4 = a2 → rx_aw 60 48 [.ref 1, .ref (rx_ct c0), .int a1, .int a2, .int z4, .int (0 : Int32), rx_no] [] (rx_hp L t hi4 hl4 v4) Q) ∧ (¬ (z4 = a2) → Q (some (.int (0 : Int32))) (rx_hp L t hi4 hl4 v4)))))))) ∧ (¬ ((hi 8 j2) = (2 : Int32)) → Q (some (.int (0 : Int32))) (rx_hp L t hi hl v))))) ∧ (¬ ((hi (rx_ct c0) 5) = (1 : Int32)) → Q (some (.int (0 : Int32))) (rx_hp L t hi hl v)))) : rx_me 60 [.ref 1, .ref (rx_ct c0), .int a1, .int a2] (rx_hp L t hi hl v) Q := by
  show rx_aw 60 0 [.ref 1, .ref (rx_ct c0), .int a1, .int a2, rx_no, rx_no, rx_no] [] (rx_hp L t hi hl v) Q
  refine rx_aw_s 1 (pc := 0) rfl ?_
  show rx_aw 60 1 [.ref 1, .ref (rx_ct c0), .int a1, .int a2, rx_no, rx_no, rx_no] [.ref (rx_ct c0)] (rx_hp L t hi hl v) Q
  refine rx_w_cg hc0 (pc := 1) rfl (by decide) (by decide) ?_
  show rx_aw 60 4 [.ref 1, .ref (rx_ct c0), .int a1, .int a2, rx_no, rx_no, rx_no] [.int (hi (rx_ct c0) 5)] (rx_hp L t hi hl v) Q
  refine rx_aw_s 2 (pc := 4) rfl ?_
  refine rx_w_ifn (c := (hi (rx_ct c0) 5) = (1 : Int32)) ⟨fun c1 => ?_, fun c1 => ?_⟩
  · have k := k.1 c1
    show rx_aw 60 8 [.ref 1, .ref (rx_ct c0), .int a1, .int a2, rx_no, rx_no, rx_no] [] (rx_hp L t hi hl v) Q
    refine rx_aw_s 4 (pc := 8) rfl ?_
    show rx_aw 60 16 [.ref 1, .ref (rx_ct c0), .int a1, .int a2, rx_no, rx_no, rx_no] [.int a1, .ref 8] (rx_hp L t hi hl v) Q
    obtain ⟨j2, ej2, hj2, k⟩ := k
    refine rx_aw_iald (pc := 16) (n := 64) j2 ej2 rfl rfl rfl hj2 (by decide) ?_
    show rx_aw 60 17 [.ref 1, .ref (rx_ct c0), .int a1, .int a2, rx_no, rx_no, rx_no] [.int (hi 8 j2)] (rx_hp L t hi hl v) Q
    refine rx_aw_s 2 (pc := 17) rfl ?_
    refine rx_w_if (c := (hi 8 j2) = (2 : Int32)) ⟨fun c3 => ?_, fun c3 => ?_⟩
    · have k := k.1 c3
      show rx_aw 60 23 [.ref 1, .ref (rx_ct c0), .int a1, .int a2, rx_no, rx_no, rx_no] [] (rx_hp L t hi hl v) Q
      refine rx_aw_s 1 (pc := 23) rfl ?_
      show rx_aw 60 24 [.ref 1, .ref (rx_ct c0), .int a1, .int a2, rx_no, rx_no, rx_no] [.ref (rx_ct c0)] (rx_hp L t hi hl v) Q
      refine rx_w_cg hc0 (pc := 24) rfl (by decide) (by decide) ?_
      show rx_aw 60 27 [.ref 1, .ref (rx_ct c0), .int a1, .int a2, rx_no, rx_no, rx_no] [.int (hi (rx_ct c0) 6)] (rx_hp L t hi hl v) Q
      refine rx_w_callI (j := 48) (pc := 27) rfl rfl rfl rfl rfl ?_
      refine rx_aw.mono k (fun r h2 k => ?_)
      obtain ⟨z4, rfl, hi4, hl4, v4, rfl, k⟩ := k
      refine ⟨z4, rfl, ?_⟩
      show rx_aw 60 30 [.ref 1, .ref (rx_ct c0), .int a1, .int a2, rx_no, rx_no, rx_no] [.int z4] (rx_hp L t hi4 hl4 v4) Q
      refine rx_aw_s 3 (pc := 30) rfl ?_
      refine rx_w_if (c := z4 < 0) ⟨fun c5 => ?_, fun c5 => ?_⟩
      · have k := k.1 c5
        show rx_aw 60 45 [.ref 1, .ref (rx_ct c0), .int a1, .int a2, .int z4, rx_no, rx_no] [] (rx_hp L t hi4 hl4 v4) Q
        refine rx_aw_s 2 (pc := 45) rfl ?_
        show rx_aw 60 48 [.ref 1, .ref (rx_ct c0), .int a1, .int a2, .int z4, .int (0 : Int32), rx_no] [] (rx_hp L t hi4 hl4 v4) Q
        exact k
      · have k := k.2 c5
        show rx_aw 60 37 [.ref 1, .ref (rx_ct c0), .int a1, .int a2, .int z4, rx_no, rx_no] [] (rx_hp L t hi4 hl4 v4) Q
        refine rx_aw_s 3 (pc := 37) rfl ?_
        refine rx_w_if (c := z4 = a2) ⟨fun c6 => ?_, fun c6 => ?_⟩
        · have k := k.1 c6
          show rx_aw 60 45 [.ref 1, .ref (rx_ct c0), .int a1, .int a2, .int z4, rx_no, rx_no] [] (rx_hp L t hi4 hl4 v4) Q
          refine rx_aw_s 2 (pc := 45) rfl ?_
          show rx_aw 60 48 [.ref 1, .ref (rx_ct c0), .int a1, .int a2, .int z4, .int (0 : Int32), rx_no] [] (rx_hp L t hi4 hl4 v4) Q
          exact k
        · have k := k.2 c6
          show rx_aw 60 43 [.ref 1, .ref (rx_ct c0), .int a1, .int a2, .int z4, rx_no, rx_no] [] (rx_hp L t hi4 hl4 v4) Q
          refine rx_aw_s 1 (pc := 43) rfl ?_
          show rx_aw 60 44 [.ref 1, .ref (rx_ct c0), .int a1, .int a2, .int z4, rx_no, rx_no] [.int (0 : Int32)] (rx_hp L t hi4 hl4 v4) Q
          exact rx_aw_ret (pc := 44) rfl k
    · have k := k.2 c3
      show rx_aw 60 21 [.ref 1, .ref (rx_ct c0), .int a1, .int a2, rx_no, rx_no, rx_no] [] (rx_hp L t hi hl v) Q
      refine rx_aw_s 1 (pc := 21) rfl ?_
      show rx_aw 60 22 [.ref 1, .ref (rx_ct c0), .int a1, .int a2, rx_no, rx_no, rx_no] [.int (0 : Int32)] (rx_hp L t hi hl v) Q
      exact rx_aw_ret (pc := 22) rfl k
  · have k := k.2 c1
    show rx_aw 60 21 [.ref 1, .ref (rx_ct c0), .int a1, .int a2, rx_no, rx_no, rx_no] [] (rx_hp L t hi hl v) Q
    refine rx_aw_s 1 (pc := 21) rfl ?_
    show rx_aw 60 22 [.ref 1, .ref (rx_ct c0), .int a1, .int a2, rx_no, rx_no, rx_no] [.int (0 : Int32)] (rx_hp L t hi hl v) Q
    exact rx_aw_ret (pc := 22) rfl k
theorem w60_mayBring_48 {L : Nat} {t : List (Nat × Nat)} {hi : Nat → Nat → Int32} {hl : Nat → Nat → Int64} {v : Nat → Nat → Option Nat} {Q : Option Value → rx_H → Prop} {c0 : Nat} (hc0 : c0 < 6) {x2 : Int32} {x3 : Int32} {x4 : Int32} {x5 : Int32} (k : (((hi 13 3) ≤ x5 → Q (some (.int (1 : Int32))) (rx_hp L t hi hl v)) ∧ (¬ ((hi 13 3) ≤ x5) → (∃ j8 : Nat, x5 = nI j8 ∧ j8 < 6 ∧ (((some (rx_ct j8) : Option Nat) = (some (rx_ct c0) : Option Nat) → rx_aw 60 48 [.ref 1, .ref (rx_ct c0), .int x2, .int x3, .int x4, .int (x5 + (1 : Int32)), rx_no] [] (rx_hp L t hi hl v) Q) ∧ (¬ ((some (rx_ct j8) : Option Nat) = (some (rx_ct c0) : Option Nat)) → (((hi (rx_ct j8) 9) = x3 → Q (some (.int (0 : Int32))) (rx_hp L t hi hl v)) ∧ (¬ ((hi (rx_ct j8) 9) = x3) → rx_me 48 [.int (hi (rx_ct j8) 6)] (rx_hp L t hi hl v) (fun r h2 => ∃ z11 : Int32, r = some (.int z11) ∧ rx_ok2 L t h2 (fun hi11 hl11 v11 => ((z11 = x3 → Q (some (.int (0 : Int32))) (rx_hp L t hi11 hl11 v11)) ∧ (¬ (z11 = x3) → rx_aw 60 48 [.ref 1, .ref (rx_ct c0), .int x2, .int x3, .int x4, .int (x5 + (1 : Int32)), rx_no] [] (rx_hp L t hi11 hl11 v11) Q)))))))))))) : rx_aw 60 48 [.ref 1, .ref (rx_ct c0), .int x2, .int x3, .int x4, .int x5, rx_no] [] (rx_hp L t hi hl v) Q := by
  refine rx_aw_s 5 (pc := 48) rfl ?_
  refine rx_w_if (c := (hi 13 3) ≤ x5) ⟨fun c7 => ?_, fun c7 => ?_⟩
  · have k := k.1 c7
    show rx_aw 60 107 [.ref 1, .ref (rx_ct c0), .int x2, .int x3, .int x4, .int x5, rx_no] [] (rx_hp L t hi hl v) Q
    refine rx_aw_s 1 (pc := 107) rfl ?_
    show rx_aw 60 108 [.ref 1, .ref (rx_ct c0), .int x2, .int x3, .int x4, .int x5, rx_no] [.int (1 : Int32)] (rx_hp L t hi hl v) Q
    exact rx_aw_ret (pc := 108) rfl k
  · have k := k.2 c7
    show rx_aw 60 60 [.ref 1, .ref (rx_ct c0), .int x2, .int x3, .int x4, .int x5, rx_no] [] (rx_hp L t hi hl v) Q
    refine rx_aw_s 4 (pc := 60) rfl ?_
    show rx_aw 60 69 [.ref 1, .ref (rx_ct c0), .int x2, .int x3, .int x4, .int x5, rx_no] [.int x5, .ref 14] (rx_hp L t hi hl v) Q
    obtain ⟨j8, ej8, hj8, k⟩ := k
    refine rx_w_carts (pc := 69) rfl ⟨j8, ej8, hj8, ?_⟩
    show rx_aw 60 70 [.ref 1, .ref (rx_ct c0), .int x2, .int x3, .int x4, .int x5, rx_no] [.ref (rx_ct j8)] (rx_hp L t hi hl v) Q
    refine rx_aw_s 4 (pc := 70) rfl ?_
    refine rx_w_if (c := (some (rx_ct j8) : Option Nat) = (some (rx_ct c0) : Option Nat)) ⟨fun c9 => ?_, fun c9 => ?_⟩
    · have k := k.1 c9
      show rx_aw 60 101 [.ref 1, .ref (rx_ct c0), .int x2, .int x3, .int x4, .int x5, .ref (rx_ct j8)] [] (rx_hp L t hi hl v) Q
      refine rx_aw_s 2 (pc := 101) rfl ?_
      show rx_aw 60 48 [.ref 1, .ref (rx_ct c0), .int x2, .int x3, .int x4, .int (x5 + (1 : Int32)), .ref (rx_ct j8)] [] (rx_hp L t hi hl v) Q
      exact rx_aw_le (ls := [.ref 1, .ref (rx_ct c0), .int x2, .int x3, .int x4, .int (x5 + (1 : Int32)), rx_no]) ⟨Or.inr rfl, ⟨Or.inr rfl, ⟨Or.inr rfl, ⟨Or.inr rfl, ⟨Or.inr rfl, ⟨Or.inr rfl, ⟨Or.inl rfl, trivial⟩⟩⟩⟩⟩⟩⟩ k
    · have k := k.2 c9
      show rx_aw 60 78 [.ref 1, .ref (rx_ct c0), .int x2, .int x3, .int x4, .int x5, .ref (rx_ct j8)] [] (rx_hp L t hi hl v) Q
      refine rx_aw_s 1 (pc := 78) rfl ?_
      show rx_aw 60 80 [.ref 1, .ref (rx_ct c0), .int x2, .int x3, .int x4, .int x5, .ref (rx_ct j8)] [.ref (rx_ct j8)] (rx_hp L t hi hl v) Q
      refine rx_w_cg hj8 (pc := 80) rfl (by decide) (by decide) ?_
      show rx_aw 60 83 [.ref 1, .ref (rx_ct c0), .int x2, .int x3, .int x4, .int x5, .ref (rx_ct j8)] [.int (hi (rx_ct j8) 9)] (rx_hp L t hi hl v) Q
      refine rx_aw_s 2 (pc := 83) rfl ?_
      refine rx_w_if (c := (hi (rx_ct j8) 9) = x3) ⟨fun c10 => ?_, fun c10 => ?_⟩
      · have k := k.1 c10
        show rx_aw 60 99 [.ref 1, .ref (rx_ct c0), .int x2, .int x3, .int x4, .int x5, .ref (rx_ct j8)] [] (rx_hp L t hi hl v) Q
        refine rx_aw_s 1 (pc := 99) rfl ?_
        show rx_aw 60 100 [.ref 1, .ref (rx_ct c0), .int x2, .int x3, .int x4, .int x5, .ref (rx_ct j8)] [.int (0 : Int32)] (rx_hp L t hi hl v) Q
        exact rx_aw_ret (pc := 100) rfl k
      · have k := k.2 c10
        show rx_aw 60 87 [.ref 1, .ref (rx_ct c0), .int x2, .int x3, .int x4, .int x5, .ref (rx_ct j8)] [] (rx_hp L t hi hl v) Q
        refine rx_aw_s 1 (pc := 87) rfl ?_
        show rx_aw 60 89 [.ref 1, .ref (rx_ct c0), .int x2, .int x3, .int x4, .int x5, .ref (rx_ct j8)] [.ref (rx_ct j8)] (rx_hp L t hi hl v) Q
        refine rx_w_cg hj8 (pc := 89) rfl (by decide) (by decide) ?_
        show rx_aw 60 92 [.ref 1, .ref (rx_ct c0), .int x2, .int x3, .int x4, .int x5, .ref (rx_ct j8)] [.int (hi (rx_ct j8) 6)] (rx_hp L t hi hl v) Q
        refine rx_w_callI (j := 48) (pc := 92) rfl rfl rfl rfl rfl ?_
        refine rx_aw.mono k (fun r h2 k => ?_)
        obtain ⟨z11, rfl, hi11, hl11, v11, rfl, k⟩ := k
        refine ⟨z11, rfl, ?_⟩
        show rx_aw 60 95 [.ref 1, .ref (rx_ct c0), .int x2, .int x3, .int x4, .int x5, .ref (rx_ct j8)] [.int z11] (rx_hp L t hi11 hl11 v11) Q
        refine rx_aw_s 2 (pc := 95) rfl ?_
        refine rx_w_ifn (c := z11 = x3) ⟨fun c12 => ?_, fun c12 => ?_⟩
        · have k := k.1 c12
          show rx_aw 60 99 [.ref 1, .ref (rx_ct c0), .int x2, .int x3, .int x4, .int x5, .ref (rx_ct j8)] [] (rx_hp L t hi11 hl11 v11) Q
          refine rx_aw_s 1 (pc := 99) rfl ?_
          show rx_aw 60 100 [.ref 1, .ref (rx_ct c0), .int x2, .int x3, .int x4, .int x5, .ref (rx_ct j8)] [.int (0 : Int32)] (rx_hp L t hi11 hl11 v11) Q
          exact rx_aw_ret (pc := 100) rfl k
        · have k := k.2 c12
          show rx_aw 60 101 [.ref 1, .ref (rx_ct c0), .int x2, .int x3, .int x4, .int x5, .ref (rx_ct j8)] [] (rx_hp L t hi11 hl11 v11) Q
          refine rx_aw_s 2 (pc := 101) rfl ?_
          show rx_aw 60 48 [.ref 1, .ref (rx_ct c0), .int x2, .int x3, .int x4, .int (x5 + (1 : Int32)), .ref (rx_ct j8)] [] (rx_hp L t hi11 hl11 v11) Q
          exact rx_aw_le (ls := [.ref 1, .ref (rx_ct c0), .int x2, .int x3, .int x4, .int (x5 + (1 : Int32)), rx_no]) ⟨Or.inr rfl, ⟨Or.inr rfl, ⟨Or.inr rfl, ⟨Or.inr rfl, ⟨Or.inr rfl, ⟨Or.inr rfl, ⟨Or.inl rfl, trivial⟩⟩⟩⟩⟩⟩⟩ k
/-- CartFloor.plan(I)I -/
theorem w61_plan {L : Nat} {t : List (Nat × Nat)} {hi : Nat → Nat → Int32} {hl : Nat → Nat → Int64} {v : Nat → Nat → Option Nat} {Q : Option Value → rx_H → Prop} {a0 : Int32} (k : rx_me 59 [.ref 13, .int a0] (rx_hp L t hi hl v) (fun r h2 => ∃ z1 : Option Nat, r = some (va_rf z1) ∧ rx_ok2 L t h2 (fun hi1 hl1 v1 => (z1 = none ∧ Q (some (.int (-2 : Int32))) (rx_hp L t hi1 hl1 v1)) ∨ (∃ q1 : Nat, q1 < 6 ∧ z1 = some (rx_ct q1) ∧ rx_me 62 [.ref (rx_ct q1)] (rx_hp L t hi1 hl1 v1) (fun r h2 => ∃ z2 : Int32, r = some (.int z2) ∧ rx_ok2 L t h2 (fun hi2 hl2 v2 => ((z2 = 0 → Q (some (.int (-2 : Int32))) (rx_hp L t hi2 hl2 v2)) ∧ (¬ (z2 = 0) → rx_me 63 [.ref 76, .ref (rx_ct q1), .int (0 : Int32)] (rx_hp L t hi2 hl2 v2) (fun r h2 => ∃ z4 : Int32, r = some (.int z4) ∧ rx_ok2 L t h2 (fun hi4 hl4 v4 => ((z4 = 0 → Q (some (.int (-1 : Int32))) (rx_hp L t hi4 hl4 v4)) ∧ (¬ (z4 = 0) → Q (some (.int (hi4 (rx_ct q1) 7))) (rx_hp L t hi4 hl4 v4))))))))))))) : rx_me 61 [.ref 1, .int a0] (rx_hp L t hi hl v) Q := by
  show rx_aw 61 0 [.ref 1, .int a0, rx_no] [] (rx_hp L t hi hl v) Q
  refine rx_aw_s 3 (pc := 0) rfl ?_
  show rx_aw 61 5 [.ref 1, .int a0, rx_no] [.int a0, .ref 13] (rx_hp L t hi hl v) Q
  refine rx_w_callR (j := 59) (pc := 5) rfl rfl rfl rfl rfl ?_
  refine rx_aw.mono k (fun r h2 k => ?_)
  obtain ⟨z1, rfl, hi1, hl1, v1, rfl, k⟩ := k
  refine ⟨z1, rfl, ?_⟩
  rcases k with ⟨rfl, k⟩ | ⟨q1, hq1, rfl, k⟩
  · show rx_aw 61 8 [.ref 1, .int a0, rx_no] [.null] (rx_hp L t hi1 hl1 v1) Q
    refine rx_aw_s 4 (pc := 8) rfl ?_
    show rx_aw 61 22 [.ref 1, .int a0, .null] [.int (-2 : Int32)] (rx_hp L t hi1 hl1 v1) Q
    exact rx_aw_ret (pc := 22) rfl k
  · show rx_aw 61 8 [.ref 1, .int a0, rx_no] [.ref (rx_ct q1)] (rx_hp L t hi1 hl1 v1) Q
    refine rx_aw_s 4 (pc := 8) rfl ?_
    show rx_aw 61 14 [.ref 1, .int a0, .ref (rx_ct q1)] [.ref (rx_ct q1)] (rx_hp L t hi1 hl1 v1) Q
    refine rx_w_callI (j := 62) (pc := 14) rfl rfl rfl rfl (rx_mayc rfl rfl rfl rfl (rx_ck (rx_cart_s hq1).1) (rx_ct_pos _)) ?_
    refine rx_aw.mono k (fun r h2 k => ?_)
    obtain ⟨z2, rfl, hi2, hl2, v2, rfl, k⟩ := k
    refine ⟨z2, rfl, ?_⟩
    show rx_aw 61 17 [.ref 1, .int a0, .ref (rx_ct q1)] [.int z2] (rx_hp L t hi2 hl2 v2) Q
    refine rx_aw_s 1 (pc := 17) rfl ?_
    refine rx_w_ifn (c := z2 = 0) ⟨fun c3 => ?_, fun c3 => ?_⟩
    · have k := k.1 c3
      show rx_aw 61 20 [.ref 1, .int a0, .ref (rx_ct q1)] [] (rx_hp L t hi2 hl2 v2) Q
      refine rx_aw_s 1 (pc := 20) rfl ?_
      show rx_aw 61 22 [.ref 1, .int a0, .ref (rx_ct q1)] [.int (-2 : Int32)] (rx_hp L t hi2 hl2 v2) Q
      exact rx_aw_ret (pc := 22) rfl k
    · have k := k.2 c3
      show rx_aw 61 23 [.ref 1, .int a0, .ref (rx_ct q1)] [] (rx_hp L t hi2 hl2 v2) Q
      refine rx_aw_s 4 (pc := 23) rfl ?_
      show rx_aw 61 29 [.ref 1, .int a0, .ref (rx_ct q1)] [.int (0 : Int32), .ref (rx_ct q1), .ref 76] (rx_hp L t hi2 hl2 v2) Q
      refine rx_w_callI (j := 63) (pc := 29) rfl rfl rfl rfl rfl ?_
      refine rx_aw.mono k (fun r h2 k => ?_)
      obtain ⟨z4, rfl, hi4, hl4, v4, rfl, k⟩ := k
      refine ⟨z4, rfl, ?_⟩
      show rx_aw 61 32 [.ref 1, .int a0, .ref (rx_ct q1)] [.int z4] (rx_hp L t hi4 hl4 v4) Q
      refine rx_aw_s 1 (pc := 32) rfl ?_
      refine rx_w_if (c := z4 = 0) ⟨fun c5 => ?_, fun c5 => ?_⟩
      · have k := k.1 c5
        show rx_aw 61 42 [.ref 1, .int a0, .ref (rx_ct q1)] [] (rx_hp L t hi4 hl4 v4) Q
        refine rx_aw_s 1 (pc := 42) rfl ?_
        show rx_aw 61 43 [.ref 1, .int a0, .ref (rx_ct q1)] [.int (-1 : Int32)] (rx_hp L t hi4 hl4 v4) Q
        exact rx_aw_ret (pc := 43) rfl k
      · have k := k.2 c5
        show rx_aw 61 35 [.ref 1, .int a0, .ref (rx_ct q1)] [] (rx_hp L t hi4 hl4 v4) Q
        refine rx_aw_s 1 (pc := 35) rfl ?_
        show rx_aw 61 36 [.ref 1, .int a0, .ref (rx_ct q1)] [.ref (rx_ct q1)] (rx_hp L t hi4 hl4 v4) Q
        refine rx_w_cg hq1 (pc := 36) rfl (by decide) (by decide) ?_
        show rx_aw 61 39 [.ref 1, .int a0, .ref (rx_ct q1)] [.int (hi4 (rx_ct q1) 7)] (rx_hp L t hi4 hl4 v4) Q
        refine rx_aw_s 1 (pc := 39) rfl ?_
        show rx_aw 61 43 [.ref 1, .int a0, .ref (rx_ct q1)] [.int (hi4 (rx_ct q1) 7)] (rx_hp L t hi4 hl4 v4) Q
        exact rx_aw_ret (pc := 43) rfl k
/-- CartFloor$Cart.isOpen()Z -/
theorem w62_isOpen {L : Nat} {t : List (Nat × Nat)} {hi : Nat → Nat → Int32} {hl : Nat → Nat → Int64} {v : Nat → Nat → Option Nat} {Q : Option Value → rx_H → Prop} {c : Nat} (hc : c < 6) (k : (((hi (rx_ct c) 8) < 0 → Q (some (.int (0 : Int32))) (rx_hp L t hi hl v)) ∧ (¬ ((hi (rx_ct c) 8) < 0) → (((hi (rx_ct c) 11) = 0 → (((hi (rx_ct c) 10) = 0 → Q (some (.int (1 : Int32))) (rx_hp L t hi hl v)) ∧ (¬ ((hi (rx_ct c) 10) = 0) → Q (some (.int (0 : Int32))) (rx_hp L t hi hl v)))) ∧ (¬ ((hi (rx_ct c) 11) = 0) → Q (some (.int (0 : Int32))) (rx_hp L t hi hl v)))))) : rx_me 62 [.ref (rx_ct c)] (rx_hp L t hi hl v) Q := by
  show rx_aw 62 0 [.ref (rx_ct c)] [] (rx_hp L t hi hl v) Q
  refine rx_aw_s 1 (pc := 0) rfl ?_
  show rx_aw 62 1 [.ref (rx_ct c)] [.ref (rx_ct c)] (rx_hp L t hi hl v) Q
  refine rx_w_cg hc (pc := 1) rfl (by decide) (by decide) ?_
  show rx_aw 62 4 [.ref (rx_ct c)] [.int (hi (rx_ct c) 8)] (rx_hp L t hi hl v) Q
  refine rx_aw_s 1 (pc := 4) rfl ?_
  refine rx_w_if (c := (hi (rx_ct c) 8) < 0) ⟨fun c1 => ?_, fun c1 => ?_⟩
  · have k := k.1 c1
    show rx_aw 62 25 [.ref (rx_ct c)] [] (rx_hp L t hi hl v) Q
    refine rx_aw_s 1 (pc := 25) rfl ?_
    show rx_aw 62 26 [.ref (rx_ct c)] [.int (0 : Int32)] (rx_hp L t hi hl v) Q
    exact rx_aw_ret (pc := 26) rfl k
  · have k := k.2 c1
    show rx_aw 62 7 [.ref (rx_ct c)] [] (rx_hp L t hi hl v) Q
    refine rx_aw_s 1 (pc := 7) rfl ?_
    show rx_aw 62 8 [.ref (rx_ct c)] [.ref (rx_ct c)] (rx_hp L t hi hl v) Q
    refine rx_w_cg hc (pc := 8) rfl (by decide) (by decide) ?_
    show rx_aw 62 11 [.ref (rx_ct c)] [.int (hi (rx_ct c) 11)] (rx_hp L t hi hl v) Q
    refine rx_aw_s 1 (pc := 11) rfl ?_
    refine rx_w_ifn (c := (hi (rx_ct c) 11) = 0) ⟨fun c2 => ?_, fun c2 => ?_⟩
    · have k := k.1 c2
      show rx_aw 62 14 [.ref (rx_ct c)] [] (rx_hp L t hi hl v) Q
      refine rx_aw_s 1 (pc := 14) rfl ?_
      show rx_aw 62 15 [.ref (rx_ct c)] [.ref (rx_ct c)] (rx_hp L t hi hl v) Q
      refine rx_w_cg hc (pc := 15) rfl (by decide) (by decide) ?_
      show rx_aw 62 18 [.ref (rx_ct c)] [.int (hi (rx_ct c) 10)] (rx_hp L t hi hl v) Q
      refine rx_aw_s 1 (pc := 18) rfl ?_
      refine rx_w_ifn (c := (hi (rx_ct c) 10) = 0) ⟨fun c3 => ?_, fun c3 => ?_⟩
      · have k := k.1 c3
        show rx_aw 62 21 [.ref (rx_ct c)] [] (rx_hp L t hi hl v) Q
        refine rx_aw_s 2 (pc := 21) rfl ?_
        show rx_aw 62 26 [.ref (rx_ct c)] [.int (1 : Int32)] (rx_hp L t hi hl v) Q
        exact rx_aw_ret (pc := 26) rfl k
      · have k := k.2 c3
        show rx_aw 62 25 [.ref (rx_ct c)] [] (rx_hp L t hi hl v) Q
        refine rx_aw_s 1 (pc := 25) rfl ?_
        show rx_aw 62 26 [.ref (rx_ct c)] [.int (0 : Int32)] (rx_hp L t hi hl v) Q
        exact rx_aw_ret (pc := 26) rfl k
    · have k := k.2 c2
      show rx_aw 62 25 [.ref (rx_ct c)] [] (rx_hp L t hi hl v) Q
      refine rx_aw_s 1 (pc := 25) rfl ?_
      show rx_aw 62 26 [.ref (rx_ct c)] [.int (0 : Int32)] (rx_hp L t hi hl v) Q
      exact rx_aw_ret (pc := 26) rfl k
/-- CartFloor$Planner.find(LCartFloor$Cart;I)Z -/
theorem w63_find {L : Nat} {t : List (Nat × Nat)} {hi : Nat → Nat → Int32} {hl : Nat → Nat → Int64} {v : Nat → Nat → Option Nat} {Q : Option Value → rx_H → Prop} {c0 : Nat} (hc0 : c0 < 6) {a1 : Int32} (k : (∃ j1 : Nat, a1 = nI j1 ∧ j1 < 402 ∧ (((hi (rx_ct c0) 9) < 0 → ((0 ≤ a1 → rx_me 64 [.ref 77, .ref (rx_ct c0), .int (hi (rx_ct c0 + 3) j1), .int a1, .int (hi (rx_ct c0) 8), .int (-1 : Int32), .int (1 : Int32)] (rx_hp L t hi hl v) (fun r h2 => ∃ z4 : Int32, r = some (.int z4) ∧ rx_ok2 L t h2 (fun hi4 hl4 v4 => ((z4 < 0 → ((0 ≤ z4 → rx_me 41 [.ref 13] (rx_hp L t (rx_u (rx_u hi4 (rx_ct c0) 7 z4) (rx_ct c0) 11 (1 : Int32)) hl4 v4) (fun r h2 => r = none ∧ rx_ok2 L t h2 (fun hi7 hl7 v7 => Q (some (.int (1 : Int32))) (rx_hp L t hi7 hl7 v7)))) ∧ (¬ (0 ≤ z4) → Q (some (.int (0 : Int32))) (rx_hp L t hi4 hl4 v4)))) ∧ (¬ (z4 < 0) → (((hi4 (rx_ct c0) 9) < 0 → ((0 ≤ z4 → rx_me 41 [.ref 13] (rx_hp L t (rx_u (rx_u hi4 (rx_ct c0) 7 z4) (rx_ct c0) 11 (1 : Int32)) hl4 v4) (fun r h2 => r = none ∧ rx_ok2 L t h2 (fun hi10 hl10 v10 => Q (some (.int (1 : Int32))) (rx_hp L t hi10 hl10 v10)))) ∧ (¬ (0 ≤ z4) → Q (some (.int (0 : Int32))) (rx_hp L t hi4 hl4 v4)))) ∧ (¬ ((hi4 (rx_ct c0) 9) < 0) → rx_me 83 [.ref 76, .ref (rx_ct c0), .int (6 : Int32), .int z4] (rx_hp L t hi4 hl4 v4) (fun r h2 => ∃ z11 : Int32, r = some (.int z11) ∧ rx_ok2 L t h2 (fun hi11 hl11 v11 => ((0 ≤ z11 → rx_me 41 [.ref 13] (rx_hp L t (rx_u (rx_u hi11 (rx_ct c0) 7 z11) (rx_ct c0) 11 (1 : Int32)) hl11 v11) (fun r h2 => r = none ∧ rx_ok2 L t h2 (fun hi13 hl13 v13 => Q (some (.int (1 : Int32))) (rx_hp L t hi13 hl13 v13)))) ∧ (¬ (0 ≤ z11) → Q (some (.int (0 : Int32))) (rx_hp L t hi11 hl11 v11)))))))))))) ∧ (¬ (0 ≤ a1) → Q (some (.int (0 : Int32))) (rx_hp L t hi hl v)))) ∧ (¬ ((hi (rx_ct c0) 9) < 0) → rx_me 48 [.int (hi (rx_ct c0 + 3) j1)] (rx_hp L t hi hl v) (fun r h2 => ∃ z14 : Int32, r = some (.int z14) ∧ rx_ok2 L t h2 (fun hi14 hl14 v14 => ((z14 = (hi14 (rx_ct c0) 9) → ((0 ≤ a1 → rx_me 64 [.ref 77, .ref (rx_ct c0), .int (hi (rx_ct c0 + 3) j1), .int a1, .int (hi14 (rx_ct c0) 8), .int (-1 : Int32), .int (1 : Int32)] (rx_hp L t hi14 hl14 v14) (fun r h2 => ∃ z17 : Int32, r = some (.int z17) ∧ rx_ok2 L t h2 (fun hi17 hl17 v17 => ((z17 < 0 → ((0 ≤ z17 → rx_me 41 [.ref 13] (rx_hp L t (rx_u (rx_u hi17 (rx_ct c0) 7 z17) (rx_ct c0) 11 (1 : Int32)) hl17 v17) (fun r h2 => r = none ∧ rx_ok2 L t h2 (fun hi20 hl20 v20 => Q (some (.int (1 : Int32))) (rx_hp L t hi20 hl20 v20)))) ∧ (¬ (0 ≤ z17) → Q (some (.int (0 : Int32))) (rx_hp L t hi17 hl17 v17)))) ∧ (¬ (z17 < 0) → (((hi17 (rx_ct c0) 9) < 0 → ((0 ≤ z17 → rx_me 41 [.ref 13] (rx_hp L t (rx_u (rx_u hi17 (rx_ct c0) 7 z17) (rx_ct c0) 11 (1 : Int32)) hl17 v17) (fun r h2 => r = none ∧ rx_ok2 L t h2 (fun hi23 hl23 v23 => Q (some (.int (1 : Int32))) (rx_hp L t hi23 hl23 v23)))) ∧ (¬ (0 ≤ z17) → Q (some (.int (0 : Int32))) (rx_hp L t hi17 hl17 v17)))) ∧ (¬ ((hi17 (rx_ct c0) 9) < 0) → rx_me 83 [.ref 76, .ref (rx_ct c0), .int (6 : Int32), .int z17] (rx_hp L t hi17 hl17 v17) (fun r h2 => ∃ z24 : Int32, r = some (.int z24) ∧ rx_ok2 L t h2 (fun hi24 hl24 v24 => ((0 ≤ z24 → rx_me 41 [.ref 13] (rx_hp L t (rx_u (rx_u hi24 (rx_ct c0) 7 z24) (rx_ct c0) 11 (1 : Int32)) hl24 v24) (fun r h2 => r = none ∧ rx_ok2 L t h2 (fun hi26 hl26 v26 => Q (some (.int (1 : Int32))) (rx_hp L t hi26 hl26 v26)))) ∧ (¬ (0 ≤ z24) → Q (some (.int (0 : Int32))) (rx_hp L t hi24 hl24 v24)))))))))))) ∧ (¬ (0 ≤ a1) → Q (some (.int (0 : Int32))) (rx_hp L t hi14 hl14 v14)))) ∧ (¬ (z14 = (hi14 (rx_ct c0) 9)) → rx_me 38 [.ref 13, .int (hi14 (rx_ct c0) 9), .int (402 : Int32)] (rx_hp L t hi14 hl14 v14) (fun r h2 => ∃ z27 : Int32, r = some (.int z27) ∧ rx_ok2 L t h2 (fun hi27 hl27 v27 => rx_me 64 [.ref 77, .ref (rx_ct c0), .int (hi (rx_ct c0 + 3) j1), .int a1, .int z27, .int (hi27 (rx_ct c0) 9), .int (0 : Int32)] (rx_hp L t hi27 hl27 v27) (fun r h2 => ∃ z28 : Int32, r = some (.int z28) ∧ rx_ok2 L t h2 (fun hi28 hl28 v28 => ((0 ≤ z28 → rx_me 83 [.ref 76, .ref (rx_ct c0), .int (5 : Int32), .int z28] (rx_hp L t hi28 hl28 v28) (fun r h2 => ∃ z30 : Int32, r = some (.int z30) ∧ rx_ok2 L t h2 (fun hi30 hl30 v30 => ((0 ≤ z30 → rx_me 64 [.ref 77, .ref (rx_ct c0), .int (hi30 77 13), .int z30, .int (hi30 (rx_ct c0) 8), .int (-1 : Int32), .int (1 : Int32)] (rx_hp L t hi30 hl30 v30) (fun r h2 => ∃ z32 : Int32, r = some (.int z32) ∧ rx_ok2 L t h2 (fun hi32 hl32 v32 => ((z32 < 0 → ((0 ≤ z32 → rx_me 41 [.ref 13] (rx_hp L t (rx_u (rx_u hi32 (rx_ct c0) 7 z32) (rx_ct c0) 11 (1 : Int32)) hl32 v32) (fun r h2 => r = none ∧ rx_ok2 L t h2 (fun hi35 hl35 v35 => Q (some (.int (1 : Int32))) (rx_hp L t hi35 hl35 v35)))) ∧ (¬ (0 ≤ z32) → Q (some (.int (0 : Int32))) (rx_hp L t hi32 hl32 v32)))) ∧ (¬ (z32 < 0) → (((hi32 (rx_ct c0) 9) < 0 → ((0 ≤ z32 → rx_me 41 [.ref 13] (rx_hp L t (rx_u (rx_u hi32 (rx_ct c0) 7 z32) (rx_ct c0) 11 (1 : Int32)) hl32 v32) (fun r h2 => r = none ∧ rx_ok2 L t h2 (fun hi38 hl38 v38 => Q (some (.int (1 : Int32))) (rx_hp L t hi38 hl38 v38)))) ∧ (¬ (0 ≤ z32) → Q (some (.int (0 : Int32))) (rx_hp L t hi32 hl32 v32)))) ∧ (¬ ((hi32 (rx_ct c0) 9) < 0) → rx_me 83 [.ref 76, .ref (rx_ct c0), .int (6 : Int32), .int z32] (rx_hp L t hi32 hl32 v32) (fun r h2 => ∃ z39 : Int32, r = some (.int z39) ∧ rx_ok2 L t h2 (fun hi39 hl39 v39 => ((0 ≤ z39 → rx_me 41 [.ref 13] (rx_hp L t (rx_u (rx_u hi39 (rx_ct c0) 7 z39) (rx_ct c0) 11 (1 : Int32)) hl39 v39) (fun r h2 => r = none ∧ rx_ok2 L t h2 (fun hi41 hl41 v41 => Q (some (.int (1 : Int32))) (rx_hp L t hi41 hl41 v41)))) ∧ (¬ (0 ≤ z39) → Q (some (.int (0 : Int32))) (rx_hp L t hi39 hl39 v39)))))))))))) ∧ (¬ (0 ≤ z30) → Q (some (.int (0 : Int32))) (rx_hp L t hi30 hl30 v30)))))) ∧ (¬ (0 ≤ z28) → Q (some (.int (0 : Int32))) (rx_hp L t hi28 hl28 v28))))))))))))))) : rx_me 63 [.ref 76, .ref (rx_ct c0), .int a1] (rx_hp L t hi hl v) Q := by
  show rx_aw 63 0 [.ref 76, .ref (rx_ct c0), .int a1, rx_no, rx_no, rx_no] [] (rx_hp L t hi hl v) Q
  refine rx_aw_s 1 (pc := 0) rfl ?_
  show rx_aw 63 1 [.ref 76, .ref (rx_ct c0), .int a1, rx_no, rx_no, rx_no] [.ref (rx_ct c0)] (rx_hp L t hi hl v) Q
  refine rx_w_cr hc0 (pc := 1) rfl (by decide) ?_
  show rx_aw 63 4 [.ref 76, .ref (rx_ct c0), .int a1, rx_no, rx_no, rx_no] [.ref (rx_ct c0 + 3)] (rx_hp L t hi hl v) Q
  refine rx_aw_s 1 (pc := 4) rfl ?_
  show rx_aw 63 5 [.ref 76, .ref (rx_ct c0), .int a1, rx_no, rx_no, rx_no] [.int a1, .ref (rx_ct c0 + 3)] (rx_hp L t hi hl v) Q
  obtain ⟨j1, ej1, hj1, k⟩ := k
  refine rx_aw_iald (pc := 5) (n := 402) j1 ej1 rfl (rx_ck (rx_cart_s hc0).2.2.2.1) (rx_cle (rx_cart_s hc0).2.2.2.1) hj1 (by decide) ?_
  show rx_aw 63 6 [.ref 76, .ref (rx_ct c0), .int a1, rx_no, rx_no, rx_no] [.int (hi (rx_ct c0 + 3) j1)] (rx_hp L t hi hl v) Q
  refine rx_aw_s 4 (pc := 6) rfl ?_
  show rx_aw 63 11 [.ref 76, .ref (rx_ct c0), .int a1, .int (hi (rx_ct c0 + 3) j1), .int a1, rx_no] [.ref (rx_ct c0)] (rx_hp L t hi hl v) Q
  refine rx_w_cg hc0 (pc := 11) rfl (by decide) (by decide) ?_
  show rx_aw 63 14 [.ref 76, .ref (rx_ct c0), .int a1, .int (hi (rx_ct c0 + 3) j1), .int a1, rx_no] [.int (hi (rx_ct c0) 9)] (rx_hp L t hi hl v) Q
  refine rx_aw_s 1 (pc := 14) rfl ?_
  refine rx_w_if (c := (hi (rx_ct c0) 9) < 0) ⟨fun c2 => ?_, fun c2 => ?_⟩
  · have k := k.1 c2
    show rx_aw 63 91 [.ref 76, .ref (rx_ct c0), .int a1, .int (hi (rx_ct c0 + 3) j1), .int a1, rx_no] [] (rx_hp L t hi hl v) Q
    refine rx_aw_s 2 (pc := 91) rfl ?_
    refine rx_w_if (c := 0 ≤ a1) ⟨fun c3 => ?_, fun c3 => ?_⟩
    · have k := k.1 c3
      show rx_aw 63 100 [.ref 76, .ref (rx_ct c0), .int a1, .int (hi (rx_ct c0 + 3) j1), .int a1, rx_no] [] (rx_hp L t hi hl v) Q
      refine rx_aw_s 6 (pc := 100) rfl ?_
      show rx_aw 63 109 [.ref 76, .ref (rx_ct c0), .int a1, .int (hi (rx_ct c0 + 3) j1), .int a1, rx_no] [.ref (rx_ct c0), .int a1, .int (hi (rx_ct c0 + 3) j1), .ref (rx_ct c0), .ref 77] (rx_hp L t hi hl v) Q
      refine rx_w_cg hc0 (pc := 109) rfl (by decide) (by decide) ?_
      show rx_aw 63 112 [.ref 76, .ref (rx_ct c0), .int a1, .int (hi (rx_ct c0 + 3) j1), .int a1, rx_no] [.int (hi (rx_ct c0) 8), .int a1, .int (hi (rx_ct c0 + 3) j1), .ref (rx_ct c0), .ref 77] (rx_hp L t hi hl v) Q
      refine rx_aw_s 2 (pc := 112) rfl ?_
      show rx_aw 63 114 [.ref 76, .ref (rx_ct c0), .int a1, .int (hi (rx_ct c0 + 3) j1), .int a1, rx_no] [.int (1 : Int32), .int (-1 : Int32), .int (hi (rx_ct c0) 8), .int a1, .int (hi (rx_ct c0 + 3) j1), .ref (rx_ct c0), .ref 77] (rx_hp L t hi hl v) Q
      refine rx_w_callI (j := 64) (pc := 114) rfl rfl rfl rfl rfl ?_
      refine rx_aw.mono k (fun r h2 k => ?_)
      obtain ⟨z4, rfl, hi4, hl4, v4, rfl, k⟩ := k
      refine ⟨z4, rfl, ?_⟩
      show rx_aw 63 117 [.ref 76, .ref (rx_ct c0), .int a1, .int (hi (rx_ct c0 + 3) j1), .int a1, rx_no] [.int z4] (rx_hp L t hi4 hl4 v4) Q
      refine rx_aw_s 3 (pc := 117) rfl ?_
      refine rx_w_if (c := z4 < 0) ⟨fun c5 => ?_, fun c5 => ?_⟩
      · have k := k.1 c5
        show rx_aw 63 142 [.ref 76, .ref (rx_ct c0), .int a1, .int (hi (rx_ct c0 + 3) j1), .int z4, rx_no] [] (rx_hp L t hi4 hl4 v4) Q
        refine rx_aw_s 2 (pc := 142) rfl ?_
        refine rx_w_if (c := 0 ≤ z4) ⟨fun c6 => ?_, fun c6 => ?_⟩
        · have k := k.1 c6
          show rx_aw 63 149 [.ref 76, .ref (rx_ct c0), .int a1, .int (hi (rx_ct c0 + 3) j1), .int z4, rx_no] [] (rx_hp L t hi4 hl4 v4) Q
          refine rx_aw_s 2 (pc := 149) rfl ?_
          show rx_aw 63 152 [.ref 76, .ref (rx_ct c0), .int a1, .int (hi (rx_ct c0 + 3) j1), .int z4, rx_no] [.int z4, .ref (rx_ct c0)] (rx_hp L t hi4 hl4 v4) Q
          refine rx_w_cp hc0 (pc := 152) rfl rfl (by decide) ?_
          show rx_aw 63 155 [.ref 76, .ref (rx_ct c0), .int a1, .int (hi (rx_ct c0 + 3) j1), .int z4, rx_no] [] (rx_hp L t (rx_u hi4 (rx_ct c0) 7 z4) hl4 v4) Q
          refine rx_aw_s 2 (pc := 155) rfl ?_
          show rx_aw 63 157 [.ref 76, .ref (rx_ct c0), .int a1, .int (hi (rx_ct c0 + 3) j1), .int z4, rx_no] [.int (1 : Int32), .ref (rx_ct c0)] (rx_hp L t (rx_u hi4 (rx_ct c0) 7 z4) hl4 v4) Q
          refine rx_w_cz hc0 (pc := 157) rfl rfl (by decide) ⟨by decide, ?_⟩
          show rx_aw 63 160 [.ref 76, .ref (rx_ct c0), .int a1, .int (hi (rx_ct c0 + 3) j1), .int z4, rx_no] [] (rx_hp L t (rx_u (rx_u hi4 (rx_ct c0) 7 z4) (rx_ct c0) 11 (1 : Int32)) hl4 v4) Q
          refine rx_aw_s 2 (pc := 160) rfl ?_
          show rx_aw 63 164 [.ref 76, .ref (rx_ct c0), .int a1, .int (hi (rx_ct c0 + 3) j1), .int z4, rx_no] [.ref 13] (rx_hp L t (rx_u (rx_u hi4 (rx_ct c0) 7 z4) (rx_ct c0) 11 (1 : Int32)) hl4 v4) Q
          refine rx_w_callV (j := 41) (pc := 164) rfl rfl rfl rfl rfl ?_
          refine rx_aw.mono k (fun r h2 k => ?_)
          obtain ⟨rfl, hi7, hl7, v7, rfl, k⟩ := k
          refine ⟨rfl, ?_⟩
          show rx_aw 63 167 [.ref 76, .ref (rx_ct c0), .int a1, .int (hi (rx_ct c0 + 3) j1), .int z4, rx_no] [] (rx_hp L t hi7 hl7 v7) Q
          refine rx_aw_s 1 (pc := 167) rfl ?_
          show rx_aw 63 168 [.ref 76, .ref (rx_ct c0), .int a1, .int (hi (rx_ct c0 + 3) j1), .int z4, rx_no] [.int (1 : Int32)] (rx_hp L t hi7 hl7 v7) Q
          exact rx_aw_ret (pc := 168) rfl k
        · have k := k.2 c6
          show rx_aw 63 147 [.ref 76, .ref (rx_ct c0), .int a1, .int (hi (rx_ct c0 + 3) j1), .int z4, rx_no] [] (rx_hp L t hi4 hl4 v4) Q
          refine rx_aw_s 1 (pc := 147) rfl ?_
          show rx_aw 63 148 [.ref 76, .ref (rx_ct c0), .int a1, .int (hi (rx_ct c0 + 3) j1), .int z4, rx_no] [.int (0 : Int32)] (rx_hp L t hi4 hl4 v4) Q
          exact rx_aw_ret (pc := 148) rfl k
      · have k := k.2 c5
        show rx_aw 63 124 [.ref 76, .ref (rx_ct c0), .int a1, .int (hi (rx_ct c0 + 3) j1), .int z4, rx_no] [] (rx_hp L t hi4 hl4 v4) Q
        refine rx_aw_s 1 (pc := 124) rfl ?_
        show rx_aw 63 125 [.ref 76, .ref (rx_ct c0), .int a1, .int (hi (rx_ct c0 + 3) j1), .int z4, rx_no] [.ref (rx_ct c0)] (rx_hp L t hi4 hl4 v4) Q
        refine rx_w_cg hc0 (pc := 125) rfl (by decide) (by decide) ?_
        show rx_aw 63 128 [.ref 76, .ref (rx_ct c0), .int a1, .int (hi (rx_ct c0 + 3) j1), .int z4, rx_no] [.int (hi4 (rx_ct c0) 9)] (rx_hp L t hi4 hl4 v4) Q
        refine rx_aw_s 1 (pc := 128) rfl ?_
        refine rx_w_if (c := (hi4 (rx_ct c0) 9) < 0) ⟨fun c8 => ?_, fun c8 => ?_⟩
        · have k := k.1 c8
          show rx_aw 63 142 [.ref 76, .ref (rx_ct c0), .int a1, .int (hi (rx_ct c0 + 3) j1), .int z4, rx_no] [] (rx_hp L t hi4 hl4 v4) Q
          refine rx_aw_s 2 (pc := 142) rfl ?_
          refine rx_w_if (c := 0 ≤ z4) ⟨fun c9 => ?_, fun c9 => ?_⟩
          · have k := k.1 c9
            show rx_aw 63 149 [.ref 76, .ref (rx_ct c0), .int a1, .int (hi (rx_ct c0 + 3) j1), .int z4, rx_no] [] (rx_hp L t hi4 hl4 v4) Q
            refine rx_aw_s 2 (pc := 149) rfl ?_
            show rx_aw 63 152 [.ref 76, .ref (rx_ct c0), .int a1, .int (hi (rx_ct c0 + 3) j1), .int z4, rx_no] [.int z4, .ref (rx_ct c0)] (rx_hp L t hi4 hl4 v4) Q
            refine rx_w_cp hc0 (pc := 152) rfl rfl (by decide) ?_
            show rx_aw 63 155 [.ref 76, .ref (rx_ct c0), .int a1, .int (hi (rx_ct c0 + 3) j1), .int z4, rx_no] [] (rx_hp L t (rx_u hi4 (rx_ct c0) 7 z4) hl4 v4) Q
            refine rx_aw_s 2 (pc := 155) rfl ?_
            show rx_aw 63 157 [.ref 76, .ref (rx_ct c0), .int a1, .int (hi (rx_ct c0 + 3) j1), .int z4, rx_no] [.int (1 : Int32), .ref (rx_ct c0)] (rx_hp L t (rx_u hi4 (rx_ct c0) 7 z4) hl4 v4) Q
            refine rx_w_cz hc0 (pc := 157) rfl rfl (by decide) ⟨by decide, ?_⟩
            show rx_aw 63 160 [.ref 76, .ref (rx_ct c0), .int a1, .int (hi (rx_ct c0 + 3) j1), .int z4, rx_no] [] (rx_hp L t (rx_u (rx_u hi4 (rx_ct c0) 7 z4) (rx_ct c0) 11 (1 : Int32)) hl4 v4) Q
            refine rx_aw_s 2 (pc := 160) rfl ?_
            show rx_aw 63 164 [.ref 76, .ref (rx_ct c0), .int a1, .int (hi (rx_ct c0 + 3) j1), .int z4, rx_no] [.ref 13] (rx_hp L t (rx_u (rx_u hi4 (rx_ct c0) 7 z4) (rx_ct c0) 11 (1 : Int32)) hl4 v4) Q
            refine rx_w_callV (j := 41) (pc := 164) rfl rfl rfl rfl rfl ?_
            refine rx_aw.mono k (fun r h2 k => ?_)
            obtain ⟨rfl, hi10, hl10, v10, rfl, k⟩ := k
            refine ⟨rfl, ?_⟩
            show rx_aw 63 167 [.ref 76, .ref (rx_ct c0), .int a1, .int (hi (rx_ct c0 + 3) j1), .int z4, rx_no] [] (rx_hp L t hi10 hl10 v10) Q
            refine rx_aw_s 1 (pc := 167) rfl ?_
            show rx_aw 63 168 [.ref 76, .ref (rx_ct c0), .int a1, .int (hi (rx_ct c0 + 3) j1), .int z4, rx_no] [.int (1 : Int32)] (rx_hp L t hi10 hl10 v10) Q
            exact rx_aw_ret (pc := 168) rfl k
          · have k := k.2 c9
            show rx_aw 63 147 [.ref 76, .ref (rx_ct c0), .int a1, .int (hi (rx_ct c0 + 3) j1), .int z4, rx_no] [] (rx_hp L t hi4 hl4 v4) Q
            refine rx_aw_s 1 (pc := 147) rfl ?_
            show rx_aw 63 148 [.ref 76, .ref (rx_ct c0), .int a1, .int (hi (rx_ct c0 + 3) j1), .int z4, rx_no] [.int (0 : Int32)] (rx_hp L t hi4 hl4 v4) Q
            exact rx_aw_ret (pc := 148) rfl k
        · have k := k.2 c8
          show rx_aw 63 131 [.ref 76, .ref (rx_ct c0), .int a1, .int (hi (rx_ct c0 + 3) j1), .int z4, rx_no] [] (rx_hp L t hi4 hl4 v4) Q
          refine rx_aw_s 4 (pc := 131) rfl ?_
          show rx_aw 63 137 [.ref 76, .ref (rx_ct c0), .int a1, .int (hi (rx_ct c0 + 3) j1), .int z4, rx_no] [.int z4, .int (6 : Int32), .ref (rx_ct c0), .ref 76] (rx_hp L t hi4 hl4 v4) Q
          refine rx_w_callI (j := 83) (pc := 137) rfl rfl rfl rfl rfl ?_
          refine rx_aw.mono k (fun r h2 k => ?_)
          obtain ⟨z11, rfl, hi11, hl11, v11, rfl, k⟩ := k
          refine ⟨z11, rfl, ?_⟩
          show rx_aw 63 140 [.ref 76, .ref (rx_ct c0), .int a1, .int (hi (rx_ct c0 + 3) j1), .int z4, rx_no] [.int z11] (rx_hp L t hi11 hl11 v11) Q
          refine rx_aw_s 3 (pc := 140) rfl ?_
          refine rx_w_if (c := 0 ≤ z11) ⟨fun c12 => ?_, fun c12 => ?_⟩
          · have k := k.1 c12
            show rx_aw 63 149 [.ref 76, .ref (rx_ct c0), .int a1, .int (hi (rx_ct c0 + 3) j1), .int z11, rx_no] [] (rx_hp L t hi11 hl11 v11) Q
            refine rx_aw_s 2 (pc := 149) rfl ?_
            show rx_aw 63 152 [.ref 76, .ref (rx_ct c0), .int a1, .int (hi (rx_ct c0 + 3) j1), .int z11, rx_no] [.int z11, .ref (rx_ct c0)] (rx_hp L t hi11 hl11 v11) Q
            refine rx_w_cp hc0 (pc := 152) rfl rfl (by decide) ?_
            show rx_aw 63 155 [.ref 76, .ref (rx_ct c0), .int a1, .int (hi (rx_ct c0 + 3) j1), .int z11, rx_no] [] (rx_hp L t (rx_u hi11 (rx_ct c0) 7 z11) hl11 v11) Q
            refine rx_aw_s 2 (pc := 155) rfl ?_
            show rx_aw 63 157 [.ref 76, .ref (rx_ct c0), .int a1, .int (hi (rx_ct c0 + 3) j1), .int z11, rx_no] [.int (1 : Int32), .ref (rx_ct c0)] (rx_hp L t (rx_u hi11 (rx_ct c0) 7 z11) hl11 v11) Q
            refine rx_w_cz hc0 (pc := 157) rfl rfl (by decide) ⟨by decide, ?_⟩
            show rx_aw 63 160 [.ref 76, .ref (rx_ct c0), .int a1, .int (hi (rx_ct c0 + 3) j1), .int z11, rx_no] [] (rx_hp L t (rx_u (rx_u hi11 (rx_ct c0) 7 z11) (rx_ct c0) 11 (1 : Int32)) hl11 v11) Q
            refine rx_aw_s 2 (pc := 160) rfl ?_
            show rx_aw 63 164 [.ref 76, .ref (rx_ct c0), .int a1, .int (hi (rx_ct c0 + 3) j1), .int z11, rx_no] [.ref 13] (rx_hp L t (rx_u (rx_u hi11 (rx_ct c0) 7 z11) (rx_ct c0) 11 (1 : Int32)) hl11 v11) Q
            refine rx_w_callV (j := 41) (pc := 164) rfl rfl rfl rfl rfl ?_
            refine rx_aw.mono k (fun r h2 k => ?_)
            obtain ⟨rfl, hi13, hl13, v13, rfl, k⟩ := k
            refine ⟨rfl, ?_⟩
            show rx_aw 63 167 [.ref 76, .ref (rx_ct c0), .int a1, .int (hi (rx_ct c0 + 3) j1), .int z11, rx_no] [] (rx_hp L t hi13 hl13 v13) Q
            refine rx_aw_s 1 (pc := 167) rfl ?_
            show rx_aw 63 168 [.ref 76, .ref (rx_ct c0), .int a1, .int (hi (rx_ct c0 + 3) j1), .int z11, rx_no] [.int (1 : Int32)] (rx_hp L t hi13 hl13 v13) Q
            exact rx_aw_ret (pc := 168) rfl k
          · have k := k.2 c12
            show rx_aw 63 147 [.ref 76, .ref (rx_ct c0), .int a1, .int (hi (rx_ct c0 + 3) j1), .int z11, rx_no] [] (rx_hp L t hi11 hl11 v11) Q
            refine rx_aw_s 1 (pc := 147) rfl ?_
            show rx_aw 63 148 [.ref 76, .ref (rx_ct c0), .int a1, .int (hi (rx_ct c0 + 3) j1), .int z11, rx_no] [.int (0 : Int32)] (rx_hp L t hi11 hl11 v11) Q
            exact rx_aw_ret (pc := 148) rfl k
    · have k := k.2 c3
      show rx_aw 63 96 [.ref 76, .ref (rx_ct c0), .int a1, .int (hi (rx_ct c0 + 3) j1), .int a1, rx_no] [] (rx_hp L t hi hl v) Q
      refine rx_aw_s 8 (pc := 96) rfl ?_
      show rx_aw 63 148 [.ref 76, .ref (rx_ct c0), .int a1, .int (hi (rx_ct c0 + 3) j1), .int (-1 : Int32), rx_no] [.int (0 : Int32)] (rx_hp L t hi hl v) Q
      exact rx_aw_ret (pc := 148) rfl k
  · have k := k.2 c2
    show rx_aw 63 17 [.ref 76, .ref (rx_ct c0), .int a1, .int (hi (rx_ct c0 + 3) j1), .int a1, rx_no] [] (rx_hp L t hi hl v) Q
    refine rx_aw_s 1 (pc := 17) rfl ?_
    show rx_aw 63 18 [.ref 76, .ref (rx_ct c0), .int a1, .int (hi (rx_ct c0 + 3) j1), .int a1, rx_no] [.int (hi (rx_ct c0 + 3) j1)] (rx_hp L t hi hl v) Q
    refine rx_w_callI (j := 48) (pc := 18) rfl rfl rfl rfl rfl ?_
    refine rx_aw.mono k (fun r h2 k => ?_)
    obtain ⟨z14, rfl, hi14, hl14, v14, rfl, k⟩ := k
    refine ⟨z14, rfl, ?_⟩
    show rx_aw 63 21 [.ref 76, .ref (rx_ct c0), .int a1, .int (hi (rx_ct c0 + 3) j1), .int a1, rx_no] [.int z14] (rx_hp L t hi14 hl14 v14) Q
    refine rx_aw_s 1 (pc := 21) rfl ?_
    show rx_aw 63 22 [.ref 76, .ref (rx_ct c0), .int a1, .int (hi (rx_ct c0 + 3) j1), .int a1, rx_no] [.ref (rx_ct c0), .int z14] (rx_hp L t hi14 hl14 v14) Q
    refine rx_w_cg hc0 (pc := 22) rfl (by decide) (by decide) ?_
    show rx_aw 63 25 [.ref 76, .ref (rx_ct c0), .int a1, .int (hi (rx_ct c0 + 3) j1), .int a1, rx_no] [.int (hi14 (rx_ct c0) 9), .int z14] (rx_hp L t hi14 hl14 v14) Q
    refine rx_aw_s 1 (pc := 25) rfl ?_
    refine rx_w_if (c := z14 = (hi14 (rx_ct c0) 9)) ⟨fun c15 => ?_, fun c15 => ?_⟩
    · have k := k.1 c15
      show rx_aw 63 91 [.ref 76, .ref (rx_ct c0), .int a1, .int (hi (rx_ct c0 + 3) j1), .int a1, rx_no] [] (rx_hp L t hi14 hl14 v14) Q
      refine rx_aw_s 2 (pc := 91) rfl ?_
      refine rx_w_if (c := 0 ≤ a1) ⟨fun c16 => ?_, fun c16 => ?_⟩
      · have k := k.1 c16
        show rx_aw 63 100 [.ref 76, .ref (rx_ct c0), .int a1, .int (hi (rx_ct c0 + 3) j1), .int a1, rx_no] [] (rx_hp L t hi14 hl14 v14) Q
        refine rx_aw_s 6 (pc := 100) rfl ?_
        show rx_aw 63 109 [.ref 76, .ref (rx_ct c0), .int a1, .int (hi (rx_ct c0 + 3) j1), .int a1, rx_no] [.ref (rx_ct c0), .int a1, .int (hi (rx_ct c0 + 3) j1), .ref (rx_ct c0), .ref 77] (rx_hp L t hi14 hl14 v14) Q
        refine rx_w_cg hc0 (pc := 109) rfl (by decide) (by decide) ?_
        show rx_aw 63 112 [.ref 76, .ref (rx_ct c0), .int a1, .int (hi (rx_ct c0 + 3) j1), .int a1, rx_no] [.int (hi14 (rx_ct c0) 8), .int a1, .int (hi (rx_ct c0 + 3) j1), .ref (rx_ct c0), .ref 77] (rx_hp L t hi14 hl14 v14) Q
        refine rx_aw_s 2 (pc := 112) rfl ?_
        show rx_aw 63 114 [.ref 76, .ref (rx_ct c0), .int a1, .int (hi (rx_ct c0 + 3) j1), .int a1, rx_no] [.int (1 : Int32), .int (-1 : Int32), .int (hi14 (rx_ct c0) 8), .int a1, .int (hi (rx_ct c0 + 3) j1), .ref (rx_ct c0), .ref 77] (rx_hp L t hi14 hl14 v14) Q
        refine rx_w_callI (j := 64) (pc := 114) rfl rfl rfl rfl rfl ?_
        refine rx_aw.mono k (fun r h2 k => ?_)
        obtain ⟨z17, rfl, hi17, hl17, v17, rfl, k⟩ := k
        refine ⟨z17, rfl, ?_⟩
        show rx_aw 63 117 [.ref 76, .ref (rx_ct c0), .int a1, .int (hi (rx_ct c0 + 3) j1), .int a1, rx_no] [.int z17] (rx_hp L t hi17 hl17 v17) Q
        refine rx_aw_s 3 (pc := 117) rfl ?_
        refine rx_w_if (c := z17 < 0) ⟨fun c18 => ?_, fun c18 => ?_⟩
        · have k := k.1 c18
          show rx_aw 63 142 [.ref 76, .ref (rx_ct c0), .int a1, .int (hi (rx_ct c0 + 3) j1), .int z17, rx_no] [] (rx_hp L t hi17 hl17 v17) Q
          refine rx_aw_s 2 (pc := 142) rfl ?_
          refine rx_w_if (c := 0 ≤ z17) ⟨fun c19 => ?_, fun c19 => ?_⟩
          · have k := k.1 c19
            show rx_aw 63 149 [.ref 76, .ref (rx_ct c0), .int a1, .int (hi (rx_ct c0 + 3) j1), .int z17, rx_no] [] (rx_hp L t hi17 hl17 v17) Q
            refine rx_aw_s 2 (pc := 149) rfl ?_
            show rx_aw 63 152 [.ref 76, .ref (rx_ct c0), .int a1, .int (hi (rx_ct c0 + 3) j1), .int z17, rx_no] [.int z17, .ref (rx_ct c0)] (rx_hp L t hi17 hl17 v17) Q
            refine rx_w_cp hc0 (pc := 152) rfl rfl (by decide) ?_
            show rx_aw 63 155 [.ref 76, .ref (rx_ct c0), .int a1, .int (hi (rx_ct c0 + 3) j1), .int z17, rx_no] [] (rx_hp L t (rx_u hi17 (rx_ct c0) 7 z17) hl17 v17) Q
            refine rx_aw_s 2 (pc := 155) rfl ?_
            show rx_aw 63 157 [.ref 76, .ref (rx_ct c0), .int a1, .int (hi (rx_ct c0 + 3) j1), .int z17, rx_no] [.int (1 : Int32), .ref (rx_ct c0)] (rx_hp L t (rx_u hi17 (rx_ct c0) 7 z17) hl17 v17) Q
            refine rx_w_cz hc0 (pc := 157) rfl rfl (by decide) ⟨by decide, ?_⟩
            show rx_aw 63 160 [.ref 76, .ref (rx_ct c0), .int a1, .int (hi (rx_ct c0 + 3) j1), .int z17, rx_no] [] (rx_hp L t (rx_u (rx_u hi17 (rx_ct c0) 7 z17) (rx_ct c0) 11 (1 : Int32)) hl17 v17) Q
            refine rx_aw_s 2 (pc := 160) rfl ?_
            show rx_aw 63 164 [.ref 76, .ref (rx_ct c0), .int a1, .int (hi (rx_ct c0 + 3) j1), .int z17, rx_no] [.ref 13] (rx_hp L t (rx_u (rx_u hi17 (rx_ct c0) 7 z17) (rx_ct c0) 11 (1 : Int32)) hl17 v17) Q
            refine rx_w_callV (j := 41) (pc := 164) rfl rfl rfl rfl rfl ?_
            refine rx_aw.mono k (fun r h2 k => ?_)
            obtain ⟨rfl, hi20, hl20, v20, rfl, k⟩ := k
            refine ⟨rfl, ?_⟩
            show rx_aw 63 167 [.ref 76, .ref (rx_ct c0), .int a1, .int (hi (rx_ct c0 + 3) j1), .int z17, rx_no] [] (rx_hp L t hi20 hl20 v20) Q
            refine rx_aw_s 1 (pc := 167) rfl ?_
            show rx_aw 63 168 [.ref 76, .ref (rx_ct c0), .int a1, .int (hi (rx_ct c0 + 3) j1), .int z17, rx_no] [.int (1 : Int32)] (rx_hp L t hi20 hl20 v20) Q
            exact rx_aw_ret (pc := 168) rfl k
          · have k := k.2 c19
            show rx_aw 63 147 [.ref 76, .ref (rx_ct c0), .int a1, .int (hi (rx_ct c0 + 3) j1), .int z17, rx_no] [] (rx_hp L t hi17 hl17 v17) Q
            refine rx_aw_s 1 (pc := 147) rfl ?_
            show rx_aw 63 148 [.ref 76, .ref (rx_ct c0), .int a1, .int (hi (rx_ct c0 + 3) j1), .int z17, rx_no] [.int (0 : Int32)] (rx_hp L t hi17 hl17 v17) Q
            exact rx_aw_ret (pc := 148) rfl k
        · have k := k.2 c18
          show rx_aw 63 124 [.ref 76, .ref (rx_ct c0), .int a1, .int (hi (rx_ct c0 + 3) j1), .int z17, rx_no] [] (rx_hp L t hi17 hl17 v17) Q
          refine rx_aw_s 1 (pc := 124) rfl ?_
          show rx_aw 63 125 [.ref 76, .ref (rx_ct c0), .int a1, .int (hi (rx_ct c0 + 3) j1), .int z17, rx_no] [.ref (rx_ct c0)] (rx_hp L t hi17 hl17 v17) Q
          refine rx_w_cg hc0 (pc := 125) rfl (by decide) (by decide) ?_
          show rx_aw 63 128 [.ref 76, .ref (rx_ct c0), .int a1, .int (hi (rx_ct c0 + 3) j1), .int z17, rx_no] [.int (hi17 (rx_ct c0) 9)] (rx_hp L t hi17 hl17 v17) Q
          refine rx_aw_s 1 (pc := 128) rfl ?_
          refine rx_w_if (c := (hi17 (rx_ct c0) 9) < 0) ⟨fun c21 => ?_, fun c21 => ?_⟩
          · have k := k.1 c21
            show rx_aw 63 142 [.ref 76, .ref (rx_ct c0), .int a1, .int (hi (rx_ct c0 + 3) j1), .int z17, rx_no] [] (rx_hp L t hi17 hl17 v17) Q
            refine rx_aw_s 2 (pc := 142) rfl ?_
            refine rx_w_if (c := 0 ≤ z17) ⟨fun c22 => ?_, fun c22 => ?_⟩
            · have k := k.1 c22
              show rx_aw 63 149 [.ref 76, .ref (rx_ct c0), .int a1, .int (hi (rx_ct c0 + 3) j1), .int z17, rx_no] [] (rx_hp L t hi17 hl17 v17) Q
              refine rx_aw_s 2 (pc := 149) rfl ?_
              show rx_aw 63 152 [.ref 76, .ref (rx_ct c0), .int a1, .int (hi (rx_ct c0 + 3) j1), .int z17, rx_no] [.int z17, .ref (rx_ct c0)] (rx_hp L t hi17 hl17 v17) Q
              refine rx_w_cp hc0 (pc := 152) rfl rfl (by decide) ?_
              show rx_aw 63 155 [.ref 76, .ref (rx_ct c0), .int a1, .int (hi (rx_ct c0 + 3) j1), .int z17, rx_no] [] (rx_hp L t (rx_u hi17 (rx_ct c0) 7 z17) hl17 v17) Q
              refine rx_aw_s 2 (pc := 155) rfl ?_
              show rx_aw 63 157 [.ref 76, .ref (rx_ct c0), .int a1, .int (hi (rx_ct c0 + 3) j1), .int z17, rx_no] [.int (1 : Int32), .ref (rx_ct c0)] (rx_hp L t (rx_u hi17 (rx_ct c0) 7 z17) hl17 v17) Q
              refine rx_w_cz hc0 (pc := 157) rfl rfl (by decide) ⟨by decide, ?_⟩
              show rx_aw 63 160 [.ref 76, .ref (rx_ct c0), .int a1, .int (hi (rx_ct c0 + 3) j1), .int z17, rx_no] [] (rx_hp L t (rx_u (rx_u hi17 (rx_ct c0) 7 z17) (rx_ct c0) 11 (1 : Int32)) hl17 v17) Q
              refine rx_aw_s 2 (pc := 160) rfl ?_
              show rx_aw 63 164 [.ref 76, .ref (rx_ct c0), .int a1, .int (hi (rx_ct c0 + 3) j1), .int z17, rx_no] [.ref 13] (rx_hp L t (rx_u (rx_u hi17 (rx_ct c0) 7 z17) (rx_ct c0) 11 (1 : Int32)) hl17 v17) Q
              refine rx_w_callV (j := 41) (pc := 164) rfl rfl rfl rfl rfl ?_
              refine rx_aw.mono k (fun r h2 k => ?_)
              obtain ⟨rfl, hi23, hl23, v23, rfl, k⟩ := k
              refine ⟨rfl, ?_⟩
              show rx_aw 63 167 [.ref 76, .ref (rx_ct c0), .int a1, .int (hi (rx_ct c0 + 3) j1), .int z17, rx_no] [] (rx_hp L t hi23 hl23 v23) Q
              refine rx_aw_s 1 (pc := 167) rfl ?_
              show rx_aw 63 168 [.ref 76, .ref (rx_ct c0), .int a1, .int (hi (rx_ct c0 + 3) j1), .int z17, rx_no] [.int (1 : Int32)] (rx_hp L t hi23 hl23 v23) Q
              exact rx_aw_ret (pc := 168) rfl k
            · have k := k.2 c22
              show rx_aw 63 147 [.ref 76, .ref (rx_ct c0), .int a1, .int (hi (rx_ct c0 + 3) j1), .int z17, rx_no] [] (rx_hp L t hi17 hl17 v17) Q
              refine rx_aw_s 1 (pc := 147) rfl ?_
              show rx_aw 63 148 [.ref 76, .ref (rx_ct c0), .int a1, .int (hi (rx_ct c0 + 3) j1), .int z17, rx_no] [.int (0 : Int32)] (rx_hp L t hi17 hl17 v17) Q
              exact rx_aw_ret (pc := 148) rfl k
          · have k := k.2 c21
            show rx_aw 63 131 [.ref 76, .ref (rx_ct c0), .int a1, .int (hi (rx_ct c0 + 3) j1), .int z17, rx_no] [] (rx_hp L t hi17 hl17 v17) Q
            refine rx_aw_s 4 (pc := 131) rfl ?_
            show rx_aw 63 137 [.ref 76, .ref (rx_ct c0), .int a1, .int (hi (rx_ct c0 + 3) j1), .int z17, rx_no] [.int z17, .int (6 : Int32), .ref (rx_ct c0), .ref 76] (rx_hp L t hi17 hl17 v17) Q
            refine rx_w_callI (j := 83) (pc := 137) rfl rfl rfl rfl rfl ?_
            refine rx_aw.mono k (fun r h2 k => ?_)
            obtain ⟨z24, rfl, hi24, hl24, v24, rfl, k⟩ := k
            refine ⟨z24, rfl, ?_⟩
            show rx_aw 63 140 [.ref 76, .ref (rx_ct c0), .int a1, .int (hi (rx_ct c0 + 3) j1), .int z17, rx_no] [.int z24] (rx_hp L t hi24 hl24 v24) Q
            refine rx_aw_s 3 (pc := 140) rfl ?_
            refine rx_w_if (c := 0 ≤ z24) ⟨fun c25 => ?_, fun c25 => ?_⟩
            · have k := k.1 c25
              show rx_aw 63 149 [.ref 76, .ref (rx_ct c0), .int a1, .int (hi (rx_ct c0 + 3) j1), .int z24, rx_no] [] (rx_hp L t hi24 hl24 v24) Q
              refine rx_aw_s 2 (pc := 149) rfl ?_
              show rx_aw 63 152 [.ref 76, .ref (rx_ct c0), .int a1, .int (hi (rx_ct c0 + 3) j1), .int z24, rx_no] [.int z24, .ref (rx_ct c0)] (rx_hp L t hi24 hl24 v24) Q
              refine rx_w_cp hc0 (pc := 152) rfl rfl (by decide) ?_
              show rx_aw 63 155 [.ref 76, .ref (rx_ct c0), .int a1, .int (hi (rx_ct c0 + 3) j1), .int z24, rx_no] [] (rx_hp L t (rx_u hi24 (rx_ct c0) 7 z24) hl24 v24) Q
              refine rx_aw_s 2 (pc := 155) rfl ?_
              show rx_aw 63 157 [.ref 76, .ref (rx_ct c0), .int a1, .int (hi (rx_ct c0 + 3) j1), .int z24, rx_no] [.int (1 : Int32), .ref (rx_ct c0)] (rx_hp L t (rx_u hi24 (rx_ct c0) 7 z24) hl24 v24) Q
              refine rx_w_cz hc0 (pc := 157) rfl rfl (by decide) ⟨by decide, ?_⟩
              show rx_aw 63 160 [.ref 76, .ref (rx_ct c0), .int a1, .int (hi (rx_ct c0 + 3) j1), .int z24, rx_no] [] (rx_hp L t (rx_u (rx_u hi24 (rx_ct c0) 7 z24) (rx_ct c0) 11 (1 : Int32)) hl24 v24) Q
              refine rx_aw_s 2 (pc := 160) rfl ?_
              show rx_aw 63 164 [.ref 76, .ref (rx_ct c0), .int a1, .int (hi (rx_ct c0 + 3) j1), .int z24, rx_no] [.ref 13] (rx_hp L t (rx_u (rx_u hi24 (rx_ct c0) 7 z24) (rx_ct c0) 11 (1 : Int32)) hl24 v24) Q
              refine rx_w_callV (j := 41) (pc := 164) rfl rfl rfl rfl rfl ?_
              refine rx_aw.mono k (fun r h2 k => ?_)
              obtain ⟨rfl, hi26, hl26, v26, rfl, k⟩ := k
              refine ⟨rfl, ?_⟩
              show rx_aw 63 167 [.ref 76, .ref (rx_ct c0), .int a1, .int (hi (rx_ct c0 + 3) j1), .int z24, rx_no] [] (rx_hp L t hi26 hl26 v26) Q
              refine rx_aw_s 1 (pc := 167) rfl ?_
              show rx_aw 63 168 [.ref 76, .ref (rx_ct c0), .int a1, .int (hi (rx_ct c0 + 3) j1), .int z24, rx_no] [.int (1 : Int32)] (rx_hp L t hi26 hl26 v26) Q
              exact rx_aw_ret (pc := 168) rfl k
            · have k := k.2 c25
              show rx_aw 63 147 [.ref 76, .ref (rx_ct c0), .int a1, .int (hi (rx_ct c0 + 3) j1), .int z24, rx_no] [] (rx_hp L t hi24 hl24 v24) Q
              refine rx_aw_s 1 (pc := 147) rfl ?_
              show rx_aw 63 148 [.ref 76, .ref (rx_ct c0), .int a1, .int (hi (rx_ct c0 + 3) j1), .int z24, rx_no] [.int (0 : Int32)] (rx_hp L t hi24 hl24 v24) Q
              exact rx_aw_ret (pc := 148) rfl k
      · have k := k.2 c16
        show rx_aw 63 96 [.ref 76, .ref (rx_ct c0), .int a1, .int (hi (rx_ct c0 + 3) j1), .int a1, rx_no] [] (rx_hp L t hi14 hl14 v14) Q
        refine rx_aw_s 8 (pc := 96) rfl ?_
        show rx_aw 63 148 [.ref 76, .ref (rx_ct c0), .int a1, .int (hi (rx_ct c0 + 3) j1), .int (-1 : Int32), rx_no] [.int (0 : Int32)] (rx_hp L t hi14 hl14 v14) Q
        exact rx_aw_ret (pc := 148) rfl k
    · have k := k.2 c15
      show rx_aw 63 28 [.ref 76, .ref (rx_ct c0), .int a1, .int (hi (rx_ct c0 + 3) j1), .int a1, rx_no] [] (rx_hp L t hi14 hl14 v14) Q
      refine rx_aw_s 3 (pc := 28) rfl ?_
      show rx_aw 63 33 [.ref 76, .ref (rx_ct c0), .int a1, .int (hi (rx_ct c0 + 3) j1), .int a1, rx_no] [.ref (rx_ct c0), .ref 13] (rx_hp L t hi14 hl14 v14) Q
      refine rx_w_cg hc0 (pc := 33) rfl (by decide) (by decide) ?_
      show rx_aw 63 36 [.ref 76, .ref (rx_ct c0), .int a1, .int (hi (rx_ct c0 + 3) j1), .int a1, rx_no] [.int (hi14 (rx_ct c0) 9), .ref 13] (rx_hp L t hi14 hl14 v14) Q
      refine rx_aw_s 1 (pc := 36) rfl ?_
      show rx_aw 63 39 [.ref 76, .ref (rx_ct c0), .int a1, .int (hi (rx_ct c0 + 3) j1), .int a1, rx_no] [.int (402 : Int32), .int (hi14 (rx_ct c0) 9), .ref 13] (rx_hp L t hi14 hl14 v14) Q
      refine rx_w_callI (j := 38) (pc := 39) rfl rfl rfl rfl rfl ?_
      refine rx_aw.mono k (fun r h2 k => ?_)
      obtain ⟨z27, rfl, hi27, hl27, v27, rfl, k⟩ := k
      refine ⟨z27, rfl, ?_⟩
      show rx_aw 63 42 [.ref 76, .ref (rx_ct c0), .int a1, .int (hi (rx_ct c0 + 3) j1), .int a1, rx_no] [.int z27] (rx_hp L t hi27 hl27 v27) Q
      refine rx_aw_s 8 (pc := 42) rfl ?_
      show rx_aw 63 55 [.ref 76, .ref (rx_ct c0), .int a1, .int (hi (rx_ct c0 + 3) j1), .int a1, .int z27] [.ref (rx_ct c0), .int z27, .int a1, .int (hi (rx_ct c0 + 3) j1), .ref (rx_ct c0), .ref 77] (rx_hp L t hi27 hl27 v27) Q
      refine rx_w_cg hc0 (pc := 55) rfl (by decide) (by decide) ?_
      show rx_aw 63 58 [.ref 76, .ref (rx_ct c0), .int a1, .int (hi (rx_ct c0 + 3) j1), .int a1, .int z27] [.int (hi27 (rx_ct c0) 9), .int z27, .int a1, .int (hi (rx_ct c0 + 3) j1), .ref (rx_ct c0), .ref 77] (rx_hp L t hi27 hl27 v27) Q
      refine rx_aw_s 1 (pc := 58) rfl ?_
      show rx_aw 63 59 [.ref 76, .ref (rx_ct c0), .int a1, .int (hi (rx_ct c0 + 3) j1), .int a1, .int z27] [.int (0 : Int32), .int (hi27 (rx_ct c0) 9), .int z27, .int a1, .int (hi (rx_ct c0 + 3) j1), .ref (rx_ct c0), .ref 77] (rx_hp L t hi27 hl27 v27) Q
      refine rx_w_callI (j := 64) (pc := 59) rfl rfl rfl rfl rfl ?_
      refine rx_aw.mono k (fun r h2 k => ?_)
      obtain ⟨z28, rfl, hi28, hl28, v28, rfl, k⟩ := k
      refine ⟨z28, rfl, ?_⟩
      show rx_aw 63 62 [.ref 76, .ref (rx_ct c0), .int a1, .int (hi (rx_ct c0 + 3) j1), .int a1, .int z27] [.int z28] (rx_hp L t hi28 hl28 v28) Q
      refine rx_aw_s 3 (pc := 62) rfl ?_
      refine rx_w_if (c := 0 ≤ z28) ⟨fun c29 => ?_, fun c29 => ?_⟩
      · have k := k.1 c29
        show rx_aw 63 73 [.ref 76, .ref (rx_ct c0), .int a1, .int (hi (rx_ct c0 + 3) j1), .int z28, .int z27] [] (rx_hp L t hi28 hl28 v28) Q
        refine rx_aw_s 4 (pc := 73) rfl ?_
        show rx_aw 63 78 [.ref 76, .ref (rx_ct c0), .int a1, .int (hi (rx_ct c0 + 3) j1), .int z28, .int z27] [.int z28, .int (5 : Int32), .ref (rx_ct c0), .ref 76] (rx_hp L t hi28 hl28 v28) Q
        refine rx_w_callI (j := 83) (pc := 78) rfl rfl rfl rfl rfl ?_
        refine rx_aw.mono k (fun r h2 k => ?_)
        obtain ⟨z30, rfl, hi30, hl30, v30, rfl, k⟩ := k
        refine ⟨z30, rfl, ?_⟩
        show rx_aw 63 81 [.ref 76, .ref (rx_ct c0), .int a1, .int (hi (rx_ct c0 + 3) j1), .int z28, .int z27] [.int z30] (rx_hp L t hi30 hl30 v30) Q
        refine rx_aw_s 7 (pc := 81) rfl ?_
        refine rx_w_if (c := 0 ≤ z30) ⟨fun c31 => ?_, fun c31 => ?_⟩
        · have k := k.1 c31
          show rx_aw 63 100 [.ref 76, .ref (rx_ct c0), .int a1, .int (hi30 77 13), .int z30, .int z27] [] (rx_hp L t hi30 hl30 v30) Q
          refine rx_aw_s 6 (pc := 100) rfl ?_
          show rx_aw 63 109 [.ref 76, .ref (rx_ct c0), .int a1, .int (hi30 77 13), .int z30, .int z27] [.ref (rx_ct c0), .int z30, .int (hi30 77 13), .ref (rx_ct c0), .ref 77] (rx_hp L t hi30 hl30 v30) Q
          refine rx_w_cg hc0 (pc := 109) rfl (by decide) (by decide) ?_
          show rx_aw 63 112 [.ref 76, .ref (rx_ct c0), .int a1, .int (hi30 77 13), .int z30, .int z27] [.int (hi30 (rx_ct c0) 8), .int z30, .int (hi30 77 13), .ref (rx_ct c0), .ref 77] (rx_hp L t hi30 hl30 v30) Q
          refine rx_aw_s 2 (pc := 112) rfl ?_
          show rx_aw 63 114 [.ref 76, .ref (rx_ct c0), .int a1, .int (hi30 77 13), .int z30, .int z27] [.int (1 : Int32), .int (-1 : Int32), .int (hi30 (rx_ct c0) 8), .int z30, .int (hi30 77 13), .ref (rx_ct c0), .ref 77] (rx_hp L t hi30 hl30 v30) Q
          refine rx_w_callI (j := 64) (pc := 114) rfl rfl rfl rfl rfl ?_
          refine rx_aw.mono k (fun r h2 k => ?_)
          obtain ⟨z32, rfl, hi32, hl32, v32, rfl, k⟩ := k
          refine ⟨z32, rfl, ?_⟩
          show rx_aw 63 117 [.ref 76, .ref (rx_ct c0), .int a1, .int (hi30 77 13), .int z30, .int z27] [.int z32] (rx_hp L t hi32 hl32 v32) Q
          refine rx_aw_s 3 (pc := 117) rfl ?_
          refine rx_w_if (c := z32 < 0) ⟨fun c33 => ?_, fun c33 => ?_⟩
          · have k := k.1 c33
            show rx_aw 63 142 [.ref 76, .ref (rx_ct c0), .int a1, .int (hi30 77 13), .int z32, .int z27] [] (rx_hp L t hi32 hl32 v32) Q
            refine rx_aw_s 2 (pc := 142) rfl ?_
            refine rx_w_if (c := 0 ≤ z32) ⟨fun c34 => ?_, fun c34 => ?_⟩
            · have k := k.1 c34
              show rx_aw 63 149 [.ref 76, .ref (rx_ct c0), .int a1, .int (hi30 77 13), .int z32, .int z27] [] (rx_hp L t hi32 hl32 v32) Q
              refine rx_aw_s 2 (pc := 149) rfl ?_
              show rx_aw 63 152 [.ref 76, .ref (rx_ct c0), .int a1, .int (hi30 77 13), .int z32, .int z27] [.int z32, .ref (rx_ct c0)] (rx_hp L t hi32 hl32 v32) Q
              refine rx_w_cp hc0 (pc := 152) rfl rfl (by decide) ?_
              show rx_aw 63 155 [.ref 76, .ref (rx_ct c0), .int a1, .int (hi30 77 13), .int z32, .int z27] [] (rx_hp L t (rx_u hi32 (rx_ct c0) 7 z32) hl32 v32) Q
              refine rx_aw_s 2 (pc := 155) rfl ?_
              show rx_aw 63 157 [.ref 76, .ref (rx_ct c0), .int a1, .int (hi30 77 13), .int z32, .int z27] [.int (1 : Int32), .ref (rx_ct c0)] (rx_hp L t (rx_u hi32 (rx_ct c0) 7 z32) hl32 v32) Q
              refine rx_w_cz hc0 (pc := 157) rfl rfl (by decide) ⟨by decide, ?_⟩
              show rx_aw 63 160 [.ref 76, .ref (rx_ct c0), .int a1, .int (hi30 77 13), .int z32, .int z27] [] (rx_hp L t (rx_u (rx_u hi32 (rx_ct c0) 7 z32) (rx_ct c0) 11 (1 : Int32)) hl32 v32) Q
              refine rx_aw_s 2 (pc := 160) rfl ?_
              show rx_aw 63 164 [.ref 76, .ref (rx_ct c0), .int a1, .int (hi30 77 13), .int z32, .int z27] [.ref 13] (rx_hp L t (rx_u (rx_u hi32 (rx_ct c0) 7 z32) (rx_ct c0) 11 (1 : Int32)) hl32 v32) Q
              refine rx_w_callV (j := 41) (pc := 164) rfl rfl rfl rfl rfl ?_
              refine rx_aw.mono k (fun r h2 k => ?_)
              obtain ⟨rfl, hi35, hl35, v35, rfl, k⟩ := k
              refine ⟨rfl, ?_⟩
              show rx_aw 63 167 [.ref 76, .ref (rx_ct c0), .int a1, .int (hi30 77 13), .int z32, .int z27] [] (rx_hp L t hi35 hl35 v35) Q
              refine rx_aw_s 1 (pc := 167) rfl ?_
              show rx_aw 63 168 [.ref 76, .ref (rx_ct c0), .int a1, .int (hi30 77 13), .int z32, .int z27] [.int (1 : Int32)] (rx_hp L t hi35 hl35 v35) Q
              exact rx_aw_ret (pc := 168) rfl k
            · have k := k.2 c34
              show rx_aw 63 147 [.ref 76, .ref (rx_ct c0), .int a1, .int (hi30 77 13), .int z32, .int z27] [] (rx_hp L t hi32 hl32 v32) Q
              refine rx_aw_s 1 (pc := 147) rfl ?_
              show rx_aw 63 148 [.ref 76, .ref (rx_ct c0), .int a1, .int (hi30 77 13), .int z32, .int z27] [.int (0 : Int32)] (rx_hp L t hi32 hl32 v32) Q
              exact rx_aw_ret (pc := 148) rfl k
          · have k := k.2 c33
            show rx_aw 63 124 [.ref 76, .ref (rx_ct c0), .int a1, .int (hi30 77 13), .int z32, .int z27] [] (rx_hp L t hi32 hl32 v32) Q
            refine rx_aw_s 1 (pc := 124) rfl ?_
            show rx_aw 63 125 [.ref 76, .ref (rx_ct c0), .int a1, .int (hi30 77 13), .int z32, .int z27] [.ref (rx_ct c0)] (rx_hp L t hi32 hl32 v32) Q
            refine rx_w_cg hc0 (pc := 125) rfl (by decide) (by decide) ?_
            show rx_aw 63 128 [.ref 76, .ref (rx_ct c0), .int a1, .int (hi30 77 13), .int z32, .int z27] [.int (hi32 (rx_ct c0) 9)] (rx_hp L t hi32 hl32 v32) Q
            refine rx_aw_s 1 (pc := 128) rfl ?_
            refine rx_w_if (c := (hi32 (rx_ct c0) 9) < 0) ⟨fun c36 => ?_, fun c36 => ?_⟩
            · have k := k.1 c36
              show rx_aw 63 142 [.ref 76, .ref (rx_ct c0), .int a1, .int (hi30 77 13), .int z32, .int z27] [] (rx_hp L t hi32 hl32 v32) Q
              refine rx_aw_s 2 (pc := 142) rfl ?_
              refine rx_w_if (c := 0 ≤ z32) ⟨fun c37 => ?_, fun c37 => ?_⟩
              · have k := k.1 c37
                show rx_aw 63 149 [.ref 76, .ref (rx_ct c0), .int a1, .int (hi30 77 13), .int z32, .int z27] [] (rx_hp L t hi32 hl32 v32) Q
                refine rx_aw_s 2 (pc := 149) rfl ?_
                show rx_aw 63 152 [.ref 76, .ref (rx_ct c0), .int a1, .int (hi30 77 13), .int z32, .int z27] [.int z32, .ref (rx_ct c0)] (rx_hp L t hi32 hl32 v32) Q
                refine rx_w_cp hc0 (pc := 152) rfl rfl (by decide) ?_
                show rx_aw 63 155 [.ref 76, .ref (rx_ct c0), .int a1, .int (hi30 77 13), .int z32, .int z27] [] (rx_hp L t (rx_u hi32 (rx_ct c0) 7 z32) hl32 v32) Q
                refine rx_aw_s 2 (pc := 155) rfl ?_
                show rx_aw 63 157 [.ref 76, .ref (rx_ct c0), .int a1, .int (hi30 77 13), .int z32, .int z27] [.int (1 : Int32), .ref (rx_ct c0)] (rx_hp L t (rx_u hi32 (rx_ct c0) 7 z32) hl32 v32) Q
                refine rx_w_cz hc0 (pc := 157) rfl rfl (by decide) ⟨by decide, ?_⟩
                show rx_aw 63 160 [.ref 76, .ref (rx_ct c0), .int a1, .int (hi30 77 13), .int z32, .int z27] [] (rx_hp L t (rx_u (rx_u hi32 (rx_ct c0) 7 z32) (rx_ct c0) 11 (1 : Int32)) hl32 v32) Q
                refine rx_aw_s 2 (pc := 160) rfl ?_
                show rx_aw 63 164 [.ref 76, .ref (rx_ct c0), .int a1, .int (hi30 77 13), .int z32, .int z27] [.ref 13] (rx_hp L t (rx_u (rx_u hi32 (rx_ct c0) 7 z32) (rx_ct c0) 11 (1 : Int32)) hl32 v32) Q
                refine rx_w_callV (j := 41) (pc := 164) rfl rfl rfl rfl rfl ?_
                refine rx_aw.mono k (fun r h2 k => ?_)
                obtain ⟨rfl, hi38, hl38, v38, rfl, k⟩ := k
                refine ⟨rfl, ?_⟩
                show rx_aw 63 167 [.ref 76, .ref (rx_ct c0), .int a1, .int (hi30 77 13), .int z32, .int z27] [] (rx_hp L t hi38 hl38 v38) Q
                refine rx_aw_s 1 (pc := 167) rfl ?_
                show rx_aw 63 168 [.ref 76, .ref (rx_ct c0), .int a1, .int (hi30 77 13), .int z32, .int z27] [.int (1 : Int32)] (rx_hp L t hi38 hl38 v38) Q
                exact rx_aw_ret (pc := 168) rfl k
              · have k := k.2 c37
                show rx_aw 63 147 [.ref 76, .ref (rx_ct c0), .int a1, .int (hi30 77 13), .int z32, .int z27] [] (rx_hp L t hi32 hl32 v32) Q
                refine rx_aw_s 1 (pc := 147) rfl ?_
                show rx_aw 63 148 [.ref 76, .ref (rx_ct c0), .int a1, .int (hi30 77 13), .int z32, .int z27] [.int (0 : Int32)] (rx_hp L t hi32 hl32 v32) Q
                exact rx_aw_ret (pc := 148) rfl k
            · have k := k.2 c36
              show rx_aw 63 131 [.ref 76, .ref (rx_ct c0), .int a1, .int (hi30 77 13), .int z32, .int z27] [] (rx_hp L t hi32 hl32 v32) Q
              refine rx_aw_s 4 (pc := 131) rfl ?_
              show rx_aw 63 137 [.ref 76, .ref (rx_ct c0), .int a1, .int (hi30 77 13), .int z32, .int z27] [.int z32, .int (6 : Int32), .ref (rx_ct c0), .ref 76] (rx_hp L t hi32 hl32 v32) Q
              refine rx_w_callI (j := 83) (pc := 137) rfl rfl rfl rfl rfl ?_
              refine rx_aw.mono k (fun r h2 k => ?_)
              obtain ⟨z39, rfl, hi39, hl39, v39, rfl, k⟩ := k
              refine ⟨z39, rfl, ?_⟩
              show rx_aw 63 140 [.ref 76, .ref (rx_ct c0), .int a1, .int (hi30 77 13), .int z32, .int z27] [.int z39] (rx_hp L t hi39 hl39 v39) Q
              refine rx_aw_s 3 (pc := 140) rfl ?_
              refine rx_w_if (c := 0 ≤ z39) ⟨fun c40 => ?_, fun c40 => ?_⟩
              · have k := k.1 c40
                show rx_aw 63 149 [.ref 76, .ref (rx_ct c0), .int a1, .int (hi30 77 13), .int z39, .int z27] [] (rx_hp L t hi39 hl39 v39) Q
                refine rx_aw_s 2 (pc := 149) rfl ?_
                show rx_aw 63 152 [.ref 76, .ref (rx_ct c0), .int a1, .int (hi30 77 13), .int z39, .int z27] [.int z39, .ref (rx_ct c0)] (rx_hp L t hi39 hl39 v39) Q
                refine rx_w_cp hc0 (pc := 152) rfl rfl (by decide) ?_
                show rx_aw 63 155 [.ref 76, .ref (rx_ct c0), .int a1, .int (hi30 77 13), .int z39, .int z27] [] (rx_hp L t (rx_u hi39 (rx_ct c0) 7 z39) hl39 v39) Q
                refine rx_aw_s 2 (pc := 155) rfl ?_
                show rx_aw 63 157 [.ref 76, .ref (rx_ct c0), .int a1, .int (hi30 77 13), .int z39, .int z27] [.int (1 : Int32), .ref (rx_ct c0)] (rx_hp L t (rx_u hi39 (rx_ct c0) 7 z39) hl39 v39) Q
                refine rx_w_cz hc0 (pc := 157) rfl rfl (by decide) ⟨by decide, ?_⟩
                show rx_aw 63 160 [.ref 76, .ref (rx_ct c0), .int a1, .int (hi30 77 13), .int z39, .int z27] [] (rx_hp L t (rx_u (rx_u hi39 (rx_ct c0) 7 z39) (rx_ct c0) 11 (1 : Int32)) hl39 v39) Q
                refine rx_aw_s 2 (pc := 160) rfl ?_
                show rx_aw 63 164 [.ref 76, .ref (rx_ct c0), .int a1, .int (hi30 77 13), .int z39, .int z27] [.ref 13] (rx_hp L t (rx_u (rx_u hi39 (rx_ct c0) 7 z39) (rx_ct c0) 11 (1 : Int32)) hl39 v39) Q
                refine rx_w_callV (j := 41) (pc := 164) rfl rfl rfl rfl rfl ?_
                refine rx_aw.mono k (fun r h2 k => ?_)
                obtain ⟨rfl, hi41, hl41, v41, rfl, k⟩ := k
                refine ⟨rfl, ?_⟩
                show rx_aw 63 167 [.ref 76, .ref (rx_ct c0), .int a1, .int (hi30 77 13), .int z39, .int z27] [] (rx_hp L t hi41 hl41 v41) Q
                refine rx_aw_s 1 (pc := 167) rfl ?_
                show rx_aw 63 168 [.ref 76, .ref (rx_ct c0), .int a1, .int (hi30 77 13), .int z39, .int z27] [.int (1 : Int32)] (rx_hp L t hi41 hl41 v41) Q
                exact rx_aw_ret (pc := 168) rfl k
              · have k := k.2 c40
                show rx_aw 63 147 [.ref 76, .ref (rx_ct c0), .int a1, .int (hi30 77 13), .int z39, .int z27] [] (rx_hp L t hi39 hl39 v39) Q
                refine rx_aw_s 1 (pc := 147) rfl ?_
                show rx_aw 63 148 [.ref 76, .ref (rx_ct c0), .int a1, .int (hi30 77 13), .int z39, .int z27] [.int (0 : Int32)] (rx_hp L t hi39 hl39 v39) Q
                exact rx_aw_ret (pc := 148) rfl k
        · have k := k.2 c31
          show rx_aw 63 96 [.ref 76, .ref (rx_ct c0), .int a1, .int (hi30 77 13), .int z30, .int z27] [] (rx_hp L t hi30 hl30 v30) Q
          refine rx_aw_s 8 (pc := 96) rfl ?_
          show rx_aw 63 148 [.ref 76, .ref (rx_ct c0), .int a1, .int (hi30 77 13), .int (-1 : Int32), .int z27] [.int (0 : Int32)] (rx_hp L t hi30 hl30 v30) Q
          exact rx_aw_ret (pc := 148) rfl k
      · have k := k.2 c29
        show rx_aw 63 69 [.ref 76, .ref (rx_ct c0), .int a1, .int (hi (rx_ct c0 + 3) j1), .int z28, .int z27] [] (rx_hp L t hi28 hl28 v28) Q
        refine rx_aw_s 17 (pc := 69) rfl ?_
        show rx_aw 63 148 [.ref 76, .ref (rx_ct c0), .int a1, .int (hi28 77 13), .int (-1 : Int32), .int z27] [.int (0 : Int32)] (rx_hp L t hi28 hl28 v28) Q
        exact rx_aw_ret (pc := 148) rfl k
/-- CartFloor$Search.go(LCartFloor$Cart;IIIIZ)I -/
theorem w64_go {L : Nat} {t : List (Nat × Nat)} {hi : Nat → Nat → Int32} {hl : Nat → Nat → Int64} {v : Nat → Nat → Option Nat} {Q : Option Value → rx_H → Prop} {c0 : Nat} (hc0 : c0 < 6) {a1 : Int32} {a2 : Int32} {a3 : Int32} {a4 : Int32} {a5 : Int32} (k : ((a5 = 0 ∨ a5 = 1) ∧ rx_me 48 [.int a1] (rx_hp L t (rx_u (rx_u (rx_u hi 77 10 a3) 77 11 a4) 77 12 a5) hl (rx_u v 77 8 (some (rx_ct c0)))) (fun r h2 => ∃ z1 : Int32, r = some (.int z1) ∧ rx_ok2 L t h2 (fun hi1 hl1 v1 => rx_me 65 [.ref 77, .int z1, .int a2] (rx_hp L t hi1 hl1 v1) (fun r h2 => r = none ∧ rx_ok2 L t h2 (fun hi2 hl2 v2 => rx_me 42 [.ref 7, .int (hi2 (rx_ct c0) 5), .int a1] (rx_hp L t hi2 hl2 v2) (fun r h2 => ∃ z3 : Int64, r = some (.long z3) ∧ rx_ok2 L t h2 (fun hi3 hl3 v3 => (((hi3 (rx_ct c0) 5) < (2 : Int32) → (∃ j5 : Nat, a2 = nI j5 ∧ j5 < 402 ∧ (((lg_cmp (z3 &&& (hl3 78 j5)) (0 : Int64)) = 0 → rx_aw 64 84 [.ref 77, .ref (rx_ct c0), .int a1, .int a2, .int a3, .int a4, .int a5, .long z3, rx_no, .int (0 : Int32), rx_no] [] (rx_hp L t hi3 hl3 v3) Q) ∧ (¬ ((lg_cmp (z3 &&& (hl3 78 j5)) (0 : Int64)) = 0) → Q (some (.int (-1 : Int32))) (rx_hp L t hi3 hl3 v3))))) ∧ (¬ ((hi3 (rx_ct c0) 5) < (2 : Int32)) → (∃ j7 : Nat, a2 = nI j7 ∧ j7 < 402 ∧ (∃ j8 : Nat, a2 = nI j8 ∧ j8 < 402 ∧ (((lg_cmp ((z3 ||| (hl3 (rx_ct c0 + 5) j7)) &&& (hl3 78 j8)) (0 : Int64)) = 0 → rx_aw 64 84 [.ref 77, .ref (rx_ct c0), .int a1, .int a2, .int a3, .int a4, .int a5, .long (z3 ||| (hl3 (rx_ct c0 + 5) j7)), rx_no, .int (0 : Int32), rx_no] [] (rx_hp L t hi3 hl3 v3) Q) ∧ (¬ ((lg_cmp ((z3 ||| (hl3 (rx_ct c0 + 5) j7)) &&& (hl3 78 j8)) (0 : Int64)) = 0) → Q (some (.int (-1 : Int32))) (rx_hp L t hi3 hl3 v3))))))))))))))) : rx_me 64 [.ref 77, .ref (rx_ct c0), .int a1, .int a2, .int a3, .int a4, .int a5] (rx_hp L t hi hl v) Q := by
  show rx_aw 64 0 [.ref 77, .ref (rx_ct c0), .int a1, .int a2, .int a3, .int a4, .int a5, rx_no, rx_no, rx_no, rx_no] [] (rx_hp L t hi hl v) Q
  refine rx_aw_s 2 (pc := 0) rfl ?_
  show rx_aw 64 2 [.ref 77, .ref (rx_ct c0), .int a1, .int a2, .int a3, .int a4, .int a5, rx_no, rx_no, rx_no, rx_no] [.ref (rx_ct c0), .ref 77] (rx_hp L t hi hl v) Q
  refine rx_w_pr (x := (some (rx_ct c0))) (pc := 2) rfl rfl rfl rfl ?_
  show rx_aw 64 5 [.ref 77, .ref (rx_ct c0), .int a1, .int a2, .int a3, .int a4, .int a5, rx_no, rx_no, rx_no, rx_no] [] (rx_hp L t hi hl (rx_u v 77 8 (some (rx_ct c0)))) Q
  refine rx_aw_s 8 (pc := 5) rfl ?_
  show rx_aw 64 20 [.ref 77, .ref (rx_ct c0), .int a1, .int a2, .int a3, .int a4, .int a5, rx_no, rx_no, rx_no, rx_no] [.int a5, .ref 77] (rx_hp L t (rx_u (rx_u hi 77 10 a3) 77 11 a4) hl (rx_u v 77 8 (some (rx_ct c0)))) Q
  refine rx_aw_putZ (pc := 20) rfl rfl rfl k.1 ?_
  have k := k.2
  show rx_aw 64 23 [.ref 77, .ref (rx_ct c0), .int a1, .int a2, .int a3, .int a4, .int a5, rx_no, rx_no, rx_no, rx_no] [] (rx_hp L t (rx_u (rx_u (rx_u hi 77 10 a3) 77 11 a4) 77 12 a5) hl (rx_u v 77 8 (some (rx_ct c0)))) Q
  refine rx_aw_s 2 (pc := 23) rfl ?_
  show rx_aw 64 25 [.ref 77, .ref (rx_ct c0), .int a1, .int a2, .int a3, .int a4, .int a5, rx_no, rx_no, rx_no, rx_no] [.int a1, .ref 77] (rx_hp L t (rx_u (rx_u (rx_u hi 77 10 a3) 77 11 a4) 77 12 a5) hl (rx_u v 77 8 (some (rx_ct c0)))) Q
  refine rx_w_callI (j := 48) (pc := 25) rfl rfl rfl rfl rfl ?_
  refine rx_aw.mono k (fun r h2 k => ?_)
  obtain ⟨z1, rfl, hi1, hl1, v1, rfl, k⟩ := k
  refine ⟨z1, rfl, ?_⟩
  show rx_aw 64 28 [.ref 77, .ref (rx_ct c0), .int a1, .int a2, .int a3, .int a4, .int a5, rx_no, rx_no, rx_no, rx_no] [.int z1, .ref 77] (rx_hp L t hi1 hl1 v1) Q
  refine rx_aw_s 1 (pc := 28) rfl ?_
  show rx_aw 64 29 [.ref 77, .ref (rx_ct c0), .int a1, .int a2, .int a3, .int a4, .int a5, rx_no, rx_no, rx_no, rx_no] [.int a2, .int z1, .ref 77] (rx_hp L t hi1 hl1 v1) Q
  refine rx_w_callV (j := 65) (pc := 29) rfl rfl rfl rfl rfl ?_
  refine rx_aw.mono k (fun r h2 k => ?_)
  obtain ⟨rfl, hi2, hl2, v2, rfl, k⟩ := k
  refine ⟨rfl, ?_⟩
  show rx_aw 64 32 [.ref 77, .ref (rx_ct c0), .int a1, .int a2, .int a3, .int a4, .int a5, rx_no, rx_no, rx_no, rx_no] [] (rx_hp L t hi2 hl2 v2) Q
  refine rx_aw_s 3 (pc := 32) rfl ?_
  show rx_aw 64 37 [.ref 77, .ref (rx_ct c0), .int a1, .int a2, .int a3, .int a4, .int a5, rx_no, rx_no, rx_no, rx_no] [.ref (rx_ct c0), .ref 7] (rx_hp L t hi2 hl2 v2) Q
  refine rx_w_cg hc0 (pc := 37) rfl (by decide) (by decide) ?_
  show rx_aw 64 40 [.ref 77, .ref (rx_ct c0), .int a1, .int a2, .int a3, .int a4, .int a5, rx_no, rx_no, rx_no, rx_no] [.int (hi2 (rx_ct c0) 5), .ref 7] (rx_hp L t hi2 hl2 v2) Q
  refine rx_aw_s 1 (pc := 40) rfl ?_
  show rx_aw 64 41 [.ref 77, .ref (rx_ct c0), .int a1, .int a2, .int a3, .int a4, .int a5, rx_no, rx_no, rx_no, rx_no] [.int a1, .int (hi2 (rx_ct c0) 5), .ref 7] (rx_hp L t hi2 hl2 v2) Q
  refine rx_w_callL (j := 42) (pc := 41) rfl rfl rfl rfl rfl ?_
  refine rx_aw.mono k (fun r h2 k => ?_)
  obtain ⟨z3, rfl, hi3, hl3, v3, rfl, k⟩ := k
  refine ⟨z3, rfl, ?_⟩
  show rx_aw 64 44 [.ref 77, .ref (rx_ct c0), .int a1, .int a2, .int a3, .int a4, .int a5, rx_no, rx_no, rx_no, rx_no] [.long z3] (rx_hp L t hi3 hl3 v3) Q
  refine rx_aw_s 2 (pc := 44) rfl ?_
  show rx_aw 64 47 [.ref 77, .ref (rx_ct c0), .int a1, .int a2, .int a3, .int a4, .int a5, .long z3, rx_no, rx_no, rx_no] [.ref (rx_ct c0)] (rx_hp L t hi3 hl3 v3) Q
  refine rx_w_cg hc0 (pc := 47) rfl (by decide) (by decide) ?_
  show rx_aw 64 50 [.ref 77, .ref (rx_ct c0), .int a1, .int a2, .int a3, .int a4, .int a5, .long z3, rx_no, rx_no, rx_no] [.int (hi3 (rx_ct c0) 5)] (rx_hp L t hi3 hl3 v3) Q
  refine rx_aw_s 2 (pc := 50) rfl ?_
  refine rx_w_if (c := (hi3 (rx_ct c0) 5) < (2 : Int32)) ⟨fun c4 => ?_, fun c4 => ?_⟩
  · have k := k.1 c4
    show rx_aw 64 65 [.ref 77, .ref (rx_ct c0), .int a1, .int a2, .int a3, .int a4, .int a5, .long z3, rx_no, rx_no, rx_no] [] (rx_hp L t hi3 hl3 v3) Q
    refine rx_aw_s 4 (pc := 65) rfl ?_
    show rx_aw 64 72 [.ref 77, .ref (rx_ct c0), .int a1, .int a2, .int a3, .int a4, .int a5, .long z3, rx_no, rx_no, rx_no] [.int a2, .ref 78, .long z3] (rx_hp L t hi3 hl3 v3) Q
    obtain ⟨j5, ej5, hj5, k⟩ := k
    refine rx_aw_lald (pc := 72) (n := 402) j5 ej5 rfl rfl (by decide) rfl hj5 (by decide) ?_
    show rx_aw 64 73 [.ref 77, .ref (rx_ct c0), .int a1, .int a2, .int a3, .int a4, .int a5, .long z3, rx_no, rx_no, rx_no] [.long (hl3 78 j5), .long z3] (rx_hp L t hi3 hl3 v3) Q
    refine rx_aw_s 4 (pc := 73) rfl ?_
    refine rx_w_if (c := (lg_cmp (z3 &&& (hl3 78 j5)) (0 : Int64)) = 0) ⟨fun c6 => ?_, fun c6 => ?_⟩
    · have k := k.1 c6
      show rx_aw 64 81 [.ref 77, .ref (rx_ct c0), .int a1, .int a2, .int a3, .int a4, .int a5, .long z3, rx_no, rx_no, rx_no] [] (rx_hp L t hi3 hl3 v3) Q
      refine rx_aw_s 2 (pc := 81) rfl ?_
      show rx_aw 64 84 [.ref 77, .ref (rx_ct c0), .int a1, .int a2, .int a3, .int a4, .int a5, .long z3, rx_no, .int (0 : Int32), rx_no] [] (rx_hp L t hi3 hl3 v3) Q
      exact k
    · have k := k.2 c6
      show rx_aw 64 79 [.ref 77, .ref (rx_ct c0), .int a1, .int a2, .int a3, .int a4, .int a5, .long z3, rx_no, rx_no, rx_no] [] (rx_hp L t hi3 hl3 v3) Q
      refine rx_aw_s 1 (pc := 79) rfl ?_
      show rx_aw 64 80 [.ref 77, .ref (rx_ct c0), .int a1, .int a2, .int a3, .int a4, .int a5, .long z3, rx_no, rx_no, rx_no] [.int (-1 : Int32)] (rx_hp L t hi3 hl3 v3) Q
      exact rx_aw_ret (pc := 80) rfl k
  · have k := k.2 c4
    show rx_aw 64 54 [.ref 77, .ref (rx_ct c0), .int a1, .int a2, .int a3, .int a4, .int a5, .long z3, rx_no, rx_no, rx_no] [] (rx_hp L t hi3 hl3 v3) Q
    refine rx_aw_s 2 (pc := 54) rfl ?_
    show rx_aw 64 57 [.ref 77, .ref (rx_ct c0), .int a1, .int a2, .int a3, .int a4, .int a5, .long z3, rx_no, rx_no, rx_no] [.ref (rx_ct c0), .long z3] (rx_hp L t hi3 hl3 v3) Q
    refine rx_w_cr hc0 (pc := 57) rfl (by decide) ?_
    show rx_aw 64 60 [.ref 77, .ref (rx_ct c0), .int a1, .int a2, .int a3, .int a4, .int a5, .long z3, rx_no, rx_no, rx_no] [.ref (rx_ct c0 + 5), .long z3] (rx_hp L t hi3 hl3 v3) Q
    refine rx_aw_s 1 (pc := 60) rfl ?_
    show rx_aw 64 61 [.ref 77, .ref (rx_ct c0), .int a1, .int a2, .int a3, .int a4, .int a5, .long z3, rx_no, rx_no, rx_no] [.int a2, .ref (rx_ct c0 + 5), .long z3] (rx_hp L t hi3 hl3 v3) Q
    obtain ⟨j7, ej7, hj7, k⟩ := k
    refine rx_aw_lald (pc := 61) (n := 402) j7 ej7 rfl (rx_ck (rx_cart_s hc0).2.2.2.2.2) (Nat.lt_of_lt_of_le (rx_ct_pos _) (Nat.le_add_right _ _)) (rx_cle (rx_cart_s hc0).2.2.2.2.2) hj7 (by decide) ?_
    show rx_aw 64 62 [.ref 77, .ref (rx_ct c0), .int a1, .int a2, .int a3, .int a4, .int a5, .long z3, rx_no, rx_no, rx_no] [.long (hl3 (rx_ct c0 + 5) j7), .long z3] (rx_hp L t hi3 hl3 v3) Q
    refine rx_aw_s 6 (pc := 62) rfl ?_
    show rx_aw 64 72 [.ref 77, .ref (rx_ct c0), .int a1, .int a2, .int a3, .int a4, .int a5, .long (z3 ||| (hl3 (rx_ct c0 + 5) j7)), rx_no, rx_no, rx_no] [.int a2, .ref 78, .long (z3 ||| (hl3 (rx_ct c0 + 5) j7))] (rx_hp L t hi3 hl3 v3) Q
    obtain ⟨j8, ej8, hj8, k⟩ := k
    refine rx_aw_lald (pc := 72) (n := 402) j8 ej8 rfl rfl (by decide) rfl hj8 (by decide) ?_
    show rx_aw 64 73 [.ref 77, .ref (rx_ct c0), .int a1, .int a2, .int a3, .int a4, .int a5, .long (z3 ||| (hl3 (rx_ct c0 + 5) j7)), rx_no, rx_no, rx_no] [.long (hl3 78 j8), .long (z3 ||| (hl3 (rx_ct c0 + 5) j7))] (rx_hp L t hi3 hl3 v3) Q
    refine rx_aw_s 4 (pc := 73) rfl ?_
    refine rx_w_if (c := (lg_cmp ((z3 ||| (hl3 (rx_ct c0 + 5) j7)) &&& (hl3 78 j8)) (0 : Int64)) = 0) ⟨fun c9 => ?_, fun c9 => ?_⟩
    · have k := k.1 c9
      show rx_aw 64 81 [.ref 77, .ref (rx_ct c0), .int a1, .int a2, .int a3, .int a4, .int a5, .long (z3 ||| (hl3 (rx_ct c0 + 5) j7)), rx_no, rx_no, rx_no] [] (rx_hp L t hi3 hl3 v3) Q
      refine rx_aw_s 2 (pc := 81) rfl ?_
      show rx_aw 64 84 [.ref 77, .ref (rx_ct c0), .int a1, .int a2, .int a3, .int a4, .int a5, .long (z3 ||| (hl3 (rx_ct c0 + 5) j7)), rx_no, .int (0 : Int32), rx_no] [] (rx_hp L t hi3 hl3 v3) Q
      exact k
    · have k := k.2 c9
      show rx_aw 64 79 [.ref 77, .ref (rx_ct c0), .int a1, .int a2, .int a3, .int a4, .int a5, .long (z3 ||| (hl3 (rx_ct c0 + 5) j7)), rx_no, rx_no, rx_no] [] (rx_hp L t hi3 hl3 v3) Q
      refine rx_aw_s 1 (pc := 79) rfl ?_
      show rx_aw 64 80 [.ref 77, .ref (rx_ct c0), .int a1, .int a2, .int a3, .int a4, .int a5, .long (z3 ||| (hl3 (rx_ct c0 + 5) j7)), rx_no, rx_no, rx_no] [.int (-1 : Int32)] (rx_hp L t hi3 hl3 v3) Q
      exact rx_aw_ret (pc := 80) rfl k
theorem w64_go_84 {L : Nat} {t : List (Nat × Nat)} {hi : Nat → Nat → Int32} {hl : Nat → Nat → Int64} {v : Nat → Nat → Option Nat} {Q : Option Value → rx_H → Prop} {c0 : Nat} (hc0 : c0 < 6) {x2 : Int32} {x3 : Int32} {x4 : Int32} {x5 : Int32} {x6 : Int32} {x7 : Int64} {x9 : Int32} (k : (((4 : Int32) ≤ x9 → rx_me 67 [.ref 77, .int x3] (rx_hp L t hi hl v) (fun r h2 => ∃ z11 : Int32, r = some (.int z11) ∧ rx_ok2 L t h2 (fun hi11 hl11 v11 => ((0 ≤ z11 → rx_aw 64 147 [.ref 77, .ref (rx_ct c0), .int x2, .int x3, .int x4, .int x5, .int x6, .long x7, rx_no, .int z11, .int (z11 - (1 : Int32))] [] (rx_hp L t hi11 hl11 v11) Q) ∧ (¬ (0 ≤ z11) → Q (some (.int (-1 : Int32))) (rx_hp L t hi11 hl11 v11)))))) ∧ (¬ ((4 : Int32) ≤ x9) → rx_me 16 [.int x2] (rx_hp L t hi hl v) (fun r h2 => ∃ z13 : Int32, r = some (.int z13) ∧ rx_ok2 L t h2 (fun hi13 hl13 v13 => ((x9 = z13 → rx_me 8 [.int x2] (rx_hp L t hi13 hl13 v13) (fun r h2 => ∃ z15 : Int32, r = some (.int z15) ∧ rx_ok2 L t h2 (fun hi15 hl15 v15 => rx_me 9 [.int z15] (rx_hp L t hi15 hl15 v15) (fun r h2 => ∃ z16 : Int64, r = some (.long z16) ∧ rx_ok2 L t h2 (fun hi16 hl16 v16 => (∃ j17 : Nat, (((4 : Int32) * x3) + x9) = nI j17 ∧ j17 < 1608 ∧ rx_aw 64 84 [.ref 77, .ref (rx_ct c0), .int x2, .int x3, .int x4, .int x5, .int x6, .long x7, rx_no, .int (x9 + (1 : Int32)), rx_no] [] (rx_hp L t hi16 (rx_u hl16 80 j17 z16) v16) Q)))))) ∧ (¬ (x9 = z13) → (∃ j18 : Nat, (((4 : Int32) * x3) + x9) = nI j18 ∧ j18 < 1608 ∧ rx_aw 64 84 [.ref 77, .ref (rx_ct c0), .int x2, .int x3, .int x4, .int x5, .int x6, .long x7, rx_no, .int (x9 + (1 : Int32)), rx_no] [] (rx_hp L t hi13 (rx_u hl13 80 j18 (0 : Int64)) v13) Q)))))))) : rx_aw 64 84 [.ref 77, .ref (rx_ct c0), .int x2, .int x3, .int x4, .int x5, .int x6, .long x7, rx_no, .int x9, rx_no] [] (rx_hp L t hi hl v) Q := by
  refine rx_aw_s 3 (pc := 84) rfl ?_
  refine rx_w_if (c := (4 : Int32) ≤ x9) ⟨fun c10 => ?_, fun c10 => ?_⟩
  · have k := k.1 c10
    show rx_aw 64 127 [.ref 77, .ref (rx_ct c0), .int x2, .int x3, .int x4, .int x5, .int x6, .long x7, rx_no, .int x9, rx_no] [] (rx_hp L t hi hl v) Q
    refine rx_aw_s 2 (pc := 127) rfl ?_
    show rx_aw 64 129 [.ref 77, .ref (rx_ct c0), .int x2, .int x3, .int x4, .int x5, .int x6, .long x7, rx_no, .int x9, rx_no] [.int x3, .ref 77] (rx_hp L t hi hl v) Q
    refine rx_w_callI (j := 67) (pc := 129) rfl rfl rfl rfl rfl ?_
    refine rx_aw.mono k (fun r h2 k => ?_)
    obtain ⟨z11, rfl, hi11, hl11, v11, rfl, k⟩ := k
    refine ⟨z11, rfl, ?_⟩
    show rx_aw 64 132 [.ref 77, .ref (rx_ct c0), .int x2, .int x3, .int x4, .int x5, .int x6, .long x7, rx_no, .int x9, rx_no] [.int z11] (rx_hp L t hi11 hl11 v11) Q
    refine rx_aw_s 3 (pc := 132) rfl ?_
    refine rx_w_if (c := 0 ≤ z11) ⟨fun c12 => ?_, fun c12 => ?_⟩
    · have k := k.1 c12
      show rx_aw 64 141 [.ref 77, .ref (rx_ct c0), .int x2, .int x3, .int x4, .int x5, .int x6, .long x7, rx_no, .int z11, rx_no] [] (rx_hp L t hi11 hl11 v11) Q
      refine rx_aw_s 4 (pc := 141) rfl ?_
      show rx_aw 64 147 [.ref 77, .ref (rx_ct c0), .int x2, .int x3, .int x4, .int x5, .int x6, .long x7, rx_no, .int z11, .int (z11 - (1 : Int32))] [] (rx_hp L t hi11 hl11 v11) Q
      exact k
    · have k := k.2 c12
      show rx_aw 64 139 [.ref 77, .ref (rx_ct c0), .int x2, .int x3, .int x4, .int x5, .int x6, .long x7, rx_no, .int z11, rx_no] [] (rx_hp L t hi11 hl11 v11) Q
      refine rx_aw_s 1 (pc := 139) rfl ?_
      show rx_aw 64 140 [.ref 77, .ref (rx_ct c0), .int x2, .int x3, .int x4, .int x5, .int x6, .long x7, rx_no, .int z11, rx_no] [.int (-1 : Int32)] (rx_hp L t hi11 hl11 v11) Q
      exact rx_aw_ret (pc := 140) rfl k
  · have k := k.2 c10
    show rx_aw 64 90 [.ref 77, .ref (rx_ct c0), .int x2, .int x3, .int x4, .int x5, .int x6, .long x7, rx_no, .int x9, rx_no] [] (rx_hp L t hi hl v) Q
    refine rx_aw_s 9 (pc := 90) rfl ?_
    show rx_aw 64 103 [.ref 77, .ref (rx_ct c0), .int x2, .int x3, .int x4, .int x5, .int x6, .long x7, rx_no, .int x9, rx_no] [.int x2, .int x9, .int (((4 : Int32) * x3) + x9), .ref 80] (rx_hp L t hi hl v) Q
    refine rx_w_callI (j := 16) (pc := 103) rfl rfl rfl rfl rfl ?_
    refine rx_aw.mono k (fun r h2 k => ?_)
    obtain ⟨z13, rfl, hi13, hl13, v13, rfl, k⟩ := k
    refine ⟨z13, rfl, ?_⟩
    show rx_aw 64 106 [.ref 77, .ref (rx_ct c0), .int x2, .int x3, .int x4, .int x5, .int x6, .long x7, rx_no, .int x9, rx_no] [.int z13, .int x9, .int (((4 : Int32) * x3) + x9), .ref 80] (rx_hp L t hi13 hl13 v13) Q
    refine rx_aw_s 1 (pc := 106) rfl ?_
    refine rx_w_ifn (c := x9 = z13) ⟨fun c14 => ?_, fun c14 => ?_⟩
    · have k := k.1 c14
      show rx_aw 64 109 [.ref 77, .ref (rx_ct c0), .int x2, .int x3, .int x4, .int x5, .int x6, .long x7, rx_no, .int x9, rx_no] [.int (((4 : Int32) * x3) + x9), .ref 80] (rx_hp L t hi13 hl13 v13) Q
      refine rx_aw_s 1 (pc := 109) rfl ?_
      show rx_aw 64 110 [.ref 77, .ref (rx_ct c0), .int x2, .int x3, .int x4, .int x5, .int x6, .long x7, rx_no, .int x9, rx_no] [.int x2, .int (((4 : Int32) * x3) + x9), .ref 80] (rx_hp L t hi13 hl13 v13) Q
      refine rx_w_callI (j := 8) (pc := 110) rfl rfl rfl rfl rfl ?_
      refine rx_aw.mono k (fun r h2 k => ?_)
      obtain ⟨z15, rfl, hi15, hl15, v15, rfl, k⟩ := k
      refine ⟨z15, rfl, ?_⟩
      show rx_aw 64 113 [.ref 77, .ref (rx_ct c0), .int x2, .int x3, .int x4, .int x5, .int x6, .long x7, rx_no, .int x9, rx_no] [.int z15, .int (((4 : Int32) * x3) + x9), .ref 80] (rx_hp L t hi15 hl15 v15) Q
      refine rx_w_callL (j := 9) (pc := 113) rfl rfl rfl rfl rfl ?_
      refine rx_aw.mono k (fun r h2 k => ?_)
      obtain ⟨z16, rfl, hi16, hl16, v16, rfl, k⟩ := k
      refine ⟨z16, rfl, ?_⟩
      show rx_aw 64 116 [.ref 77, .ref (rx_ct c0), .int x2, .int x3, .int x4, .int x5, .int x6, .long x7, rx_no, .int x9, rx_no] [.long z16, .int (((4 : Int32) * x3) + x9), .ref 80] (rx_hp L t hi16 hl16 v16) Q
      refine rx_aw_s 1 (pc := 116) rfl ?_
      show rx_aw 64 120 [.ref 77, .ref (rx_ct c0), .int x2, .int x3, .int x4, .int x5, .int x6, .long x7, rx_no, .int x9, rx_no] [.long z16, .int (((4 : Int32) * x3) + x9), .ref 80] (rx_hp L t hi16 hl16 v16) Q
      obtain ⟨j17, ej17, hj17, k⟩ := k
      refine rx_aw_last (pc := 120) (n := 1608) j17 ej17 rfl rfl (by decide) rfl hj17 (by decide) ?_
      show rx_aw 64 121 [.ref 77, .ref (rx_ct c0), .int x2, .int x3, .int x4, .int x5, .int x6, .long x7, rx_no, .int x9, rx_no] [] (rx_hp L t hi16 (rx_u hl16 80 j17 z16) v16) Q
      refine rx_aw_s 2 (pc := 121) rfl ?_
      show rx_aw 64 84 [.ref 77, .ref (rx_ct c0), .int x2, .int x3, .int x4, .int x5, .int x6, .long x7, rx_no, .int (x9 + (1 : Int32)), rx_no] [] (rx_hp L t hi16 (rx_u hl16 80 j17 z16) v16) Q
      exact k
    · have k := k.2 c14
      show rx_aw 64 119 [.ref 77, .ref (rx_ct c0), .int x2, .int x3, .int x4, .int x5, .int x6, .long x7, rx_no, .int x9, rx_no] [.int (((4 : Int32) * x3) + x9), .ref 80] (rx_hp L t hi13 hl13 v13) Q
      refine rx_aw_s 1 (pc := 119) rfl ?_
      show rx_aw 64 120 [.ref 77, .ref (rx_ct c0), .int x2, .int x3, .int x4, .int x5, .int x6, .long x7, rx_no, .int x9, rx_no] [.long (0 : Int64), .int (((4 : Int32) * x3) + x9), .ref 80] (rx_hp L t hi13 hl13 v13) Q
      obtain ⟨j18, ej18, hj18, k⟩ := k
      refine rx_aw_last (pc := 120) (n := 1608) j18 ej18 rfl rfl (by decide) rfl hj18 (by decide) ?_
      show rx_aw 64 121 [.ref 77, .ref (rx_ct c0), .int x2, .int x3, .int x4, .int x5, .int x6, .long x7, rx_no, .int x9, rx_no] [] (rx_hp L t hi13 (rx_u hl13 80 j18 (0 : Int64)) v13) Q
      refine rx_aw_s 2 (pc := 121) rfl ?_
      show rx_aw 64 84 [.ref 77, .ref (rx_ct c0), .int x2, .int x3, .int x4, .int x5, .int x6, .long x7, rx_no, .int (x9 + (1 : Int32)), rx_no] [] (rx_hp L t hi13 (rx_u hl13 80 j18 (0 : Int64)) v13) Q
      exact k
theorem w64_go_147 {L : Nat} {t : List (Nat × Nat)} {hi : Nat → Nat → Int32} {hl : Nat → Nat → Int64} {v : Nat → Nat → Option Nat} {Q : Option Value → rx_H → Prop} {c0 : Nat} (hc0 : c0 < 6) {x2 : Int32} {x3 : Int32} {x4 : Int32} {x5 : Int32} {x6 : Int32} {x7 : Int64} {x9 : Int32} {x10 : Int32} (k : ((x10 < x3 → rx_me 82 [.ref 77, .int x2, .int x3, .int x9] (rx_hp L t hi hl v) (fun r h2 => r = none ∧ rx_ok2 L t h2 (fun hi20 hl20 v20 => Q (some (.int x9)) (rx_hp L t hi20 hl20 v20)))) ∧ (¬ (x10 < x3) → rx_me 77 [.ref 77, .int x10] (rx_hp L t hi hl v) (fun r h2 => r = none ∧ rx_ok2 L t h2 (fun hi21 hl21 v21 => rx_aw 64 147 [.ref 77, .ref (rx_ct c0), .int x2, .int x3, .int x4, .int x5, .int x6, .long x7, rx_no, .int x9, .int (x10 + (-1 : Int32))] [] (rx_hp L t hi21 hl21 v21) Q))))) : rx_aw 64 147 [.ref 77, .ref (rx_ct c0), .int x2, .int x3, .int x4, .int x5, .int x6, .long x7, rx_no, .int x9, .int x10] [] (rx_hp L t hi hl v) Q := by
  refine rx_aw_s 3 (pc := 147) rfl ?_
  refine rx_w_if (c := x10 < x3) ⟨fun c19 => ?_, fun c19 => ?_⟩
  · have k := k.1 c19
    show rx_aw 64 165 [.ref 77, .ref (rx_ct c0), .int x2, .int x3, .int x4, .int x5, .int x6, .long x7, rx_no, .int x9, .int x10] [] (rx_hp L t hi hl v) Q
    refine rx_aw_s 4 (pc := 165) rfl ?_
    show rx_aw 64 170 [.ref 77, .ref (rx_ct c0), .int x2, .int x3, .int x4, .int x5, .int x6, .long x7, rx_no, .int x9, .int x10] [.int x9, .int x3, .int x2, .ref 77] (rx_hp L t hi hl v) Q
    refine rx_w_callV (j := 82) (pc := 170) rfl rfl rfl rfl rfl ?_
    refine rx_aw.mono k (fun r h2 k => ?_)
    obtain ⟨rfl, hi20, hl20, v20, rfl, k⟩ := k
    refine ⟨rfl, ?_⟩
    show rx_aw 64 173 [.ref 77, .ref (rx_ct c0), .int x2, .int x3, .int x4, .int x5, .int x6, .long x7, rx_no, .int x9, .int x10] [] (rx_hp L t hi20 hl20 v20) Q
    refine rx_aw_s 1 (pc := 173) rfl ?_
    show rx_aw 64 175 [.ref 77, .ref (rx_ct c0), .int x2, .int x3, .int x4, .int x5, .int x6, .long x7, rx_no, .int x9, .int x10] [.int x9] (rx_hp L t hi20 hl20 v20) Q
    exact rx_aw_ret (pc := 175) rfl k
  · have k := k.2 c19
    show rx_aw 64 153 [.ref 77, .ref (rx_ct c0), .int x2, .int x3, .int x4, .int x5, .int x6, .long x7, rx_no, .int x9, .int x10] [] (rx_hp L t hi hl v) Q
    refine rx_aw_s 2 (pc := 153) rfl ?_
    show rx_aw 64 156 [.ref 77, .ref (rx_ct c0), .int x2, .int x3, .int x4, .int x5, .int x6, .long x7, rx_no, .int x9, .int x10] [.int x10, .ref 77] (rx_hp L t hi hl v) Q
    refine rx_w_callV (j := 77) (pc := 156) rfl rfl rfl rfl rfl ?_
    refine rx_aw.mono k (fun r h2 k => ?_)
    obtain ⟨rfl, hi21, hl21, v21, rfl, k⟩ := k
    refine ⟨rfl, ?_⟩
    show rx_aw 64 159 [.ref 77, .ref (rx_ct c0), .int x2, .int x3, .int x4, .int x5, .int x6, .long x7, rx_no, .int x9, .int x10] [] (rx_hp L t hi21 hl21 v21) Q
    refine rx_aw_s 2 (pc := 159) rfl ?_
    show rx_aw 64 147 [.ref 77, .ref (rx_ct c0), .int x2, .int x3, .int x4, .int x5, .int x6, .long x7, rx_no, .int x9, .int (x10 + (-1 : Int32))] [] (rx_hp L t hi21 hl21 v21) Q
    exact k
/-- CartFloor$Search.findTaboo(II)V -/
theorem w65_findTaboo {L : Nat} {t : List (Nat × Nat)} {hi : Nat → Nat → Int32} {hl : Nat → Nat → Int64} {v : Nat → Nat → Option Nat} {Q : Option Value → rx_H → Prop} {a0 : Int32} {a1 : Int32} (k : (((v 77 8) = none ∧ rx_me 36 [.ref 13, .null] (rx_hp L t hi hl v) (fun r h2 => ∃ z2 : Int32, r = some (.int z2) ∧ rx_ok2 L t h2 (fun hi2 hl2 v2 => rx_aw 65 29 [.ref 77, .int a0, .int a1, .long (0 : Int64), rx_no, .int ((rx_u hi2 77 9 (if a1 < (z2 + (1 : Int32)) then (z2 + (1 : Int32)) else a1)) 77 9)] [] (rx_hp L t (rx_u hi2 77 9 (if a1 < (z2 + (1 : Int32)) then (z2 + (1 : Int32)) else a1)) hl2 v2) Q))) ∨ (∃ q1 : Nat, q1 < 6 ∧ (v 77 8) = some (rx_ct q1) ∧ rx_me 36 [.ref 13, .ref (rx_ct q1)] (rx_hp L t hi hl v) (fun r h2 => ∃ z3 : Int32, r = some (.int z3) ∧ rx_ok2 L t h2 (fun hi3 hl3 v3 => rx_aw 65 29 [.ref 77, .int a0, .int a1, .long (0 : Int64), rx_no, .int ((rx_u hi3 77 9 (if a1 < (z3 + (1 : Int32)) then (z3 + (1 : Int32)) else a1)) 77 9)] [] (rx_hp L t (rx_u hi3 77 9 (if a1 < (z3 + (1 : Int32)) then (z3 + (1 : Int32)) else a1)) hl3 v3) Q))))) : rx_me 65 [.ref 77, .int a0, .int a1] (rx_hp L t hi hl v) Q := by
  show rx_aw 65 0 [.ref 77, .int a0, .int a1, rx_no, rx_no, rx_no] [] (rx_hp L t hi hl v) Q
  refine rx_aw_s 6 (pc := 0) rfl ?_
  show rx_aw 65 10 [.ref 77, .int a0, .int a1, rx_no, rx_no, rx_no] [va_rf (v 77 8), .ref 13, .int a1, .ref 77] (rx_hp L t hi hl v) Q
  rcases k with ⟨eq1, k⟩ | ⟨q1, hq1, eq1, k⟩
  · rw [eq1]
    show rx_aw 65 10 [.ref 77, .int a0, .int a1, rx_no, rx_no, rx_no] [.null, .ref 13, .int a1, .ref 77] (rx_hp L t hi hl v) Q
    refine rx_w_callI (j := 36) (pc := 10) rfl rfl rfl rfl rfl ?_
    refine rx_aw.mono k (fun r h2 k => ?_)
    obtain ⟨z2, rfl, hi2, hl2, v2, rfl, k⟩ := k
    refine ⟨z2, rfl, ?_⟩
    show rx_aw 65 13 [.ref 77, .int a0, .int a1, rx_no, rx_no, rx_no] [.int z2, .int a1, .ref 77] (rx_hp L t hi2 hl2 v2) Q
    refine rx_aw_s 9 (pc := 13) rfl ?_
    show rx_aw 65 29 [.ref 77, .int a0, .int a1, .long (0 : Int64), rx_no, .int ((rx_u hi2 77 9 (if a1 < (z2 + (1 : Int32)) then (z2 + (1 : Int32)) else a1)) 77 9)] [] (rx_hp L t (rx_u hi2 77 9 (if a1 < (z2 + (1 : Int32)) then (z2 + (1 : Int32)) else a1)) hl2 v2) Q
    exact k
  · rw [eq1]
    show rx_aw 65 10 [.ref 77, .int a0, .int a1, rx_no, rx_no, rx_no] [.ref (rx_ct q1), .ref 13, .int a1, .ref 77] (rx_hp L t hi hl v) Q
    refine rx_w_callI (j := 36) (pc := 10) rfl rfl rfl rfl rfl ?_
    refine rx_aw.mono k (fun r h2 k => ?_)
    obtain ⟨z3, rfl, hi3, hl3, v3, rfl, k⟩ := k
    refine ⟨z3, rfl, ?_⟩
    show rx_aw 65 13 [.ref 77, .int a0, .int a1, rx_no, rx_no, rx_no] [.int z3, .int a1, .ref 77] (rx_hp L t hi3 hl3 v3) Q
    refine rx_aw_s 9 (pc := 13) rfl ?_
    show rx_aw 65 29 [.ref 77, .int a0, .int a1, .long (0 : Int64), rx_no, .int ((rx_u hi3 77 9 (if a1 < (z3 + (1 : Int32)) then (z3 + (1 : Int32)) else a1)) 77 9)] [] (rx_hp L t (rx_u hi3 77 9 (if a1 < (z3 + (1 : Int32)) then (z3 + (1 : Int32)) else a1)) hl3 v3) Q
    exact k
theorem w65_findTaboo_29 {L : Nat} {t : List (Nat × Nat)} {hi : Nat → Nat → Int32} {hl : Nat → Nat → Int64} {v : Nat → Nat → Option Nat} {Q : Option Value → rx_H → Prop} {x1 : Int32} {x2 : Int32} {x3 : Int64} {x5 : Int32} (k : ((x5 < x2 → Q none (rx_hp L t hi hl v)) ∧ (¬ (x5 < x2) → (((v 77 8) = none ∧ rx_me 66 [.ref 13, .null, .int x1, .int x5] (rx_hp L t hi hl v) (fun r h2 => ∃ z6 : Int64, r = some (.long z6) ∧ rx_ok2 L t h2 (fun hi6 hl6 v6 => (∃ j7 : Nat, x5 = nI j7 ∧ j7 < 402 ∧ (∃ j8 : Nat, x5 = nI j8 ∧ j8 < 402 ∧ (∃ j9 : Nat, x5 = nI j9 ∧ j9 < 402 ∧ rx_aw 65 29 [.ref 77, .int x1, .int x2, .long (x3 ||| ((rx_u hl6 78 j7 z6) 78 j8)), rx_no, .int (x5 + (-1 : Int32))] [] (rx_hp L t hi6 (rx_u (rx_u hl6 78 j7 z6) 79 j9 (x3 ||| ((rx_u hl6 78 j7 z6) 78 j8))) v6) Q)))))) ∨ (∃ q5 : Nat, q5 < 6 ∧ (v 77 8) = some (rx_ct q5) ∧ rx_me 66 [.ref 13, .ref (rx_ct q5), .int x1, .int x5] (rx_hp L t hi hl v) (fun r h2 => ∃ z10 : Int64, r = some (.long z10) ∧ rx_ok2 L t h2 (fun hi10 hl10 v10 => (∃ j11 : Nat, x5 = nI j11 ∧ j11 < 402 ∧ (∃ j12 : Nat, x5 = nI j12 ∧ j12 < 402 ∧ (∃ j13 : Nat, x5 = nI j13 ∧ j13 < 402 ∧ rx_aw 65 29 [.ref 77, .int x1, .int x2, .long (x3 ||| ((rx_u hl10 78 j11 z10) 78 j12)), rx_no, .int (x5 + (-1 : Int32))] [] (rx_hp L t hi10 (rx_u (rx_u hl10 78 j11 z10) 79 j13 (x3 ||| ((rx_u hl10 78 j11 z10) 78 j12))) v10) Q)))))))))) : rx_aw 65 29 [.ref 77, .int x1, .int x2, .long x3, rx_no, .int x5] [] (rx_hp L t hi hl v) Q := by
  refine rx_aw_s 3 (pc := 29) rfl ?_
  refine rx_w_if (c := x5 < x2) ⟨fun c4 => ?_, fun c4 => ?_⟩
  · have k := k.1 c4
    show rx_aw 65 80 [.ref 77, .int x1, .int x2, .long x3, rx_no, .int x5] [] (rx_hp L t hi hl v) Q
    exact rx_aw_ret (pc := 80) rfl k
  · have k := k.2 c4
    show rx_aw 65 35 [.ref 77, .int x1, .int x2, .long x3, rx_no, .int x5] [] (rx_hp L t hi hl v) Q
    refine rx_aw_s 7 (pc := 35) rfl ?_
    show rx_aw 65 49 [.ref 77, .int x1, .int x2, .long x3, rx_no, .int x5] [va_rf (v 77 8), .ref 13, .int x5, .ref 78] (rx_hp L t hi hl v) Q
    rcases k with ⟨eq5, k⟩ | ⟨q5, hq5, eq5, k⟩
    · rw [eq5]
      show rx_aw 65 49 [.ref 77, .int x1, .int x2, .long x3, rx_no, .int x5] [.null, .ref 13, .int x5, .ref 78] (rx_hp L t hi hl v) Q
      refine rx_aw_s 2 (pc := 49) rfl ?_
      show rx_aw 65 52 [.ref 77, .int x1, .int x2, .long x3, rx_no, .int x5] [.int x5, .int x1, .null, .ref 13, .int x5, .ref 78] (rx_hp L t hi hl v) Q
      refine rx_w_callL (j := 66) (pc := 52) rfl rfl rfl rfl rfl ?_
      refine rx_aw.mono k (fun r h2 k => ?_)
      obtain ⟨z6, rfl, hi6, hl6, v6, rfl, k⟩ := k
      refine ⟨z6, rfl, ?_⟩
      show rx_aw 65 55 [.ref 77, .int x1, .int x2, .long x3, rx_no, .int x5] [.long z6, .int x5, .ref 78] (rx_hp L t hi6 hl6 v6) Q
      obtain ⟨j7, ej7, hj7, k⟩ := k
      refine rx_aw_last (pc := 55) (n := 402) j7 ej7 rfl rfl (by decide) rfl hj7 (by decide) ?_
      show rx_aw 65 56 [.ref 77, .int x1, .int x2, .long x3, rx_no, .int x5] [] (rx_hp L t hi6 (rx_u hl6 78 j7 z6) v6) Q
      refine rx_aw_s 4 (pc := 56) rfl ?_
      show rx_aw 65 63 [.ref 77, .int x1, .int x2, .long x3, rx_no, .int x5] [.int x5, .ref 78, .long x3] (rx_hp L t hi6 (rx_u hl6 78 j7 z6) v6) Q
      obtain ⟨j8, ej8, hj8, k⟩ := k
      refine rx_aw_lald (pc := 63) (n := 402) j8 ej8 rfl rfl (by decide) rfl hj8 (by decide) ?_
      show rx_aw 65 64 [.ref 77, .int x1, .int x2, .long x3, rx_no, .int x5] [.long ((rx_u hl6 78 j7 z6) 78 j8), .long x3] (rx_hp L t hi6 (rx_u hl6 78 j7 z6) v6) Q
      refine rx_aw_s 6 (pc := 64) rfl ?_
      show rx_aw 65 73 [.ref 77, .int x1, .int x2, .long (x3 ||| ((rx_u hl6 78 j7 z6) 78 j8)), rx_no, .int x5] [.long (x3 ||| ((rx_u hl6 78 j7 z6) 78 j8)), .int x5, .ref 79] (rx_hp L t hi6 (rx_u hl6 78 j7 z6) v6) Q
      obtain ⟨j9, ej9, hj9, k⟩ := k
      refine rx_aw_last (pc := 73) (n := 402) j9 ej9 rfl rfl (by decide) rfl hj9 (by decide) ?_
      show rx_aw 65 74 [.ref 77, .int x1, .int x2, .long (x3 ||| ((rx_u hl6 78 j7 z6) 78 j8)), rx_no, .int x5] [] (rx_hp L t hi6 (rx_u (rx_u hl6 78 j7 z6) 79 j9 (x3 ||| ((rx_u hl6 78 j7 z6) 78 j8))) v6) Q
      refine rx_aw_s 2 (pc := 74) rfl ?_
      show rx_aw 65 29 [.ref 77, .int x1, .int x2, .long (x3 ||| ((rx_u hl6 78 j7 z6) 78 j8)), rx_no, .int (x5 + (-1 : Int32))] [] (rx_hp L t hi6 (rx_u (rx_u hl6 78 j7 z6) 79 j9 (x3 ||| ((rx_u hl6 78 j7 z6) 78 j8))) v6) Q
      exact k
    · rw [eq5]
      show rx_aw 65 49 [.ref 77, .int x1, .int x2, .long x3, rx_no, .int x5] [.ref (rx_ct q5), .ref 13, .int x5, .ref 78] (rx_hp L t hi hl v) Q
      refine rx_aw_s 2 (pc := 49) rfl ?_
      show rx_aw 65 52 [.ref 77, .int x1, .int x2, .long x3, rx_no, .int x5] [.int x5, .int x1, .ref (rx_ct q5), .ref 13, .int x5, .ref 78] (rx_hp L t hi hl v) Q
      refine rx_w_callL (j := 66) (pc := 52) rfl rfl rfl rfl rfl ?_
      refine rx_aw.mono k (fun r h2 k => ?_)
      obtain ⟨z10, rfl, hi10, hl10, v10, rfl, k⟩ := k
      refine ⟨z10, rfl, ?_⟩
      show rx_aw 65 55 [.ref 77, .int x1, .int x2, .long x3, rx_no, .int x5] [.long z10, .int x5, .ref 78] (rx_hp L t hi10 hl10 v10) Q
      obtain ⟨j11, ej11, hj11, k⟩ := k
      refine rx_aw_last (pc := 55) (n := 402) j11 ej11 rfl rfl (by decide) rfl hj11 (by decide) ?_
      show rx_aw 65 56 [.ref 77, .int x1, .int x2, .long x3, rx_no, .int x5] [] (rx_hp L t hi10 (rx_u hl10 78 j11 z10) v10) Q
      refine rx_aw_s 4 (pc := 56) rfl ?_
      show rx_aw 65 63 [.ref 77, .int x1, .int x2, .long x3, rx_no, .int x5] [.int x5, .ref 78, .long x3] (rx_hp L t hi10 (rx_u hl10 78 j11 z10) v10) Q
      obtain ⟨j12, ej12, hj12, k⟩ := k
      refine rx_aw_lald (pc := 63) (n := 402) j12 ej12 rfl rfl (by decide) rfl hj12 (by decide) ?_
      show rx_aw 65 64 [.ref 77, .int x1, .int x2, .long x3, rx_no, .int x5] [.long ((rx_u hl10 78 j11 z10) 78 j12), .long x3] (rx_hp L t hi10 (rx_u hl10 78 j11 z10) v10) Q
      refine rx_aw_s 6 (pc := 64) rfl ?_
      show rx_aw 65 73 [.ref 77, .int x1, .int x2, .long (x3 ||| ((rx_u hl10 78 j11 z10) 78 j12)), rx_no, .int x5] [.long (x3 ||| ((rx_u hl10 78 j11 z10) 78 j12)), .int x5, .ref 79] (rx_hp L t hi10 (rx_u hl10 78 j11 z10) v10) Q
      obtain ⟨j13, ej13, hj13, k⟩ := k
      refine rx_aw_last (pc := 73) (n := 402) j13 ej13 rfl rfl (by decide) rfl hj13 (by decide) ?_
      show rx_aw 65 74 [.ref 77, .int x1, .int x2, .long (x3 ||| ((rx_u hl10 78 j11 z10) 78 j12)), rx_no, .int x5] [] (rx_hp L t hi10 (rx_u (rx_u hl10 78 j11 z10) 79 j13 (x3 ||| ((rx_u hl10 78 j11 z10) 78 j12))) v10) Q
      refine rx_aw_s 2 (pc := 74) rfl ?_
      show rx_aw 65 29 [.ref 77, .int x1, .int x2, .long (x3 ||| ((rx_u hl10 78 j11 z10) 78 j12)), rx_no, .int (x5 + (-1 : Int32))] [] (rx_hp L t hi10 (rx_u (rx_u hl10 78 j11 z10) 79 j13 (x3 ||| ((rx_u hl10 78 j11 z10) 78 j12))) v10) Q
      exact k
/-- CartFloor$Traffic.blockedFor(LCartFloor$Cart;II)J -/
theorem w66_blockedFor {L : Nat} {t : List (Nat × Nat)} {hi : Nat → Nat → Int32} {hl : Nat → Nat → Int64} {v : Nat → Nat → Option Nat} {Q : Option Value → rx_H → Prop} {c0 : Nat} (hc0 : c0 < 6) {a1 : Int32} {a2 : Int32} (k : rx_aw 66 24 [.ref 13, .ref (rx_ct c0), .int a1, .int a2, .long (((hl 7 2) ^^^ (-1 : Int64)) ||| (hl 7 10)), rx_no, .int (0 : Int32)] [] (rx_hp L t hi hl v) Q) : rx_me 66 [.ref 13, .ref (rx_ct c0), .int a1, .int a2] (rx_hp L t hi hl v) Q := by
  show rx_aw 66 0 [.ref 13, .ref (rx_ct c0), .int a1, .int a2, rx_no, rx_no, rx_no] [] (rx_hp L t hi hl v) Q
  refine rx_aw_s 12 (pc := 0) rfl ?_
  show rx_aw 66 24 [.ref 13, .ref (rx_ct c0), .int a1, .int a2, .long (((hl 7 2) ^^^ (-1 : Int64)) ||| (hl 7 10)), rx_no, .int (0 : Int32)] [] (rx_hp L t hi hl v) Q
  exact k
theorem w66_blockedFor_24 {L : Nat} {t : List (Nat × Nat)} {hi : Nat → Nat → Int32} {hl : Nat → Nat → Int64} {v : Nat → Nat → Option Nat} {Q : Option Value → rx_H → Prop} {c0 : Nat} (hc0 : c0 < 6) {x2 : Int32} {x3 : Int32} {x4 : Int64} {x6 : Int32} (k : (((hi 13 3) ≤ x6 → (((hi (rx_ct c0) 5) = (1 : Int32) → ((0 ≤ x2 → rx_me 37 [.ref 13, .int x3, .int x2] (rx_hp L t hi hl v) (fun r h2 => ∃ z4 : Int64, r = some (.long z4) ∧ rx_ok2 L t h2 (fun hi4 hl4 v4 => Q (some (.long (x4 ||| z4))) (rx_hp L t hi4 hl4 v4)))) ∧ (¬ (0 ≤ x2) → Q (some (.long x4)) (rx_hp L t hi hl v)))) ∧ (¬ ((hi (rx_ct c0) 5) = (1 : Int32)) → rx_me 37 [.ref 13, .int x3, .int x2] (rx_hp L t hi hl v) (fun r h2 => ∃ z5 : Int64, r = some (.long z5) ∧ rx_ok2 L t h2 (fun hi5 hl5 v5 => Q (some (.long (x4 ||| z5))) (rx_hp L t hi5 hl5 v5)))))) ∧ (¬ ((hi 13 3) ≤ x6) → (∃ j6 : Nat, x6 = nI j6 ∧ j6 < 6 ∧ (((some (rx_ct j6) : Option Nat) = (some (rx_ct c0) : Option Nat) → rx_aw 66 24 [.ref 13, .ref (rx_ct c0), .int x2, .int x3, .long x4, rx_no, .int (x6 + (1 : Int32))] [] (rx_hp L t hi hl v) Q) ∧ (¬ ((some (rx_ct j6) : Option Nat) = (some (rx_ct c0) : Option Nat)) → (∃ j8 : Nat, x6 = nI j8 ∧ j8 < 6 ∧ (∃ j9 : Nat, (if (hi 13 5) < x3 then (hi 13 5) else x3) = nI j9 ∧ j9 < 402 ∧ rx_aw 66 24 [.ref 13, .ref (rx_ct c0), .int x2, .int x3, .long (x4 ||| (hl (rx_ct j8 + 5) j9)), rx_no, .int (x6 + (1 : Int32))] [] (rx_hp L t hi hl v) Q)))))))) : rx_aw 66 24 [.ref 13, .ref (rx_ct c0), .int x2, .int x3, .long x4, rx_no, .int x6] [] (rx_hp L t hi hl v) Q := by
  refine rx_aw_s 4 (pc := 24) rfl ?_
  refine rx_w_if (c := (hi 13 3) ≤ x6) ⟨fun c1 => ?_, fun c1 => ?_⟩
  · have k := k.1 c1
    show rx_aw 66 74 [.ref 13, .ref (rx_ct c0), .int x2, .int x3, .long x4, rx_no, .int x6] [] (rx_hp L t hi hl v) Q
    refine rx_aw_s 1 (pc := 74) rfl ?_
    show rx_aw 66 75 [.ref 13, .ref (rx_ct c0), .int x2, .int x3, .long x4, rx_no, .int x6] [.ref (rx_ct c0)] (rx_hp L t hi hl v) Q
    refine rx_w_cg hc0 (pc := 75) rfl (by decide) (by decide) ?_
    show rx_aw 66 78 [.ref 13, .ref (rx_ct c0), .int x2, .int x3, .long x4, rx_no, .int x6] [.int (hi (rx_ct c0) 5)] (rx_hp L t hi hl v) Q
    refine rx_aw_s 2 (pc := 78) rfl ?_
    refine rx_w_ifn (c := (hi (rx_ct c0) 5) = (1 : Int32)) ⟨fun c2 => ?_, fun c2 => ?_⟩
    · have k := k.1 c2
      show rx_aw 66 82 [.ref 13, .ref (rx_ct c0), .int x2, .int x3, .long x4, rx_no, .int x6] [] (rx_hp L t hi hl v) Q
      refine rx_aw_s 2 (pc := 82) rfl ?_
      refine rx_w_if (c := 0 ≤ x2) ⟨fun c3 => ?_, fun c3 => ?_⟩
      · have k := k.1 c3
        show rx_aw 66 91 [.ref 13, .ref (rx_ct c0), .int x2, .int x3, .long x4, rx_no, .int x6] [] (rx_hp L t hi hl v) Q
        refine rx_aw_s 4 (pc := 91) rfl ?_
        show rx_aw 66 96 [.ref 13, .ref (rx_ct c0), .int x2, .int x3, .long x4, rx_no, .int x6] [.int x2, .int x3, .ref 13, .long x4] (rx_hp L t hi hl v) Q
        refine rx_w_callL (j := 37) (pc := 96) rfl rfl rfl rfl rfl ?_
        refine rx_aw.mono k (fun r h2 k => ?_)
        obtain ⟨z4, rfl, hi4, hl4, v4, rfl, k⟩ := k
        refine ⟨z4, rfl, ?_⟩
        show rx_aw 66 99 [.ref 13, .ref (rx_ct c0), .int x2, .int x3, .long x4, rx_no, .int x6] [.long z4, .long x4] (rx_hp L t hi4 hl4 v4) Q
        refine rx_aw_s 1 (pc := 99) rfl ?_
        show rx_aw 66 100 [.ref 13, .ref (rx_ct c0), .int x2, .int x3, .long x4, rx_no, .int x6] [.long (x4 ||| z4)] (rx_hp L t hi4 hl4 v4) Q
        exact rx_aw_ret (pc := 100) rfl k
      · have k := k.2 c3
        show rx_aw 66 86 [.ref 13, .ref (rx_ct c0), .int x2, .int x3, .long x4, rx_no, .int x6] [] (rx_hp L t hi hl v) Q
        refine rx_aw_s 2 (pc := 86) rfl ?_
        show rx_aw 66 100 [.ref 13, .ref (rx_ct c0), .int x2, .int x3, .long x4, rx_no, .int x6] [.long x4] (rx_hp L t hi hl v) Q
        exact rx_aw_ret (pc := 100) rfl k
    · have k := k.2 c2
      show rx_aw 66 91 [.ref 13, .ref (rx_ct c0), .int x2, .int x3, .long x4, rx_no, .int x6] [] (rx_hp L t hi hl v) Q
      refine rx_aw_s 4 (pc := 91) rfl ?_
      show rx_aw 66 96 [.ref 13, .ref (rx_ct c0), .int x2, .int x3, .long x4, rx_no, .int x6] [.int x2, .int x3, .ref 13, .long x4] (rx_hp L t hi hl v) Q
      refine rx_w_callL (j := 37) (pc := 96) rfl rfl rfl rfl rfl ?_
      refine rx_aw.mono k (fun r h2 k => ?_)
      obtain ⟨z5, rfl, hi5, hl5, v5, rfl, k⟩ := k
      refine ⟨z5, rfl, ?_⟩
      show rx_aw 66 99 [.ref 13, .ref (rx_ct c0), .int x2, .int x3, .long x4, rx_no, .int x6] [.long z5, .long x4] (rx_hp L t hi5 hl5 v5) Q
      refine rx_aw_s 1 (pc := 99) rfl ?_
      show rx_aw 66 100 [.ref 13, .ref (rx_ct c0), .int x2, .int x3, .long x4, rx_no, .int x6] [.long (x4 ||| z5)] (rx_hp L t hi5 hl5 v5) Q
      exact rx_aw_ret (pc := 100) rfl k
  · have k := k.2 c1
    show rx_aw 66 33 [.ref 13, .ref (rx_ct c0), .int x2, .int x3, .long x4, rx_no, .int x6] [] (rx_hp L t hi hl v) Q
    refine rx_aw_s 3 (pc := 33) rfl ?_
    show rx_aw 66 39 [.ref 13, .ref (rx_ct c0), .int x2, .int x3, .long x4, rx_no, .int x6] [.int x6, .ref 14] (rx_hp L t hi hl v) Q
    obtain ⟨j6, ej6, hj6, k⟩ := k
    refine rx_w_carts (pc := 39) rfl ⟨j6, ej6, hj6, ?_⟩
    show rx_aw 66 40 [.ref 13, .ref (rx_ct c0), .int x2, .int x3, .long x4, rx_no, .int x6] [.ref (rx_ct j6)] (rx_hp L t hi hl v) Q
    refine rx_aw_s 2 (pc := 40) rfl ?_
    refine rx_w_if (c := (some (rx_ct j6) : Option Nat) = (some (rx_ct c0) : Option Nat)) ⟨fun c7 => ?_, fun c7 => ?_⟩
    · have k := k.1 c7
      show rx_aw 66 68 [.ref 13, .ref (rx_ct c0), .int x2, .int x3, .long x4, rx_no, .int x6] [] (rx_hp L t hi hl v) Q
      refine rx_aw_s 2 (pc := 68) rfl ?_
      show rx_aw 66 24 [.ref 13, .ref (rx_ct c0), .int x2, .int x3, .long x4, rx_no, .int (x6 + (1 : Int32))] [] (rx_hp L t hi hl v) Q
      exact k
    · have k := k.2 c7
      show rx_aw 66 44 [.ref 13, .ref (rx_ct c0), .int x2, .int x3, .long x4, rx_no, .int x6] [] (rx_hp L t hi hl v) Q
      refine rx_aw_s 4 (pc := 44) rfl ?_
      show rx_aw 66 52 [.ref 13, .ref (rx_ct c0), .int x2, .int x3, .long x4, rx_no, .int x6] [.int x6, .ref 14, .long x4] (rx_hp L t hi hl v) Q
      obtain ⟨j8, ej8, hj8, k⟩ := k
      refine rx_w_carts (pc := 52) rfl ⟨j8, ej8, hj8, ?_⟩
      show rx_aw 66 53 [.ref 13, .ref (rx_ct c0), .int x2, .int x3, .long x4, rx_no, .int x6] [.ref (rx_ct j8), .long x4] (rx_hp L t hi hl v) Q
      refine rx_w_cr hj8 (pc := 53) rfl (by decide) ?_
      show rx_aw 66 56 [.ref 13, .ref (rx_ct c0), .int x2, .int x3, .long x4, rx_no, .int x6] [.ref (rx_ct j8 + 5), .long x4] (rx_hp L t hi hl v) Q
      refine rx_aw_s 4 (pc := 56) rfl ?_
      show rx_aw 66 64 [.ref 13, .ref (rx_ct c0), .int x2, .int x3, .long x4, rx_no, .int x6] [.int (if (hi 13 5) < x3 then (hi 13 5) else x3), .ref (rx_ct j8 + 5), .long x4] (rx_hp L t hi hl v) Q
      obtain ⟨j9, ej9, hj9, k⟩ := k
      refine rx_aw_lald (pc := 64) (n := 402) j9 ej9 rfl (rx_ck (rx_cart_s hj8).2.2.2.2.2) (Nat.lt_of_lt_of_le (rx_ct_pos _) (Nat.le_add_right _ _)) (rx_cle (rx_cart_s hj8).2.2.2.2.2) hj9 (by decide) ?_
      show rx_aw 66 65 [.ref 13, .ref (rx_ct c0), .int x2, .int x3, .long x4, rx_no, .int x6] [.long (hl (rx_ct j8 + 5) j9), .long x4] (rx_hp L t hi hl v) Q
      refine rx_aw_s 4 (pc := 65) rfl ?_
      show rx_aw 66 24 [.ref 13, .ref (rx_ct c0), .int x2, .int x3, .long (x4 ||| (hl (rx_ct j8 + 5) j9)), rx_no, .int (x6 + (1 : Int32))] [] (rx_hp L t hi hl v) Q
      exact k
/-- CartFloor$Search.findArrival(I)I -/
theorem w67_findArrival {L : Nat} {t : List (Nat × Nat)} {hi : Nat → Nat → Int32} {hl : Nat → Nat → Int64} {v : Nat → Nat → Option Nat} {Q : Option Value → rx_H → Prop} {a0 : Int32} (k : rx_aw 67 2 [.ref 77, .int a0, .int a0] [] (rx_hp L t hi hl v) Q) : rx_me 67 [.ref 77, .int a0] (rx_hp L t hi hl v) Q := by
  show rx_aw 67 0 [.ref 77, .int a0, rx_no] [] (rx_hp L t hi hl v) Q
  refine rx_aw_s 2 (pc := 0) rfl ?_
  show rx_aw 67 2 [.ref 77, .int a0, .int a0] [] (rx_hp L t hi hl v) Q
  exact k
theorem w67_findArrival_2 {L : Nat} {t : List (Nat × Nat)} {hi : Nat → Nat → Int32} {hl : Nat → Nat → Int64} {v : Nat → Nat → Option Nat} {Q : Option Value → rx_H → Prop} {x1 : Int32} {x2 : Int32} (k : (((400 : Int32) < x2 → Q (some (.int (-1 : Int32))) (rx_hp L t hi hl v)) ∧ (¬ ((400 : Int32) < x2) → rx_me 68 [.ref 77, .int x2] (rx_hp L t hi hl v) (fun r h2 => ∃ z2 : Int32, r = some (.int z2) ∧ rx_ok2 L t h2 (fun hi2 hl2 v2 => ((z2 = 0 → ((x2 = (400 : Int32) → Q (some (.int (-1 : Int32))) (rx_hp L t hi2 hl2 v2)) ∧ (¬ (x2 = (400 : Int32)) → (((v2 77 8) = none ∧ False) ∨ (∃ q5 : Nat, q5 < 6 ∧ (v2 77 8) = some (rx_ct q5) ∧ (((hi2 (rx_ct q5) 5) < (2 : Int32) → rx_me 73 [.ref 77, .int x2] (rx_hp L t hi2 hl2 v2) (fun r h2 => r = none ∧ rx_ok2 L t h2 (fun hi7 hl7 v7 => rx_me 76 [.ref 77, .int x2] (rx_hp L t hi7 hl7 v7) (fun r h2 => ∃ z8 : Int32, r = some (.int z8) ∧ rx_ok2 L t h2 (fun hi8 hl8 v8 => ((z8 = 0 → rx_aw 67 2 [.ref 77, .int x1, .int (x2 + (1 : Int32))] [] (rx_hp L t hi8 hl8 v8) Q) ∧ (¬ (z8 = 0) → Q (some (.int (-1 : Int32))) (rx_hp L t hi8 hl8 v8)))))))) ∧ (¬ ((hi2 (rx_ct q5) 5) < (2 : Int32)) → rx_me 70 [.ref 77, .int x2] (rx_hp L t hi2 hl2 v2) (fun r h2 => r = none ∧ rx_ok2 L t h2 (fun hi10 hl10 v10 => rx_me 76 [.ref 77, .int x2] (rx_hp L t hi10 hl10 v10) (fun r h2 => ∃ z11 : Int32, r = some (.int z11) ∧ rx_ok2 L t h2 (fun hi11 hl11 v11 => ((z11 = 0 → rx_aw 67 2 [.ref 77, .int x1, .int (x2 + (1 : Int32))] [] (rx_hp L t hi11 hl11 v11) Q) ∧ (¬ (z11 = 0) → Q (some (.int (-1 : Int32))) (rx_hp L t hi11 hl11 v11)))))))))))))) ∧ (¬ (z2 = 0) → Q (some (.int x2)) (rx_hp L t hi2 hl2 v2)))))))) : rx_aw 67 2 [.ref 77, .int x1, .int x2] [] (rx_hp L t hi hl v) Q := by
  refine rx_aw_s 3 (pc := 2) rfl ?_
  refine rx_w_if (c := (400 : Int32) < x2) ⟨fun c1 => ?_, fun c1 => ?_⟩
  · have k := k.1 c1
    show rx_aw 67 68 [.ref 77, .int x1, .int x2] [] (rx_hp L t hi hl v) Q
    refine rx_aw_s 1 (pc := 68) rfl ?_
    show rx_aw 67 69 [.ref 77, .int x1, .int x2] [.int (-1 : Int32)] (rx_hp L t hi hl v) Q
    exact rx_aw_ret (pc := 69) rfl k
  · have k := k.2 c1
    show rx_aw 67 9 [.ref 77, .int x1, .int x2] [] (rx_hp L t hi hl v) Q
    refine rx_aw_s 2 (pc := 9) rfl ?_
    show rx_aw 67 11 [.ref 77, .int x1, .int x2] [.int x2, .ref 77] (rx_hp L t hi hl v) Q
    refine rx_w_callI (j := 68) (pc := 11) rfl rfl rfl rfl rfl ?_
    refine rx_aw.mono k (fun r h2 k => ?_)
    obtain ⟨z2, rfl, hi2, hl2, v2, rfl, k⟩ := k
    refine ⟨z2, rfl, ?_⟩
    show rx_aw 67 14 [.ref 77, .int x1, .int x2] [.int z2] (rx_hp L t hi2 hl2 v2) Q
    refine rx_aw_s 1 (pc := 14) rfl ?_
    refine rx_w_if (c := z2 = 0) ⟨fun c3 => ?_, fun c3 => ?_⟩
    · have k := k.1 c3
      show rx_aw 67 19 [.ref 77, .int x1, .int x2] [] (rx_hp L t hi2 hl2 v2) Q
      refine rx_aw_s 3 (pc := 19) rfl ?_
      refine rx_w_ifn (c := x2 = (400 : Int32)) ⟨fun c4 => ?_, fun c4 => ?_⟩
      · have k := k.1 c4
        show rx_aw 67 26 [.ref 77, .int x1, .int x2] [] (rx_hp L t hi2 hl2 v2) Q
        refine rx_aw_s 1 (pc := 26) rfl ?_
        show rx_aw 67 27 [.ref 77, .int x1, .int x2] [.int (-1 : Int32)] (rx_hp L t hi2 hl2 v2) Q
        exact rx_aw_ret (pc := 27) rfl k
      · have k := k.2 c4
        show rx_aw 67 28 [.ref 77, .int x1, .int x2] [] (rx_hp L t hi2 hl2 v2) Q
        refine rx_aw_s 2 (pc := 28) rfl ?_
        show rx_aw 67 32 [.ref 77, .int x1, .int x2] [va_rf (v2 77 8)] (rx_hp L t hi2 hl2 v2) Q
        rcases k with ⟨eq5, k⟩ | ⟨q5, hq5, eq5, k⟩
        · rw [eq5]
          show rx_aw 67 32 [.ref 77, .int x1, .int x2] [.null] (rx_hp L t hi2 hl2 v2) Q
          exact k.elim
        · rw [eq5]
          show rx_aw 67 32 [.ref 77, .int x1, .int x2] [.ref (rx_ct q5)] (rx_hp L t hi2 hl2 v2) Q
          refine rx_w_cg hq5 (pc := 32) rfl (by decide) (by decide) ?_
          show rx_aw 67 35 [.ref 77, .int x1, .int x2] [.int (hi2 (rx_ct q5) 5)] (rx_hp L t hi2 hl2 v2) Q
          refine rx_aw_s 2 (pc := 35) rfl ?_
          refine rx_w_if (c := (hi2 (rx_ct q5) 5) < (2 : Int32)) ⟨fun c6 => ?_, fun c6 => ?_⟩
          · have k := k.1 c6
            show rx_aw 67 47 [.ref 77, .int x1, .int x2] [] (rx_hp L t hi2 hl2 v2) Q
            refine rx_aw_s 2 (pc := 47) rfl ?_
            show rx_aw 67 49 [.ref 77, .int x1, .int x2] [.int x2, .ref 77] (rx_hp L t hi2 hl2 v2) Q
            refine rx_w_callV (j := 73) (pc := 49) rfl rfl rfl rfl rfl ?_
            refine rx_aw.mono k (fun r h2 k => ?_)
            obtain ⟨rfl, hi7, hl7, v7, rfl, k⟩ := k
            refine ⟨rfl, ?_⟩
            show rx_aw 67 52 [.ref 77, .int x1, .int x2] [] (rx_hp L t hi7 hl7 v7) Q
            refine rx_aw_s 2 (pc := 52) rfl ?_
            show rx_aw 67 54 [.ref 77, .int x1, .int x2] [.int x2, .ref 77] (rx_hp L t hi7 hl7 v7) Q
            refine rx_w_callI (j := 76) (pc := 54) rfl rfl rfl rfl rfl ?_
            refine rx_aw.mono k (fun r h2 k => ?_)
            obtain ⟨z8, rfl, hi8, hl8, v8, rfl, k⟩ := k
            refine ⟨z8, rfl, ?_⟩
            show rx_aw 67 57 [.ref 77, .int x1, .int x2] [.int z8] (rx_hp L t hi8 hl8 v8) Q
            refine rx_aw_s 1 (pc := 57) rfl ?_
            refine rx_w_if (c := z8 = 0) ⟨fun c9 => ?_, fun c9 => ?_⟩
            · have k := k.1 c9
              show rx_aw 67 62 [.ref 77, .int x1, .int x2] [] (rx_hp L t hi8 hl8 v8) Q
              refine rx_aw_s 2 (pc := 62) rfl ?_
              show rx_aw 67 2 [.ref 77, .int x1, .int (x2 + (1 : Int32))] [] (rx_hp L t hi8 hl8 v8) Q
              exact k
            · have k := k.2 c9
              show rx_aw 67 60 [.ref 77, .int x1, .int x2] [] (rx_hp L t hi8 hl8 v8) Q
              refine rx_aw_s 1 (pc := 60) rfl ?_
              show rx_aw 67 61 [.ref 77, .int x1, .int x2] [.int (-1 : Int32)] (rx_hp L t hi8 hl8 v8) Q
              exact rx_aw_ret (pc := 61) rfl k
          · have k := k.2 c6
            show rx_aw 67 39 [.ref 77, .int x1, .int x2] [] (rx_hp L t hi2 hl2 v2) Q
            refine rx_aw_s 2 (pc := 39) rfl ?_
            show rx_aw 67 41 [.ref 77, .int x1, .int x2] [.int x2, .ref 77] (rx_hp L t hi2 hl2 v2) Q
            refine rx_w_callV (j := 70) (pc := 41) rfl rfl rfl rfl rfl ?_
            refine rx_aw.mono k (fun r h2 k => ?_)
            obtain ⟨rfl, hi10, hl10, v10, rfl, k⟩ := k
            refine ⟨rfl, ?_⟩
            show rx_aw 67 44 [.ref 77, .int x1, .int x2] [] (rx_hp L t hi10 hl10 v10) Q
            refine rx_aw_s 3 (pc := 44) rfl ?_
            show rx_aw 67 54 [.ref 77, .int x1, .int x2] [.int x2, .ref 77] (rx_hp L t hi10 hl10 v10) Q
            refine rx_w_callI (j := 76) (pc := 54) rfl rfl rfl rfl rfl ?_
            refine rx_aw.mono k (fun r h2 k => ?_)
            obtain ⟨z11, rfl, hi11, hl11, v11, rfl, k⟩ := k
            refine ⟨z11, rfl, ?_⟩
            show rx_aw 67 57 [.ref 77, .int x1, .int x2] [.int z11] (rx_hp L t hi11 hl11 v11) Q
            refine rx_aw_s 1 (pc := 57) rfl ?_
            refine rx_w_if (c := z11 = 0) ⟨fun c12 => ?_, fun c12 => ?_⟩
            · have k := k.1 c12
              show rx_aw 67 62 [.ref 77, .int x1, .int x2] [] (rx_hp L t hi11 hl11 v11) Q
              refine rx_aw_s 2 (pc := 62) rfl ?_
              show rx_aw 67 2 [.ref 77, .int x1, .int (x2 + (1 : Int32))] [] (rx_hp L t hi11 hl11 v11) Q
              exact k
            · have k := k.2 c12
              show rx_aw 67 60 [.ref 77, .int x1, .int x2] [] (rx_hp L t hi11 hl11 v11) Q
              refine rx_aw_s 1 (pc := 60) rfl ?_
              show rx_aw 67 61 [.ref 77, .int x1, .int x2] [.int (-1 : Int32)] (rx_hp L t hi11 hl11 v11) Q
              exact rx_aw_ret (pc := 61) rfl k
    · have k := k.2 c3
      show rx_aw 67 17 [.ref 77, .int x1, .int x2] [] (rx_hp L t hi2 hl2 v2) Q
      refine rx_aw_s 1 (pc := 17) rfl ?_
      show rx_aw 67 18 [.ref 77, .int x1, .int x2] [.int x2] (rx_hp L t hi2 hl2 v2) Q
      exact rx_aw_ret (pc := 18) rfl k
/-- CartFloor$Search.arrives(I)Z -/
theorem w68_arrives {L : Nat} {t : List (Nat × Nat)} {hi : Nat → Nat → Int32} {hl : Nat → Nat → Int64} {v : Nat → Nat → Option Nat} {Q : Option Value → rx_H → Prop} {a0 : Int32} (k : (((hi 77 11) < 0 → (((hi 77 12) = 0 → rx_aw 68 59 [.ref 77, .int a0, .long (0 : Int64), rx_no, .int (0 : Int32), .int (0 : Int32), rx_no] [] (rx_hp L t hi hl v) Q) ∧ (¬ ((hi 77 12) = 0) → (∃ j3 : Nat, (if (hi 77 9) < a0 then (hi 77 9) else a0) = nI j3 ∧ j3 < 402 ∧ rx_aw 68 59 [.ref 77, .int a0, .long (hl 79 j3), rx_no, .int (0 : Int32), .int (0 : Int32), rx_no] [] (rx_hp L t hi hl v) Q)))) ∧ (¬ ((hi 77 11) < 0) → rx_me 46 [.ref 13, .int (hi 77 11), .int (hi 77 10), .int a0] (rx_hp L t hi hl v) (fun r h2 => ∃ z4 : Int32, r = some (.int z4) ∧ rx_ok2 L t h2 (fun hi4 hl4 v4 => ((z4 = 0 → Q (some (.int (0 : Int32))) (rx_hp L t hi4 hl4 v4)) ∧ (¬ (z4 = 0) → (((hi4 77 12) = 0 → rx_aw 68 59 [.ref 77, .int a0, .long (0 : Int64), rx_no, .int (0 : Int32), .int (0 : Int32), rx_no] [] (rx_hp L t hi4 hl4 v4) Q) ∧ (¬ ((hi4 77 12) = 0) → (∃ j7 : Nat, (if (hi4 77 9) < a0 then (hi4 77 9) else a0) = nI j7 ∧ j7 < 402 ∧ rx_aw 68 59 [.ref 77, .int a0, .long (hl4 79 j7), rx_no, .int (0 : Int32), .int (0 : Int32), rx_no] [] (rx_hp L t hi4 hl4 v4) Q)))))))))) : rx_me 68 [.ref 77, .int a0] (rx_hp L t hi hl v) Q := by
  show rx_aw 68 0 [.ref 77, .int a0, rx_no, rx_no, rx_no, rx_no, rx_no] [] (rx_hp L t hi hl v) Q
  refine rx_aw_s 3 (pc := 0) rfl ?_
  refine rx_w_if (c := (hi 77 11) < 0) ⟨fun c1 => ?_, fun c1 => ?_⟩
  · have k := k.1 c1
    show rx_aw 68 28 [.ref 77, .int a0, rx_no, rx_no, rx_no, rx_no, rx_no] [] (rx_hp L t hi hl v) Q
    refine rx_aw_s 3 (pc := 28) rfl ?_
    refine rx_w_if (c := (hi 77 12) = 0) ⟨fun c2 => ?_, fun c2 => ?_⟩
    · have k := k.1 c2
      show rx_aw 68 51 [.ref 77, .int a0, rx_no, rx_no, rx_no, rx_no, rx_no] [] (rx_hp L t hi hl v) Q
      refine rx_aw_s 6 (pc := 51) rfl ?_
      show rx_aw 68 59 [.ref 77, .int a0, .long (0 : Int64), rx_no, .int (0 : Int32), .int (0 : Int32), rx_no] [] (rx_hp L t hi hl v) Q
      exact k
    · have k := k.2 c2
      show rx_aw 68 35 [.ref 77, .int a0, rx_no, rx_no, rx_no, rx_no, rx_no] [] (rx_hp L t hi hl v) Q
      refine rx_aw_s 6 (pc := 35) rfl ?_
      show rx_aw 68 47 [.ref 77, .int a0, rx_no, rx_no, rx_no, rx_no, rx_no] [.int (if (hi 77 9) < a0 then (hi 77 9) else a0), .ref 79] (rx_hp L t hi hl v) Q
      obtain ⟨j3, ej3, hj3, k⟩ := k
      refine rx_aw_lald (pc := 47) (n := 402) j3 ej3 rfl rfl (by decide) rfl hj3 (by decide) ?_
      show rx_aw 68 48 [.ref 77, .int a0, rx_no, rx_no, rx_no, rx_no, rx_no] [.long (hl 79 j3)] (rx_hp L t hi hl v) Q
      refine rx_aw_s 6 (pc := 48) rfl ?_
      show rx_aw 68 59 [.ref 77, .int a0, .long (hl 79 j3), rx_no, .int (0 : Int32), .int (0 : Int32), rx_no] [] (rx_hp L t hi hl v) Q
      exact k
  · have k := k.2 c1
    show rx_aw 68 7 [.ref 77, .int a0, rx_no, rx_no, rx_no, rx_no, rx_no] [] (rx_hp L t hi hl v) Q
    refine rx_aw_s 7 (pc := 7) rfl ?_
    show rx_aw 68 20 [.ref 77, .int a0, rx_no, rx_no, rx_no, rx_no, rx_no] [.int a0, .int (hi 77 10), .int (hi 77 11), .ref 13] (rx_hp L t hi hl v) Q
    refine rx_w_callI (j := 46) (pc := 20) rfl rfl rfl rfl rfl ?_
    refine rx_aw.mono k (fun r h2 k => ?_)
    obtain ⟨z4, rfl, hi4, hl4, v4, rfl, k⟩ := k
    refine ⟨z4, rfl, ?_⟩
    show rx_aw 68 23 [.ref 77, .int a0, rx_no, rx_no, rx_no, rx_no, rx_no] [.int z4] (rx_hp L t hi4 hl4 v4) Q
    refine rx_aw_s 1 (pc := 23) rfl ?_
    refine rx_w_ifn (c := z4 = 0) ⟨fun c5 => ?_, fun c5 => ?_⟩
    · have k := k.1 c5
      show rx_aw 68 26 [.ref 77, .int a0, rx_no, rx_no, rx_no, rx_no, rx_no] [] (rx_hp L t hi4 hl4 v4) Q
      refine rx_aw_s 1 (pc := 26) rfl ?_
      show rx_aw 68 27 [.ref 77, .int a0, rx_no, rx_no, rx_no, rx_no, rx_no] [.int (0 : Int32)] (rx_hp L t hi4 hl4 v4) Q
      exact rx_aw_ret (pc := 27) rfl k
    · have k := k.2 c5
      show rx_aw 68 28 [.ref 77, .int a0, rx_no, rx_no, rx_no, rx_no, rx_no] [] (rx_hp L t hi4 hl4 v4) Q
      refine rx_aw_s 3 (pc := 28) rfl ?_
      refine rx_w_if (c := (hi4 77 12) = 0) ⟨fun c6 => ?_, fun c6 => ?_⟩
      · have k := k.1 c6
        show rx_aw 68 51 [.ref 77, .int a0, rx_no, rx_no, rx_no, rx_no, rx_no] [] (rx_hp L t hi4 hl4 v4) Q
        refine rx_aw_s 6 (pc := 51) rfl ?_
        show rx_aw 68 59 [.ref 77, .int a0, .long (0 : Int64), rx_no, .int (0 : Int32), .int (0 : Int32), rx_no] [] (rx_hp L t hi4 hl4 v4) Q
        exact k
      · have k := k.2 c6
        show rx_aw 68 35 [.ref 77, .int a0, rx_no, rx_no, rx_no, rx_no, rx_no] [] (rx_hp L t hi4 hl4 v4) Q
        refine rx_aw_s 6 (pc := 35) rfl ?_
        show rx_aw 68 47 [.ref 77, .int a0, rx_no, rx_no, rx_no, rx_no, rx_no] [.int (if (hi4 77 9) < a0 then (hi4 77 9) else a0), .ref 79] (rx_hp L t hi4 hl4 v4) Q
        obtain ⟨j7, ej7, hj7, k⟩ := k
        refine rx_aw_lald (pc := 47) (n := 402) j7 ej7 rfl rfl (by decide) rfl hj7 (by decide) ?_
        show rx_aw 68 48 [.ref 77, .int a0, rx_no, rx_no, rx_no, rx_no, rx_no] [.long (hl4 79 j7)] (rx_hp L t hi4 hl4 v4) Q
        refine rx_aw_s 6 (pc := 48) rfl ?_
        show rx_aw 68 59 [.ref 77, .int a0, .long (hl4 79 j7), rx_no, .int (0 : Int32), .int (0 : Int32), rx_no] [] (rx_hp L t hi4 hl4 v4) Q
        exact k
theorem w68_arrives_59 {L : Nat} {t : List (Nat × Nat)} {hi : Nat → Nat → Int32} {hl : Nat → Nat → Int64} {v : Nat → Nat → Option Nat} {Q : Option Value → rx_H → Prop} {x1 : Int32} {x2 : Int64} {x4 : Int32} {x5 : Int32} (k : (((4 : Int32) ≤ x5 → rx_aw 68 87 [.ref 77, .int x1, .long x2, rx_no, .int x4, .int (0 : Int32), rx_no] [] (rx_hp L t hi hl v) Q) ∧ (¬ ((4 : Int32) ≤ x5) → rx_me 69 [.ref 77, .int x1, .int x5, .long x2] (rx_hp L t hi hl v) (fun r h2 => ∃ z9 : Int32, r = some (.int z9) ∧ rx_ok2 L t h2 (fun hi9 hl9 v9 => rx_aw 68 59 [.ref 77, .int x1, .long x2, rx_no, .int (x4 ||| z9), .int (x5 + (1 : Int32)), rx_no] [] (rx_hp L t hi9 hl9 v9) Q))))) : rx_aw 68 59 [.ref 77, .int x1, .long x2, rx_no, .int x4, .int x5, rx_no] [] (rx_hp L t hi hl v) Q := by
  refine rx_aw_s 3 (pc := 59) rfl ?_
  refine rx_w_if (c := (4 : Int32) ≤ x5) ⟨fun c8 => ?_, fun c8 => ?_⟩
  · have k := k.1 c8
    show rx_aw 68 84 [.ref 77, .int x1, .long x2, rx_no, .int x4, .int x5, rx_no] [] (rx_hp L t hi hl v) Q
    refine rx_aw_s 2 (pc := 84) rfl ?_
    show rx_aw 68 87 [.ref 77, .int x1, .long x2, rx_no, .int x4, .int (0 : Int32), rx_no] [] (rx_hp L t hi hl v) Q
    exact k
  · have k := k.2 c8
    show rx_aw 68 65 [.ref 77, .int x1, .long x2, rx_no, .int x4, .int x5, rx_no] [] (rx_hp L t hi hl v) Q
    refine rx_aw_s 5 (pc := 65) rfl ?_
    show rx_aw 68 72 [.ref 77, .int x1, .long x2, rx_no, .int x4, .int x5, rx_no] [.long x2, .int x5, .int x1, .ref 77, .int x4] (rx_hp L t hi hl v) Q
    refine rx_w_callI (j := 69) (pc := 72) rfl rfl rfl rfl rfl ?_
    refine rx_aw.mono k (fun r h2 k => ?_)
    obtain ⟨z9, rfl, hi9, hl9, v9, rfl, k⟩ := k
    refine ⟨z9, rfl, ?_⟩
    show rx_aw 68 75 [.ref 77, .int x1, .long x2, rx_no, .int x4, .int x5, rx_no] [.int z9, .int x4] (rx_hp L t hi9 hl9 v9) Q
    refine rx_aw_s 4 (pc := 75) rfl ?_
    show rx_aw 68 59 [.ref 77, .int x1, .long x2, rx_no, .int (x4 ||| z9), .int (x5 + (1 : Int32)), rx_no] [] (rx_hp L t hi9 hl9 v9) Q
    exact k
theorem w68_arrives_87 {L : Nat} {t : List (Nat × Nat)} {hi : Nat → Nat → Int32} {hl : Nat → Nat → Int64} {v : Nat → Nat → Option Nat} {Q : Option Value → rx_H → Prop} {x1 : Int32} {x2 : Int64} {x4 : Int32} {x5 : Int32} (k : (((4 : Int32) ≤ x5 → ((x4 = 0 ∨ x4 = 1) ∧ Q (some (.int x4)) (rx_hp L t hi hl v))) ∧ (¬ ((4 : Int32) ≤ x5) → ((x4 = 0 → ((x4 = 0 ∨ x4 = 1) ∧ Q (some (.int x4)) (rx_hp L t hi hl v))) ∧ (¬ (x4 = 0) → rx_me 69 [.ref 77, .int x1, .int x5, .long x2] (rx_hp L t hi hl v) (fun r h2 => ∃ z12 : Int32, r = some (.int z12) ∧ rx_ok2 L t h2 (fun hi12 hl12 v12 => ((z12 = 0 → (∃ j14 : Nat, (((4 : Int32) * x1) + x5) = nI j14 ∧ j14 < 1608 ∧ (∃ j15 : Nat, (((x1 &&& (1 : Int32)) * (256 : Int32)) + ((x5 <<< ((6 : Int32) &&& 31)) ||| (hi12 77 10))) = nI j15 ∧ j15 < 512 ∧ rx_aw 68 87 [.ref 77, .int x1, .long x2, rx_no, .int x4, .int (x5 + (1 : Int32)), rx_no] [] (rx_hp L t (rx_u hi12 82 j15 (0 : Int32)) (rx_u hl12 80 j14 (0 : Int64)) v12) Q))) ∧ (¬ (z12 = 0) → rx_me 9 [.int (hi12 77 10)] (rx_hp L t hi12 hl12 v12) (fun r h2 => ∃ z16 : Int64, r = some (.long z16) ∧ rx_ok2 L t h2 (fun hi16 hl16 v16 => (∃ j17 : Nat, (((4 : Int32) * x1) + x5) = nI j17 ∧ j17 < 1608 ∧ (∃ j18 : Nat, (((x1 &&& (1 : Int32)) * (256 : Int32)) + ((x5 <<< ((6 : Int32) &&& 31)) ||| (hi16 77 10))) = nI j18 ∧ j18 < 512 ∧ rx_aw 68 87 [.ref 77, .int x1, .long x2, rx_no, .int x4, .int (x5 + (1 : Int32)), rx_no] [] (rx_hp L t (rx_u hi16 82 j18 (0 : Int32)) (rx_u hl16 80 j17 z16) v16) Q))))))))))))) : rx_aw 68 87 [.ref 77, .int x1, .long x2, rx_no, .int x4, .int x5, rx_no] [] (rx_hp L t hi hl v) Q := by
  refine rx_aw_s 3 (pc := 87) rfl ?_
  refine rx_w_if (c := (4 : Int32) ≤ x5) ⟨fun c10 => ?_, fun c10 => ?_⟩
  · have k := k.1 c10
    show rx_aw 68 165 [.ref 77, .int x1, .long x2, rx_no, .int x4, .int x5, rx_no] [] (rx_hp L t hi hl v) Q
    refine rx_aw_s 1 (pc := 165) rfl ?_
    show rx_aw 68 167 [.ref 77, .int x1, .long x2, rx_no, .int x4, .int x5, rx_no] [.int x4] (rx_hp L t hi hl v) Q
    exact rx_w_zret (pc := 167) rfl rfl k
  · have k := k.2 c10
    show rx_aw 68 93 [.ref 77, .int x1, .long x2, rx_no, .int x4, .int x5, rx_no] [] (rx_hp L t hi hl v) Q
    refine rx_aw_s 2 (pc := 93) rfl ?_
    refine rx_w_if (c := x4 = 0) ⟨fun c11 => ?_, fun c11 => ?_⟩
    · have k := k.1 c11
      show rx_aw 68 165 [.ref 77, .int x1, .long x2, rx_no, .int x4, .int x5, rx_no] [] (rx_hp L t hi hl v) Q
      refine rx_aw_s 1 (pc := 165) rfl ?_
      show rx_aw 68 167 [.ref 77, .int x1, .long x2, rx_no, .int x4, .int x5, rx_no] [.int x4] (rx_hp L t hi hl v) Q
      exact rx_w_zret (pc := 167) rfl rfl k
    · have k := k.2 c11
      show rx_aw 68 98 [.ref 77, .int x1, .long x2, rx_no, .int x4, .int x5, rx_no] [] (rx_hp L t hi hl v) Q
      refine rx_aw_s 4 (pc := 98) rfl ?_
      show rx_aw 68 103 [.ref 77, .int x1, .long x2, rx_no, .int x4, .int x5, rx_no] [.long x2, .int x5, .int x1, .ref 77] (rx_hp L t hi hl v) Q
      refine rx_w_callI (j := 69) (pc := 103) rfl rfl rfl rfl rfl ?_
      refine rx_aw.mono k (fun r h2 k => ?_)
      obtain ⟨z12, rfl, hi12, hl12, v12, rfl, k⟩ := k
      refine ⟨z12, rfl, ?_⟩
      show rx_aw 68 106 [.ref 77, .int x1, .long x2, rx_no, .int x4, .int x5, rx_no] [.int z12] (rx_hp L t hi12 hl12 v12) Q
      refine rx_aw_s 10 (pc := 106) rfl ?_
      refine rx_w_if (c := z12 = 0) ⟨fun c13 => ?_, fun c13 => ?_⟩
      · have k := k.1 c13
        show rx_aw 68 133 [.ref 77, .int x1, .long x2, rx_no, .int x4, .int x5, .int z12] [.int (((4 : Int32) * x1) + x5), .ref 80] (rx_hp L t hi12 hl12 v12) Q
        refine rx_aw_s 1 (pc := 133) rfl ?_
        show rx_aw 68 134 [.ref 77, .int x1, .long x2, rx_no, .int x4, .int x5, .int z12] [.long (0 : Int64), .int (((4 : Int32) * x1) + x5), .ref 80] (rx_hp L t hi12 hl12 v12) Q
        obtain ⟨j14, ej14, hj14, k⟩ := k
        refine rx_aw_last (pc := 134) (n := 1608) j14 ej14 rfl rfl (by decide) rfl hj14 (by decide) ?_
        show rx_aw 68 135 [.ref 77, .int x1, .long x2, rx_no, .int x4, .int x5, .int z12] [] (rx_hp L t hi12 (rx_u hl12 80 j14 (0 : Int64)) v12) Q
        refine rx_aw_s 15 (pc := 135) rfl ?_
        show rx_aw 68 158 [.ref 77, .int x1, .long x2, rx_no, .int x4, .int x5, .int z12] [.int (0 : Int32), .int (((x1 &&& (1 : Int32)) * (256 : Int32)) + ((x5 <<< ((6 : Int32) &&& 31)) ||| (hi12 77 10))), .ref 82] (rx_hp L t hi12 (rx_u hl12 80 j14 (0 : Int64)) v12) Q
        obtain ⟨j15, ej15, hj15, k⟩ := k
        refine rx_aw_iast (pc := 158) (n := 512) j15 ej15 rfl rfl (by decide) rfl hj15 (by decide) ?_
        show rx_aw 68 159 [.ref 77, .int x1, .long x2, rx_no, .int x4, .int x5, .int z12] [] (rx_hp L t (rx_u hi12 82 j15 (0 : Int32)) (rx_u hl12 80 j14 (0 : Int64)) v12) Q
        refine rx_aw_s 2 (pc := 159) rfl ?_
        show rx_aw 68 87 [.ref 77, .int x1, .long x2, rx_no, .int x4, .int (x5 + (1 : Int32)), .int z12] [] (rx_hp L t (rx_u hi12 82 j15 (0 : Int32)) (rx_u hl12 80 j14 (0 : Int64)) v12) Q
        exact rx_aw_le (ls := [.ref 77, .int x1, .long x2, rx_no, .int x4, .int (x5 + (1 : Int32)), rx_no]) ⟨Or.inr rfl, ⟨Or.inr rfl, ⟨Or.inr rfl, ⟨Or.inl rfl, ⟨Or.inr rfl, ⟨Or.inr rfl, ⟨Or.inl rfl, trivial⟩⟩⟩⟩⟩⟩⟩ k
      · have k := k.2 c13
        show rx_aw 68 123 [.ref 77, .int x1, .long x2, rx_no, .int x4, .int x5, .int z12] [.int (((4 : Int32) * x1) + x5), .ref 80] (rx_hp L t hi12 hl12 v12) Q
        refine rx_aw_s 2 (pc := 123) rfl ?_
        show rx_aw 68 127 [.ref 77, .int x1, .long x2, rx_no, .int x4, .int x5, .int z12] [.int (hi12 77 10), .int (((4 : Int32) * x1) + x5), .ref 80] (rx_hp L t hi12 hl12 v12) Q
        refine rx_w_callL (j := 9) (pc := 127) rfl rfl rfl rfl rfl ?_
        refine rx_aw.mono k (fun r h2 k => ?_)
        obtain ⟨z16, rfl, hi16, hl16, v16, rfl, k⟩ := k
        refine ⟨z16, rfl, ?_⟩
        show rx_aw 68 130 [.ref 77, .int x1, .long x2, rx_no, .int x4, .int x5, .int z12] [.long z16, .int (((4 : Int32) * x1) + x5), .ref 80] (rx_hp L t hi16 hl16 v16) Q
        refine rx_aw_s 1 (pc := 130) rfl ?_
        show rx_aw 68 134 [.ref 77, .int x1, .long x2, rx_no, .int x4, .int x5, .int z12] [.long z16, .int (((4 : Int32) * x1) + x5), .ref 80] (rx_hp L t hi16 hl16 v16) Q
        obtain ⟨j17, ej17, hj17, k⟩ := k
        refine rx_aw_last (pc := 134) (n := 1608) j17 ej17 rfl rfl (by decide) rfl hj17 (by decide) ?_
        show rx_aw 68 135 [.ref 77, .int x1, .long x2, rx_no, .int x4, .int x5, .int z12] [] (rx_hp L t hi16 (rx_u hl16 80 j17 z16) v16) Q
        refine rx_aw_s 15 (pc := 135) rfl ?_
        show rx_aw 68 158 [.ref 77, .int x1, .long x2, rx_no, .int x4, .int x5, .int z12] [.int (0 : Int32), .int (((x1 &&& (1 : Int32)) * (256 : Int32)) + ((x5 <<< ((6 : Int32) &&& 31)) ||| (hi16 77 10))), .ref 82] (rx_hp L t hi16 (rx_u hl16 80 j17 z16) v16) Q
        obtain ⟨j18, ej18, hj18, k⟩ := k
        refine rx_aw_iast (pc := 158) (n := 512) j18 ej18 rfl rfl (by decide) rfl hj18 (by decide) ?_
        show rx_aw 68 159 [.ref 77, .int x1, .long x2, rx_no, .int x4, .int x5, .int z12] [] (rx_hp L t (rx_u hi16 82 j18 (0 : Int32)) (rx_u hl16 80 j17 z16) v16) Q
        refine rx_aw_s 2 (pc := 159) rfl ?_
        show rx_aw 68 87 [.ref 77, .int x1, .long x2, rx_no, .int x4, .int (x5 + (1 : Int32)), .int z12] [] (rx_hp L t (rx_u hi16 82 j18 (0 : Int32)) (rx_u hl16 80 j17 z16) v16) Q
        exact rx_aw_le (ls := [.ref 77, .int x1, .long x2, rx_no, .int x4, .int (x5 + (1 : Int32)), rx_no]) ⟨Or.inr rfl, ⟨Or.inr rfl, ⟨Or.inr rfl, ⟨Or.inl rfl, ⟨Or.inr rfl, ⟨Or.inr rfl, ⟨Or.inl rfl, trivial⟩⟩⟩⟩⟩⟩⟩ k
/-- CartFloor$Search.arrivesHeaded(IIJ)Z -/
theorem w69_arrivesHeaded {L : Nat} {t : List (Nat × Nat)} {hi : Nat → Nat → Int32} {hl : Nat → Nat → Int64} {v : Nat → Nat → Option Nat} {Q : Option Value → rx_H → Prop} {a0 : Int32} {a1 : Int32} {a2 : Int64} (k : (∃ j1 : Nat, (((4 : Int32) * a0) + a1) = nI j1 ∧ j1 < 1608 ∧ rx_me 9 [.int (hi 77 10)] (rx_hp L t hi hl v) (fun r h2 => ∃ z2 : Int64, r = some (.long z2) ∧ rx_ok2 L t h2 (fun hi2 hl2 v2 => (((lg_cmp ((hl 80 j1) &&& z2) (0 : Int64)) = 0 → Q (some (.int (0 : Int32))) (rx_hp L t hi2 hl2 v2)) ∧ (¬ ((lg_cmp ((hl 80 j1) &&& z2) (0 : Int64)) = 0) → (((v2 77 8) = none ∧ False) ∨ (∃ q4 : Nat, q4 < 6 ∧ (v2 77 8) = some (rx_ct q4) ∧ rx_me 55 [.int (hi2 77 10), .int a1, .int (-1 : Int32)] (rx_hp L t hi2 hl2 v2) (fun r h2 => ∃ z5 : Int32, r = some (.int z5) ∧ rx_ok2 L t h2 (fun hi5 hl5 v5 => rx_me 42 [.ref 7, .int (hi2 (rx_ct q4) 5), .int z5] (rx_hp L t hi5 hl5 v5) (fun r h2 => ∃ z6 : Int64, r = some (.long z6) ∧ rx_ok2 L t h2 (fun hi6 hl6 v6 => (((lg_cmp (z6 &&& a2) (0 : Int64)) = 0 → Q (some (.int (1 : Int32))) (rx_hp L t hi6 hl6 v6)) ∧ (¬ ((lg_cmp (z6 &&& a2) (0 : Int64)) = 0) → Q (some (.int (0 : Int32))) (rx_hp L t hi6 hl6 v6))))))))))))))) : rx_me 69 [.ref 77, .int a0, .int a1, .long a2] (rx_hp L t hi hl v) Q := by
  show rx_aw 69 0 [.ref 77, .int a0, .int a1, .long a2, rx_no, rx_no] [] (rx_hp L t hi hl v) Q
  refine rx_aw_s 7 (pc := 0) rfl ?_
  show rx_aw 69 9 [.ref 77, .int a0, .int a1, .long a2, rx_no, rx_no] [.int (((4 : Int32) * a0) + a1), .ref 80] (rx_hp L t hi hl v) Q
  obtain ⟨j1, ej1, hj1, k⟩ := k
  refine rx_aw_lald (pc := 9) (n := 1608) j1 ej1 rfl rfl (by decide) rfl hj1 (by decide) ?_
  show rx_aw 69 10 [.ref 77, .int a0, .int a1, .long a2, rx_no, rx_no] [.long (hl 80 j1)] (rx_hp L t hi hl v) Q
  refine rx_aw_s 2 (pc := 10) rfl ?_
  show rx_aw 69 14 [.ref 77, .int a0, .int a1, .long a2, rx_no, rx_no] [.int (hi 77 10), .long (hl 80 j1)] (rx_hp L t hi hl v) Q
  refine rx_w_callL (j := 9) (pc := 14) rfl rfl rfl rfl rfl ?_
  refine rx_aw.mono k (fun r h2 k => ?_)
  obtain ⟨z2, rfl, hi2, hl2, v2, rfl, k⟩ := k
  refine ⟨z2, rfl, ?_⟩
  show rx_aw 69 17 [.ref 77, .int a0, .int a1, .long a2, rx_no, rx_no] [.long z2, .long (hl 80 j1)] (rx_hp L t hi2 hl2 v2) Q
  refine rx_aw_s 4 (pc := 17) rfl ?_
  refine rx_w_if (c := (lg_cmp ((hl 80 j1) &&& z2) (0 : Int64)) = 0) ⟨fun c3 => ?_, fun c3 => ?_⟩
  · have k := k.1 c3
    show rx_aw 69 27 [.ref 77, .int a0, .int a1, .long a2, rx_no, rx_no] [] (rx_hp L t hi2 hl2 v2) Q
    refine rx_aw_s 5 (pc := 27) rfl ?_
    show rx_aw 69 70 [.ref 77, .int a0, .int a1, .long a2, rx_no, .int (0 : Int32)] [.int (0 : Int32)] (rx_hp L t hi2 hl2 v2) Q
    exact rx_aw_ret (pc := 70) rfl k
  · have k := k.2 c3
    show rx_aw 69 23 [.ref 77, .int a0, .int a1, .long a2, rx_no, rx_no] [] (rx_hp L t hi2 hl2 v2) Q
    refine rx_aw_s 9 (pc := 23) rfl ?_
    show rx_aw 69 43 [.ref 77, .int a0, .int a1, .long a2, rx_no, .int (1 : Int32)] [va_rf (v2 77 8), .ref 7] (rx_hp L t hi2 hl2 v2) Q
    rcases k with ⟨eq4, k⟩ | ⟨q4, hq4, eq4, k⟩
    · rw [eq4]
      show rx_aw 69 43 [.ref 77, .int a0, .int a1, .long a2, rx_no, .int (1 : Int32)] [.null, .ref 7] (rx_hp L t hi2 hl2 v2) Q
      exact k.elim
    · rw [eq4]
      show rx_aw 69 43 [.ref 77, .int a0, .int a1, .long a2, rx_no, .int (1 : Int32)] [.ref (rx_ct q4), .ref 7] (rx_hp L t hi2 hl2 v2) Q
      refine rx_w_cg hq4 (pc := 43) rfl (by decide) (by decide) ?_
      show rx_aw 69 46 [.ref 77, .int a0, .int a1, .long a2, rx_no, .int (1 : Int32)] [.int (hi2 (rx_ct q4) 5), .ref 7] (rx_hp L t hi2 hl2 v2) Q
      refine rx_aw_s 4 (pc := 46) rfl ?_
      show rx_aw 69 52 [.ref 77, .int a0, .int a1, .long a2, rx_no, .int (1 : Int32)] [.int (-1 : Int32), .int a1, .int (hi2 77 10), .int (hi2 (rx_ct q4) 5), .ref 7] (rx_hp L t hi2 hl2 v2) Q
      refine rx_w_callI (j := 55) (pc := 52) rfl rfl rfl rfl rfl ?_
      refine rx_aw.mono k (fun r h2 k => ?_)
      obtain ⟨z5, rfl, hi5, hl5, v5, rfl, k⟩ := k
      refine ⟨z5, rfl, ?_⟩
      show rx_aw 69 55 [.ref 77, .int a0, .int a1, .long a2, rx_no, .int (1 : Int32)] [.int z5, .int (hi2 (rx_ct q4) 5), .ref 7] (rx_hp L t hi5 hl5 v5) Q
      refine rx_w_callL (j := 42) (pc := 55) rfl rfl rfl rfl rfl ?_
      refine rx_aw.mono k (fun r h2 k => ?_)
      obtain ⟨z6, rfl, hi6, hl6, v6, rfl, k⟩ := k
      refine ⟨z6, rfl, ?_⟩
      show rx_aw 69 58 [.ref 77, .int a0, .int a1, .long a2, rx_no, .int (1 : Int32)] [.long z6] (rx_hp L t hi6 hl6 v6) Q
      refine rx_aw_s 5 (pc := 58) rfl ?_
      refine rx_w_ifn (c := (lg_cmp (z6 &&& a2) (0 : Int64)) = 0) ⟨fun c7 => ?_, fun c7 => ?_⟩
      · have k := k.1 c7
        show rx_aw 69 65 [.ref 77, .int a0, .int a1, .long a2, rx_no, .int (1 : Int32)] [] (rx_hp L t hi6 hl6 v6) Q
        refine rx_aw_s 2 (pc := 65) rfl ?_
        show rx_aw 69 70 [.ref 77, .int a0, .int a1, .long a2, rx_no, .int (1 : Int32)] [.int (1 : Int32)] (rx_hp L t hi6 hl6 v6) Q
        exact rx_aw_ret (pc := 70) rfl k
      · have k := k.2 c7
        show rx_aw 69 69 [.ref 77, .int a0, .int a1, .long a2, rx_no, .int (1 : Int32)] [] (rx_hp L t hi6 hl6 v6) Q
        refine rx_aw_s 1 (pc := 69) rfl ?_
        show rx_aw 69 70 [.ref 77, .int a0, .int a1, .long a2, rx_no, .int (1 : Int32)] [.int (0 : Int32)] (rx_hp L t hi6 hl6 v6) Q
        exact rx_aw_ret (pc := 70) rfl k
