/-! Methods walked by program (gen/wp.py): what is left to show of each. -/
set_option maxRecDepth 100000 in
/-- CartFloorModel.isShelfOn(I)Z -/
theorem w207_isShelfOn_r {L : Nat} {t : List (Nat × Nat)} {hi : Nat → Nat → Int32} {hl : Nat → Nat → Int64} {v : Nat → Nat → Option Nat} {Q : Option Value → rx_H → Prop} {a0 : Int32} (k : rx_aw 207 4 [.ref 90, .int a0, .int (0 : Int32), .int (0 : Int32)] [] (rx_hp L t hi hl v) Q) : rx_me 207 [.ref 90, .int a0] (rx_hp L t hi hl v) Q := by
  show rx_aw 207 0 [.ref 90, .int a0, rx_no, rx_no] [] (rx_hp L t hi hl v) Q
  refine rx_aw_s 4 (pc := 0) rfl ?_
  show rx_aw 207 4 [.ref 90, .int a0, .int (0 : Int32), .int (0 : Int32)] [] (rx_hp L t hi hl v) Q
  exact k
set_option maxRecDepth 100000 in
theorem w207_isShelfOn_r_4 {L : Nat} {t : List (Nat × Nat)} {hi : Nat → Nat → Int32} {hl : Nat → Nat → Int64} {v : Nat → Nat → Option Nat} {Q : Option Value → rx_H → Prop} {x1 : Int32} {x2 : Int32} {x3 : Int32} (k : (((hi 90 21) ≤ x3 → ((x2 = 0 ∨ x2 = 1) ∧ Q (some (.int x2)) (rx_hp L t hi hl v))) ∧ (¬ ((hi 90 21) ≤ x3) → (∃ j2 : Nat, ((402 : Int32) * x3) = nI j2 ∧ j2 < 4824 ∧ (((hi 108 j2) = x1 → rx_aw 207 4 [.ref 90, .int x1, .int (x2 ||| (1 : Int32)), .int (x3 + (1 : Int32))] [] (rx_hp L t hi hl v) Q) ∧ (¬ ((hi 108 j2) = x1) → rx_aw 207 4 [.ref 90, .int x1, .int (x2 ||| (0 : Int32)), .int (x3 + (1 : Int32))] [] (rx_hp L t hi hl v) Q)))))) : rx_aw 207 4 [.ref 90, .int x1, .int x2, .int x3] [] (rx_hp L t hi hl v) Q := by
  refine rx_aw_s 4 (pc := 4) rfl ?_
  refine rx_w_if (c := (hi 90 21) ≤ x3) ⟨fun c1 => ?_, fun c1 => ?_⟩
  · have k := k.1 c1
    show rx_aw 207 40 [.ref 90, .int x1, .int x2, .int x3] [] (rx_hp L t hi hl v) Q
    refine rx_aw_s 1 (pc := 40) rfl ?_
    show rx_aw 207 41 [.ref 90, .int x1, .int x2, .int x3] [.int x2] (rx_hp L t hi hl v) Q
    exact rx_w_zret (pc := 41) rfl rfl k
  · have k := k.2 c1
    show rx_aw 207 12 [.ref 90, .int x1, .int x2, .int x3] [] (rx_hp L t hi hl v) Q
    refine rx_aw_s 6 (pc := 12) rfl ?_
    show rx_aw 207 22 [.ref 90, .int x1, .int x2, .int x3] [.int ((402 : Int32) * x3), .ref 108, .int x2] (rx_hp L t hi hl v) Q
    obtain ⟨j2, ej2, hj2, k⟩ := k
    refine rx_aw_iald (pc := 22) (n := 4824) j2 ej2 rfl rfl rfl hj2 (by decide) ?_
    show rx_aw 207 23 [.ref 90, .int x1, .int x2, .int x3] [.int (hi 108 j2), .int x2] (rx_hp L t hi hl v) Q
    refine rx_aw_s 2 (pc := 23) rfl ?_
    refine rx_w_ifn (c := (hi 108 j2) = x1) ⟨fun c3 => ?_, fun c3 => ?_⟩
    · have k := k.1 c3
      show rx_aw 207 27 [.ref 90, .int x1, .int x2, .int x3] [.int x2] (rx_hp L t hi hl v) Q
      refine rx_aw_s 6 (pc := 27) rfl ?_
      show rx_aw 207 4 [.ref 90, .int x1, .int (x2 ||| (1 : Int32)), .int (x3 + (1 : Int32))] [] (rx_hp L t hi hl v) Q
      exact k
    · have k := k.2 c3
      show rx_aw 207 31 [.ref 90, .int x1, .int x2, .int x3] [.int x2] (rx_hp L t hi hl v) Q
      refine rx_aw_s 5 (pc := 31) rfl ?_
      show rx_aw 207 4 [.ref 90, .int x1, .int (x2 ||| (0 : Int32)), .int (x3 + (1 : Int32))] [] (rx_hp L t hi hl v) Q
      exact k
set_option maxRecDepth 100000 in
/-- CartFloorModel.allStands()J -/
theorem w208_allStands_r {L : Nat} {t : List (Nat × Nat)} {hi : Nat → Nat → Int32} {hl : Nat → Nat → Int64} {v : Nat → Nat → Option Nat} {Q : Option Value → rx_H → Prop}  (k : rx_aw 208 4 [.ref 90, .long (0 : Int64), rx_no, .int (0 : Int32)] [] (rx_hp L t hi hl v) Q) : rx_me 208 [.ref 90] (rx_hp L t hi hl v) Q := by
  show rx_aw 208 0 [.ref 90, rx_no, rx_no, rx_no] [] (rx_hp L t hi hl v) Q
  refine rx_aw_s 4 (pc := 0) rfl ?_
  show rx_aw 208 4 [.ref 90, .long (0 : Int64), rx_no, .int (0 : Int32)] [] (rx_hp L t hi hl v) Q
  exact k
set_option maxRecDepth 100000 in
theorem w208_allStands_r_4 {L : Nat} {t : List (Nat × Nat)} {hi : Nat → Nat → Int32} {hl : Nat → Nat → Int64} {v : Nat → Nat → Option Nat} {Q : Option Value → rx_H → Prop} {x1 : Int64} {x3 : Int32} (k : (((hi 90 6) ≤ x3 → Q (some (.long x1)) (rx_hp L t hi hl v)) ∧ (¬ ((hi 90 6) ≤ x3) → (∃ j2 : Nat, ((402 : Int32) * x3) = nI j2 ∧ j2 < 2412 ∧ rx_aw 208 4 [.ref 90, .long (x1 ||| (hl 105 j2)), rx_no, .int (x3 + (1 : Int32))] [] (rx_hp L t hi hl v) Q)))) : rx_aw 208 4 [.ref 90, .long x1, rx_no, .int x3] [] (rx_hp L t hi hl v) Q := by
  refine rx_aw_s 4 (pc := 4) rfl ?_
  refine rx_w_if (c := (hi 90 6) ≤ x3) ⟨fun c1 => ?_, fun c1 => ?_⟩
  · have k := k.1 c1
    show rx_aw 208 31 [.ref 90, .long x1, rx_no, .int x3] [] (rx_hp L t hi hl v) Q
    refine rx_aw_s 1 (pc := 31) rfl ?_
    show rx_aw 208 32 [.ref 90, .long x1, rx_no, .int x3] [.long x1] (rx_hp L t hi hl v) Q
    exact rx_aw_ret (pc := 32) rfl k
  · have k := k.2 c1
    show rx_aw 208 12 [.ref 90, .long x1, rx_no, .int x3] [] (rx_hp L t hi hl v) Q
    refine rx_aw_s 6 (pc := 12) rfl ?_
    show rx_aw 208 22 [.ref 90, .long x1, rx_no, .int x3] [.int ((402 : Int32) * x3), .ref 105, .long x1] (rx_hp L t hi hl v) Q
    obtain ⟨j2, ej2, hj2, k⟩ := k
    refine rx_aw_lald (pc := 22) (n := 2412) j2 ej2 rfl rfl (by decide) rfl hj2 (by decide) ?_
    show rx_aw 208 23 [.ref 90, .long x1, rx_no, .int x3] [.long (hl 105 j2), .long x1] (rx_hp L t hi hl v) Q
    refine rx_aw_s 4 (pc := 23) rfl ?_
    show rx_aw 208 4 [.ref 90, .long (x1 ||| (hl 105 j2)), rx_no, .int (x3 + (1 : Int32))] [] (rx_hp L t hi hl v) Q
    exact k
set_option maxRecDepth 100000 in
/-- CartFloorModel.isAnyMove()Z -/
theorem w209_isAnyMove_r {L : Nat} {t : List (Nat × Nat)} {hi : Nat → Nat → Int32} {hl : Nat → Nat → Int64} {v : Nat → Nat → Option Nat} {Q : Option Value → rx_H → Prop}  (k : rx_aw 209 4 [.ref 90, .int (0 : Int32), .int (0 : Int32)] [] (rx_hp L t hi hl v) Q) : rx_me 209 [.ref 90] (rx_hp L t hi hl v) Q := by
  show rx_aw 209 0 [.ref 90, rx_no, rx_no] [] (rx_hp L t hi hl v) Q
  refine rx_aw_s 4 (pc := 0) rfl ?_
  show rx_aw 209 4 [.ref 90, .int (0 : Int32), .int (0 : Int32)] [] (rx_hp L t hi hl v) Q
  exact k
set_option maxRecDepth 100000 in
theorem w209_isAnyMove_r_4 {L : Nat} {t : List (Nat × Nat)} {hi : Nat → Nat → Int32} {hl : Nat → Nat → Int64} {v : Nat → Nat → Option Nat} {Q : Option Value → rx_H → Prop} {x1 : Int32} {x2 : Int32} (k : (((hi 90 6) ≤ x2 → ((x1 = 0 ∨ x1 = 1) ∧ Q (some (.int x1)) (rx_hp L t hi hl v))) ∧ (¬ ((hi 90 6) ≤ x2) → (∃ j2 : Nat, x2 = nI j2 ∧ j2 < 6 ∧ (((hi 94 j2) ≤ 0 → rx_aw 209 4 [.ref 90, .int (x1 ||| (0 : Int32)), .int (x2 + (1 : Int32))] [] (rx_hp L t hi hl v) Q) ∧ (¬ ((hi 94 j2) ≤ 0) → rx_aw 209 4 [.ref 90, .int (x1 ||| (1 : Int32)), .int (x2 + (1 : Int32))] [] (rx_hp L t hi hl v) Q)))))) : rx_aw 209 4 [.ref 90, .int x1, .int x2] [] (rx_hp L t hi hl v) Q := by
  refine rx_aw_s 4 (pc := 4) rfl ?_
  refine rx_w_if (c := (hi 90 6) ≤ x2) ⟨fun c1 => ?_, fun c1 => ?_⟩
  · have k := k.1 c1
    show rx_aw 209 35 [.ref 90, .int x1, .int x2] [] (rx_hp L t hi hl v) Q
    refine rx_aw_s 1 (pc := 35) rfl ?_
    show rx_aw 209 36 [.ref 90, .int x1, .int x2] [.int x1] (rx_hp L t hi hl v) Q
    exact rx_w_zret (pc := 36) rfl rfl k
  · have k := k.2 c1
    show rx_aw 209 12 [.ref 90, .int x1, .int x2] [] (rx_hp L t hi hl v) Q
    refine rx_aw_s 4 (pc := 12) rfl ?_
    show rx_aw 209 18 [.ref 90, .int x1, .int x2] [.int x2, .ref 94, .int x1] (rx_hp L t hi hl v) Q
    obtain ⟨j2, ej2, hj2, k⟩ := k
    refine rx_aw_iald (pc := 18) (n := 6) j2 ej2 rfl rfl rfl hj2 (by decide) ?_
    show rx_aw 209 19 [.ref 90, .int x1, .int x2] [.int (hi 94 j2), .int x1] (rx_hp L t hi hl v) Q
    refine rx_aw_s 1 (pc := 19) rfl ?_
    refine rx_w_if (c := (hi 94 j2) ≤ 0) ⟨fun c3 => ?_, fun c3 => ?_⟩
    · have k := k.1 c3
      show rx_aw 209 26 [.ref 90, .int x1, .int x2] [.int x1] (rx_hp L t hi hl v) Q
      refine rx_aw_s 5 (pc := 26) rfl ?_
      show rx_aw 209 4 [.ref 90, .int (x1 ||| (0 : Int32)), .int (x2 + (1 : Int32))] [] (rx_hp L t hi hl v) Q
      exact k
    · have k := k.2 c3
      show rx_aw 209 22 [.ref 90, .int x1, .int x2] [.int x1] (rx_hp L t hi hl v) Q
      refine rx_aw_s 6 (pc := 22) rfl ?_
      show rx_aw 209 4 [.ref 90, .int (x1 ||| (1 : Int32)), .int (x2 + (1 : Int32))] [] (rx_hp L t hi hl v) Q
      exact k
set_option maxRecDepth 100000 in
/-- CartFloorModel.cart(IIII)I -/
theorem w210_cart_r {L : Nat} {t : List (Nat × Nat)} {hi : Nat → Nat → Int32} {hl : Nat → Nat → Int64} {v : Nat → Nat → Option Nat} {Q : Option Value → rx_H → Prop} {a0 : Int32} {a1 : Int32} {a2 : Int32} {a3 : Int32} (k : ((a0 < 0 → Q (some (.int (-2 : Int32))) (rx_hp L t hi hl v)) ∧ (¬ (a0 < 0) → (((3 : Int32) < a0 → Q (some (.int (-2 : Int32))) (rx_hp L t hi hl v)) ∧ (¬ ((3 : Int32) < a0) → rx_me 182 [.ref 90, .int a1, .int a2] (rx_hp L t hi hl v) (fun r h2 => ∃ z3 : Int32, r = some (.int z3) ∧ rx_ok2 L t h2 (fun hi3 hl3 v3 => ((z3 = 0 → Q (some (.int (-2 : Int32))) (rx_hp L t hi3 hl3 v3)) ∧ (¬ (z3 = 0) → ((a3 < 0 → Q (some (.int (-2 : Int32))) (rx_hp L t hi3 hl3 v3)) ∧ (¬ (a3 < 0) → (((3 : Int32) < a3 → Q (some (.int (-2 : Int32))) (rx_hp L t hi3 hl3 v3)) ∧ (¬ ((3 : Int32) < a3) → rx_me 209 [.ref 90] (rx_hp L t hi3 hl3 v3) (fun r h2 => ∃ z7 : Int32, r = some (.int z7) ∧ rx_ok2 L t h2 (fun hi7 hl7 v7 => ((z7 = 0 → (((hi7 90 6) = (6 : Int32) → Q (some (.int (-2 : Int32))) (rx_hp L t hi7 hl7 v7)) ∧ (¬ ((hi7 90 6) = (6 : Int32)) → rx_me 179 [.ref 90, .int a0, .int ((a2 * (hi7 90 0)) + a1), .int a3] (rx_hp L t hi7 hl7 v7) (fun r h2 => ∃ z10 : Int64, r = some (.long z10) ∧ rx_ok2 L t h2 (fun hi10 hl10 v10 => (((lg_cmp z10 (0 : Int64)) = 0 → Q (some (.int (-2 : Int32))) (rx_hp L t hi10 hl10 v10)) ∧ (¬ ((lg_cmp z10 (0 : Int64)) = 0) → rx_me 208 [.ref 90] (rx_hp L t hi10 hl10 v10) (fun r h2 => ∃ z12 : Int64, r = some (.long z12) ∧ rx_ok2 L t h2 (fun hi12 hl12 v12 => rx_me 167 [.ref 90] (rx_hp L t hi12 hl12 v12) (fun r h2 => ∃ z13 : Int64, r = some (.long z13) ∧ rx_ok2 L t h2 (fun hi13 hl13 v13 => (((lg_cmp (z10 &&& (z12 ||| z13)) (0 : Int64)) = 0 → ((a0 = (1 : Int32) → (∃ j16 : Nat, (hi13 90 6) = nI j16 ∧ j16 < 6 ∧ (∃ j17 : Nat, (hi13 90 6) = nI j17 ∧ j17 < 6 ∧ (∃ j18 : Nat, ((402 : Int32) * (hi13 90 6)) = nI j18 ∧ j18 < 2412 ∧ (∃ j19 : Nat, ((402 : Int32) * (hi13 90 6)) = nI j19 ∧ j19 < 2412 ∧ (∃ j20 : Nat, ((402 : Int32) * (hi13 90 6)) = nI j20 ∧ j20 < 2412 ∧ (∃ j21 : Nat, (hi13 90 6) = nI j21 ∧ j21 < 6 ∧ (∃ j22 : Nat, (hi13 90 6) = nI j22 ∧ j22 < 6 ∧ (∃ j23 : Nat, (hi13 90 6) = nI j23 ∧ j23 < 6 ∧ rx_me 191 [.ref 90] (rx_hp L t (rx_u (rx_u (rx_u (rx_u (rx_u (rx_u (rx_u (rx_u (rx_u hi13 93 j16 a0) 94 j17 (0 : Int32)) 101 j18 ((a2 * (hi7 90 0)) + a1)) 102 j19 a3) 103 j20 (-1 : Int32)) 96 j21 (vp_nar .boolean (0 : Int32))) 99 j22 (vp_nar .boolean (0 : Int32))) 100 j23 (0 : Int32)) 90 6 (((rx_u (rx_u (rx_u (rx_u (rx_u (rx_u (rx_u (rx_u hi13 93 j16 a0) 94 j17 (0 : Int32)) 101 j18 ((a2 * (hi7 90 0)) + a1)) 102 j19 a3) 103 j20 (-1 : Int32)) 96 j21 (vp_nar .boolean (0 : Int32))) 99 j22 (vp_nar .boolean (0 : Int32))) 100 j23 (0 : Int32)) 90 6) + (1 : Int32))) hl13 v13) (fun r h2 => r = none ∧ rx_ok2 L t h2 (fun hi24 hl24 v24 => Q (some (.int (hi13 90 6))) (rx_hp L t hi24 hl24 v24)))))))))))) ∧ (¬ (a0 = (1 : Int32)) → rx_me 171 [.ref 90, .int (0 : Int32), .int (-1 : Int32)] (rx_hp L t hi13 hl13 v13) (fun r h2 => ∃ z25 : Int64, r = some (.long z25) ∧ rx_ok2 L t h2 (fun hi25 hl25 v25 => (((lg_cmp (z10 &&& z25) (0 : Int64)) = 0 → (∃ j27 : Nat, (hi25 90 6) = nI j27 ∧ j27 < 6 ∧ (∃ j28 : Nat, (hi25 90 6) = nI j28 ∧ j28 < 6 ∧ (∃ j29 : Nat, ((402 : Int32) * (hi25 90 6)) = nI j29 ∧ j29 < 2412 ∧ (∃ j30 : Nat, ((402 : Int32) * (hi25 90 6)) = nI j30 ∧ j30 < 2412 ∧ (∃ j31 : Nat, ((402 : Int32) * (hi25 90 6)) = nI j31 ∧ j31 < 2412 ∧ (∃ j32 : Nat, (hi25 90 6) = nI j32 ∧ j32 < 6 ∧ (∃ j33 : Nat, (hi25 90 6) = nI j33 ∧ j33 < 6 ∧ (∃ j34 : Nat, (hi25 90 6) = nI j34 ∧ j34 < 6 ∧ rx_me 191 [.ref 90] (rx_hp L t (rx_u (rx_u (rx_u (rx_u (rx_u (rx_u (rx_u (rx_u (rx_u hi25 93 j27 a0) 94 j28 (0 : Int32)) 101 j29 ((a2 * (hi7 90 0)) + a1)) 102 j30 a3) 103 j31 (-1 : Int32)) 96 j32 (vp_nar .boolean (0 : Int32))) 99 j33 (vp_nar .boolean (0 : Int32))) 100 j34 (0 : Int32)) 90 6 (((rx_u (rx_u (rx_u (rx_u (rx_u (rx_u (rx_u (rx_u hi25 93 j27 a0) 94 j28 (0 : Int32)) 101 j29 ((a2 * (hi7 90 0)) + a1)) 102 j30 a3) 103 j31 (-1 : Int32)) 96 j32 (vp_nar .boolean (0 : Int32))) 99 j33 (vp_nar .boolean (0 : Int32))) 100 j34 (0 : Int32)) 90 6) + (1 : Int32))) hl25 v25) (fun r h2 => r = none ∧ rx_ok2 L t h2 (fun hi35 hl35 v35 => Q (some (.int (hi25 90 6))) (rx_hp L t hi35 hl35 v35)))))))))))) ∧ (¬ ((lg_cmp (z10 &&& z25) (0 : Int64)) = 0) → Q (some (.int (-2 : Int32))) (rx_hp L t hi25 hl25 v25)))))))) ∧ (¬ ((lg_cmp (z10 &&& (z12 ||| z13)) (0 : Int64)) = 0) → Q (some (.int (-2 : Int32))) (rx_hp L t hi13 hl13 v13)))))))))))))) ∧ (¬ (z7 = 0) → Q (some (.int (-2 : Int32))) (rx_hp L t hi7 hl7 v7)))))))))))))))))) : rx_me 210 [.ref 90, .int a0, .int a1, .int a2, .int a3] (rx_hp L t hi hl v) Q := by
  show rx_aw 210 0 [.ref 90, .int a0, .int a1, .int a2, .int a3, rx_no, rx_no, rx_no, rx_no] [] (rx_hp L t hi hl v) Q
  refine rx_aw_s 2 (pc := 0) rfl ?_
  refine rx_w_if (c := a0 < 0) ⟨fun c1 => ?_, fun c1 => ?_⟩
  · have k := k.1 c1
    show rx_aw 210 45 [.ref 90, .int a0, .int a1, .int a2, .int a3, rx_no, rx_no, rx_no, rx_no] [] (rx_hp L t hi hl v) Q
    refine rx_aw_s 1 (pc := 45) rfl ?_
    show rx_aw 210 47 [.ref 90, .int a0, .int a1, .int a2, .int a3, rx_no, rx_no, rx_no, rx_no] [.int (-2 : Int32)] (rx_hp L t hi hl v) Q
    exact rx_aw_ret (pc := 47) rfl k
  · have k := k.2 c1
    show rx_aw 210 4 [.ref 90, .int a0, .int a1, .int a2, .int a3, rx_no, rx_no, rx_no, rx_no] [] (rx_hp L t hi hl v) Q
    refine rx_aw_s 3 (pc := 4) rfl ?_
    refine rx_w_if (c := (3 : Int32) < a0) ⟨fun c2 => ?_, fun c2 => ?_⟩
    · have k := k.1 c2
      show rx_aw 210 45 [.ref 90, .int a0, .int a1, .int a2, .int a3, rx_no, rx_no, rx_no, rx_no] [] (rx_hp L t hi hl v) Q
      refine rx_aw_s 1 (pc := 45) rfl ?_
      show rx_aw 210 47 [.ref 90, .int a0, .int a1, .int a2, .int a3, rx_no, rx_no, rx_no, rx_no] [.int (-2 : Int32)] (rx_hp L t hi hl v) Q
      exact rx_aw_ret (pc := 47) rfl k
    · have k := k.2 c2
      show rx_aw 210 9 [.ref 90, .int a0, .int a1, .int a2, .int a3, rx_no, rx_no, rx_no, rx_no] [] (rx_hp L t hi hl v) Q
      refine rx_aw_s 3 (pc := 9) rfl ?_
      show rx_aw 210 12 [.ref 90, .int a0, .int a1, .int a2, .int a3, rx_no, rx_no, rx_no, rx_no] [.int a2, .int a1, .ref 90] (rx_hp L t hi hl v) Q
      refine rx_w_callI (j := 182) (pc := 12) rfl rfl rfl rfl rfl ?_
      refine rx_aw.mono k (fun r h2 k => ?_)
      obtain ⟨z3, rfl, hi3, hl3, v3, rfl, k⟩ := k
      refine ⟨z3, rfl, ?_⟩
      show rx_aw 210 15 [.ref 90, .int a0, .int a1, .int a2, .int a3, rx_no, rx_no, rx_no, rx_no] [.int z3] (rx_hp L t hi3 hl3 v3) Q
      refine rx_aw_s 1 (pc := 15) rfl ?_
      refine rx_w_if (c := z3 = 0) ⟨fun c4 => ?_, fun c4 => ?_⟩
      · have k := k.1 c4
        show rx_aw 210 45 [.ref 90, .int a0, .int a1, .int a2, .int a3, rx_no, rx_no, rx_no, rx_no] [] (rx_hp L t hi3 hl3 v3) Q
        refine rx_aw_s 1 (pc := 45) rfl ?_
        show rx_aw 210 47 [.ref 90, .int a0, .int a1, .int a2, .int a3, rx_no, rx_no, rx_no, rx_no] [.int (-2 : Int32)] (rx_hp L t hi3 hl3 v3) Q
        exact rx_aw_ret (pc := 47) rfl k
      · have k := k.2 c4
        show rx_aw 210 18 [.ref 90, .int a0, .int a1, .int a2, .int a3, rx_no, rx_no, rx_no, rx_no] [] (rx_hp L t hi3 hl3 v3) Q
        refine rx_aw_s 2 (pc := 18) rfl ?_
        refine rx_w_if (c := a3 < 0) ⟨fun c5 => ?_, fun c5 => ?_⟩
        · have k := k.1 c5
          show rx_aw 210 45 [.ref 90, .int a0, .int a1, .int a2, .int a3, rx_no, rx_no, rx_no, rx_no] [] (rx_hp L t hi3 hl3 v3) Q
          refine rx_aw_s 1 (pc := 45) rfl ?_
          show rx_aw 210 47 [.ref 90, .int a0, .int a1, .int a2, .int a3, rx_no, rx_no, rx_no, rx_no] [.int (-2 : Int32)] (rx_hp L t hi3 hl3 v3) Q
          exact rx_aw_ret (pc := 47) rfl k
        · have k := k.2 c5
          show rx_aw 210 23 [.ref 90, .int a0, .int a1, .int a2, .int a3, rx_no, rx_no, rx_no, rx_no] [] (rx_hp L t hi3 hl3 v3) Q
          refine rx_aw_s 3 (pc := 23) rfl ?_
          refine rx_w_if (c := (3 : Int32) < a3) ⟨fun c6 => ?_, fun c6 => ?_⟩
          · have k := k.1 c6
            show rx_aw 210 45 [.ref 90, .int a0, .int a1, .int a2, .int a3, rx_no, rx_no, rx_no, rx_no] [] (rx_hp L t hi3 hl3 v3) Q
            refine rx_aw_s 1 (pc := 45) rfl ?_
            show rx_aw 210 47 [.ref 90, .int a0, .int a1, .int a2, .int a3, rx_no, rx_no, rx_no, rx_no] [.int (-2 : Int32)] (rx_hp L t hi3 hl3 v3) Q
            exact rx_aw_ret (pc := 47) rfl k
          · have k := k.2 c6
            show rx_aw 210 29 [.ref 90, .int a0, .int a1, .int a2, .int a3, rx_no, rx_no, rx_no, rx_no] [] (rx_hp L t hi3 hl3 v3) Q
            refine rx_aw_s 1 (pc := 29) rfl ?_
            show rx_aw 210 30 [.ref 90, .int a0, .int a1, .int a2, .int a3, rx_no, rx_no, rx_no, rx_no] [.ref 90] (rx_hp L t hi3 hl3 v3) Q
            refine rx_w_callI (j := 209) (pc := 30) rfl rfl rfl rfl rfl ?_
            refine rx_aw.mono k (fun r h2 k => ?_)
            obtain ⟨z7, rfl, hi7, hl7, v7, rfl, k⟩ := k
            refine ⟨z7, rfl, ?_⟩
            show rx_aw 210 33 [.ref 90, .int a0, .int a1, .int a2, .int a3, rx_no, rx_no, rx_no, rx_no] [.int z7] (rx_hp L t hi7 hl7 v7) Q
            refine rx_aw_s 1 (pc := 33) rfl ?_
            refine rx_w_ifn (c := z7 = 0) ⟨fun c8 => ?_, fun c8 => ?_⟩
            · have k := k.1 c8
              show rx_aw 210 36 [.ref 90, .int a0, .int a1, .int a2, .int a3, rx_no, rx_no, rx_no, rx_no] [] (rx_hp L t hi7 hl7 v7) Q
              refine rx_aw_s 4 (pc := 36) rfl ?_
              refine rx_w_ifn (c := (hi7 90 6) = (6 : Int32)) ⟨fun c9 => ?_, fun c9 => ?_⟩
              · have k := k.1 c9
                show rx_aw 210 45 [.ref 90, .int a0, .int a1, .int a2, .int a3, rx_no, rx_no, rx_no, rx_no] [] (rx_hp L t hi7 hl7 v7) Q
                refine rx_aw_s 1 (pc := 45) rfl ?_
                show rx_aw 210 47 [.ref 90, .int a0, .int a1, .int a2, .int a3, rx_no, rx_no, rx_no, rx_no] [.int (-2 : Int32)] (rx_hp L t hi7 hl7 v7) Q
                exact rx_aw_ret (pc := 47) rfl k
              · have k := k.2 c9
                show rx_aw 210 48 [.ref 90, .int a0, .int a1, .int a2, .int a3, rx_no, rx_no, rx_no, rx_no] [] (rx_hp L t hi7 hl7 v7) Q
                refine rx_aw_s 11 (pc := 48) rfl ?_
                show rx_aw 210 64 [.ref 90, .int a0, .int a1, .int a2, .int a3, .int ((a2 * (hi7 90 0)) + a1), rx_no, rx_no, rx_no] [.int a3, .int ((a2 * (hi7 90 0)) + a1), .int a0, .ref 90] (rx_hp L t hi7 hl7 v7) Q
                refine rx_w_callL (j := 179) (pc := 64) rfl rfl rfl rfl rfl ?_
                refine rx_aw.mono k (fun r h2 k => ?_)
                obtain ⟨z10, rfl, hi10, hl10, v10, rfl, k⟩ := k
                refine ⟨z10, rfl, ?_⟩
                show rx_aw 210 67 [.ref 90, .int a0, .int a1, .int a2, .int a3, .int ((a2 * (hi7 90 0)) + a1), rx_no, rx_no, rx_no] [.long z10] (rx_hp L t hi10 hl10 v10) Q
                refine rx_aw_s 5 (pc := 67) rfl ?_
                refine rx_w_if (c := (lg_cmp z10 (0 : Int64)) = 0) ⟨fun c11 => ?_, fun c11 => ?_⟩
                · have k := k.1 c11
                  show rx_aw 210 112 [.ref 90, .int a0, .int a1, .int a2, .int a3, .int ((a2 * (hi7 90 0)) + a1), .long z10, rx_no, rx_no] [] (rx_hp L t hi10 hl10 v10) Q
                  refine rx_aw_s 1 (pc := 112) rfl ?_
                  show rx_aw 210 114 [.ref 90, .int a0, .int a1, .int a2, .int a3, .int ((a2 * (hi7 90 0)) + a1), .long z10, rx_no, rx_no] [.int (-2 : Int32)] (rx_hp L t hi10 hl10 v10) Q
                  exact rx_aw_ret (pc := 114) rfl k
                · have k := k.2 c11
                  show rx_aw 210 76 [.ref 90, .int a0, .int a1, .int a2, .int a3, .int ((a2 * (hi7 90 0)) + a1), .long z10, rx_no, rx_no] [] (rx_hp L t hi10 hl10 v10) Q
                  refine rx_aw_s 2 (pc := 76) rfl ?_
                  show rx_aw 210 79 [.ref 90, .int a0, .int a1, .int a2, .int a3, .int ((a2 * (hi7 90 0)) + a1), .long z10, rx_no, rx_no] [.ref 90, .long z10] (rx_hp L t hi10 hl10 v10) Q
                  refine rx_w_callL (j := 208) (pc := 79) rfl rfl rfl rfl rfl ?_
                  refine rx_aw.mono k (fun r h2 k => ?_)
                  obtain ⟨z12, rfl, hi12, hl12, v12, rfl, k⟩ := k
                  refine ⟨z12, rfl, ?_⟩
                  show rx_aw 210 82 [.ref 90, .int a0, .int a1, .int a2, .int a3, .int ((a2 * (hi7 90 0)) + a1), .long z10, rx_no, rx_no] [.long z12, .long z10] (rx_hp L t hi12 hl12 v12) Q
                  refine rx_aw_s 1 (pc := 82) rfl ?_
                  show rx_aw 210 83 [.ref 90, .int a0, .int a1, .int a2, .int a3, .int ((a2 * (hi7 90 0)) + a1), .long z10, rx_no, rx_no] [.ref 90, .long z12, .long z10] (rx_hp L t hi12 hl12 v12) Q
                  refine rx_w_callL (j := 167) (pc := 83) rfl rfl rfl rfl rfl ?_
                  refine rx_aw.mono k (fun r h2 k => ?_)
                  obtain ⟨z13, rfl, hi13, hl13, v13, rfl, k⟩ := k
                  refine ⟨z13, rfl, ?_⟩
                  show rx_aw 210 86 [.ref 90, .int a0, .int a1, .int a2, .int a3, .int ((a2 * (hi7 90 0)) + a1), .long z10, rx_no, rx_no] [.long z13, .long z12, .long z10] (rx_hp L t hi13 hl13 v13) Q
                  refine rx_aw_s 5 (pc := 86) rfl ?_
                  refine rx_w_ifn (c := (lg_cmp (z10 &&& (z12 ||| z13)) (0 : Int64)) = 0) ⟨fun c14 => ?_, fun c14 => ?_⟩
                  · have k := k.1 c14
                    show rx_aw 210 93 [.ref 90, .int a0, .int a1, .int a2, .int a3, .int ((a2 * (hi7 90 0)) + a1), .long z10, rx_no, rx_no] [] (rx_hp L t hi13 hl13 v13) Q
                    refine rx_aw_s 3 (pc := 93) rfl ?_
                    refine rx_w_if (c := a0 = (1 : Int32)) ⟨fun c15 => ?_, fun c15 => ?_⟩
                    · have k := k.1 c15
                      show rx_aw 210 115 [.ref 90, .int a0, .int a1, .int a2, .int a3, .int ((a2 * (hi7 90 0)) + a1), .long z10, rx_no, rx_no] [] (rx_hp L t hi13 hl13 v13) Q
                      refine rx_aw_s 7 (pc := 115) rfl ?_
                      show rx_aw 210 128 [.ref 90, .int a0, .int a1, .int a2, .int a3, .int ((a2 * (hi7 90 0)) + a1), .long z10, rx_no, .int (hi13 90 6)] [.int a0, .int (hi13 90 6), .ref 93] (rx_hp L t hi13 hl13 v13) Q
                      obtain ⟨j16, ej16, hj16, k⟩ := k
                      refine rx_aw_iast (pc := 128) (n := 6) j16 ej16 rfl rfl (by decide) rfl hj16 (by decide) ?_
                      show rx_aw 210 129 [.ref 90, .int a0, .int a1, .int a2, .int a3, .int ((a2 * (hi7 90 0)) + a1), .long z10, rx_no, .int (hi13 90 6)] [] (rx_hp L t (rx_u hi13 93 j16 a0) hl13 v13) Q
                      refine rx_aw_s 4 (pc := 129) rfl ?_
                      show rx_aw 210 136 [.ref 90, .int a0, .int a1, .int a2, .int a3, .int ((a2 * (hi7 90 0)) + a1), .long z10, rx_no, .int (hi13 90 6)] [.int (0 : Int32), .int (hi13 90 6), .ref 94] (rx_hp L t (rx_u hi13 93 j16 a0) hl13 v13) Q
                      obtain ⟨j17, ej17, hj17, k⟩ := k
                      refine rx_aw_iast (pc := 136) (n := 6) j17 ej17 rfl rfl (by decide) rfl hj17 (by decide) ?_
                      show rx_aw 210 137 [.ref 90, .int a0, .int a1, .int a2, .int a3, .int ((a2 * (hi7 90 0)) + a1), .long z10, rx_no, .int (hi13 90 6)] [] (rx_hp L t (rx_u (rx_u hi13 93 j16 a0) 94 j17 (0 : Int32)) hl13 v13) Q
                      refine rx_aw_s 6 (pc := 137) rfl ?_
                      show rx_aw 210 149 [.ref 90, .int a0, .int a1, .int a2, .int a3, .int ((a2 * (hi7 90 0)) + a1), .long z10, rx_no, .int (hi13 90 6)] [.int ((a2 * (hi7 90 0)) + a1), .int ((402 : Int32) * (hi13 90 6)), .ref 101] (rx_hp L t (rx_u (rx_u hi13 93 j16 a0) 94 j17 (0 : Int32)) hl13 v13) Q
                      obtain ⟨j18, ej18, hj18, k⟩ := k
                      refine rx_aw_iast (pc := 149) (n := 2412) j18 ej18 rfl rfl (by decide) rfl hj18 (by decide) ?_
                      show rx_aw 210 150 [.ref 90, .int a0, .int a1, .int a2, .int a3, .int ((a2 * (hi7 90 0)) + a1), .long z10, rx_no, .int (hi13 90 6)] [] (rx_hp L t (rx_u (rx_u (rx_u hi13 93 j16 a0) 94 j17 (0 : Int32)) 101 j18 ((a2 * (hi7 90 0)) + a1)) hl13 v13) Q
                      refine rx_aw_s 6 (pc := 150) rfl ?_
                      show rx_aw 210 162 [.ref 90, .int a0, .int a1, .int a2, .int a3, .int ((a2 * (hi7 90 0)) + a1), .long z10, rx_no, .int (hi13 90 6)] [.int a3, .int ((402 : Int32) * (hi13 90 6)), .ref 102] (rx_hp L t (rx_u (rx_u (rx_u hi13 93 j16 a0) 94 j17 (0 : Int32)) 101 j18 ((a2 * (hi7 90 0)) + a1)) hl13 v13) Q
                      obtain ⟨j19, ej19, hj19, k⟩ := k
                      refine rx_aw_iast (pc := 162) (n := 2412) j19 ej19 rfl rfl (by decide) rfl hj19 (by decide) ?_
                      show rx_aw 210 163 [.ref 90, .int a0, .int a1, .int a2, .int a3, .int ((a2 * (hi7 90 0)) + a1), .long z10, rx_no, .int (hi13 90 6)] [] (rx_hp L t (rx_u (rx_u (rx_u (rx_u hi13 93 j16 a0) 94 j17 (0 : Int32)) 101 j18 ((a2 * (hi7 90 0)) + a1)) 102 j19 a3) hl13 v13) Q
                      refine rx_aw_s 6 (pc := 163) rfl ?_
                      show rx_aw 210 174 [.ref 90, .int a0, .int a1, .int a2, .int a3, .int ((a2 * (hi7 90 0)) + a1), .long z10, rx_no, .int (hi13 90 6)] [.int (-1 : Int32), .int ((402 : Int32) * (hi13 90 6)), .ref 103] (rx_hp L t (rx_u (rx_u (rx_u (rx_u hi13 93 j16 a0) 94 j17 (0 : Int32)) 101 j18 ((a2 * (hi7 90 0)) + a1)) 102 j19 a3) hl13 v13) Q
                      obtain ⟨j20, ej20, hj20, k⟩ := k
                      refine rx_aw_iast (pc := 174) (n := 2412) j20 ej20 rfl rfl (by decide) rfl hj20 (by decide) ?_
                      show rx_aw 210 175 [.ref 90, .int a0, .int a1, .int a2, .int a3, .int ((a2 * (hi7 90 0)) + a1), .long z10, rx_no, .int (hi13 90 6)] [] (rx_hp L t (rx_u (rx_u (rx_u (rx_u (rx_u hi13 93 j16 a0) 94 j17 (0 : Int32)) 101 j18 ((a2 * (hi7 90 0)) + a1)) 102 j19 a3) 103 j20 (-1 : Int32)) hl13 v13) Q
                      refine rx_aw_s 4 (pc := 175) rfl ?_
                      show rx_aw 210 182 [.ref 90, .int a0, .int a1, .int a2, .int a3, .int ((a2 * (hi7 90 0)) + a1), .long z10, rx_no, .int (hi13 90 6)] [.int (0 : Int32), .int (hi13 90 6), .ref 96] (rx_hp L t (rx_u (rx_u (rx_u (rx_u (rx_u hi13 93 j16 a0) 94 j17 (0 : Int32)) 101 j18 ((a2 * (hi7 90 0)) + a1)) 102 j19 a3) 103 j20 (-1 : Int32)) hl13 v13) Q
                      obtain ⟨j21, ej21, hj21, k⟩ := k
                      refine rx_aw_zast (pc := 182) (n := 6) j21 ej21 rfl rfl (by decide) rfl hj21 (by decide) ?_
                      show rx_aw 210 183 [.ref 90, .int a0, .int a1, .int a2, .int a3, .int ((a2 * (hi7 90 0)) + a1), .long z10, rx_no, .int (hi13 90 6)] [] (rx_hp L t (rx_u (rx_u (rx_u (rx_u (rx_u (rx_u hi13 93 j16 a0) 94 j17 (0 : Int32)) 101 j18 ((a2 * (hi7 90 0)) + a1)) 102 j19 a3) 103 j20 (-1 : Int32)) 96 j21 (vp_nar .boolean (0 : Int32))) hl13 v13) Q
                      refine rx_aw_s 4 (pc := 183) rfl ?_
                      show rx_aw 210 190 [.ref 90, .int a0, .int a1, .int a2, .int a3, .int ((a2 * (hi7 90 0)) + a1), .long z10, rx_no, .int (hi13 90 6)] [.int (0 : Int32), .int (hi13 90 6), .ref 99] (rx_hp L t (rx_u (rx_u (rx_u (rx_u (rx_u (rx_u hi13 93 j16 a0) 94 j17 (0 : Int32)) 101 j18 ((a2 * (hi7 90 0)) + a1)) 102 j19 a3) 103 j20 (-1 : Int32)) 96 j21 (vp_nar .boolean (0 : Int32))) hl13 v13) Q
                      obtain ⟨j22, ej22, hj22, k⟩ := k
                      refine rx_aw_zast (pc := 190) (n := 6) j22 ej22 rfl rfl (by decide) rfl hj22 (by decide) ?_
                      show rx_aw 210 191 [.ref 90, .int a0, .int a1, .int a2, .int a3, .int ((a2 * (hi7 90 0)) + a1), .long z10, rx_no, .int (hi13 90 6)] [] (rx_hp L t (rx_u (rx_u (rx_u (rx_u (rx_u (rx_u (rx_u hi13 93 j16 a0) 94 j17 (0 : Int32)) 101 j18 ((a2 * (hi7 90 0)) + a1)) 102 j19 a3) 103 j20 (-1 : Int32)) 96 j21 (vp_nar .boolean (0 : Int32))) 99 j22 (vp_nar .boolean (0 : Int32))) hl13 v13) Q
                      refine rx_aw_s 4 (pc := 191) rfl ?_
                      show rx_aw 210 198 [.ref 90, .int a0, .int a1, .int a2, .int a3, .int ((a2 * (hi7 90 0)) + a1), .long z10, rx_no, .int (hi13 90 6)] [.int (0 : Int32), .int (hi13 90 6), .ref 100] (rx_hp L t (rx_u (rx_u (rx_u (rx_u (rx_u (rx_u (rx_u hi13 93 j16 a0) 94 j17 (0 : Int32)) 101 j18 ((a2 * (hi7 90 0)) + a1)) 102 j19 a3) 103 j20 (-1 : Int32)) 96 j21 (vp_nar .boolean (0 : Int32))) 99 j22 (vp_nar .boolean (0 : Int32))) hl13 v13) Q
                      obtain ⟨j23, ej23, hj23, k⟩ := k
                      refine rx_aw_iast (pc := 198) (n := 6) j23 ej23 rfl rfl (by decide) rfl hj23 (by decide) ?_
                      show rx_aw 210 199 [.ref 90, .int a0, .int a1, .int a2, .int a3, .int ((a2 * (hi7 90 0)) + a1), .long z10, rx_no, .int (hi13 90 6)] [] (rx_hp L t (rx_u (rx_u (rx_u (rx_u (rx_u (rx_u (rx_u (rx_u hi13 93 j16 a0) 94 j17 (0 : Int32)) 101 j18 ((a2 * (hi7 90 0)) + a1)) 102 j19 a3) 103 j20 (-1 : Int32)) 96 j21 (vp_nar .boolean (0 : Int32))) 99 j22 (vp_nar .boolean (0 : Int32))) 100 j23 (0 : Int32)) hl13 v13) Q
                      refine rx_aw_s 7 (pc := 199) rfl ?_
                      show rx_aw 210 210 [.ref 90, .int a0, .int a1, .int a2, .int a3, .int ((a2 * (hi7 90 0)) + a1), .long z10, rx_no, .int (hi13 90 6)] [.ref 90] (rx_hp L t (rx_u (rx_u (rx_u (rx_u (rx_u (rx_u (rx_u (rx_u (rx_u hi13 93 j16 a0) 94 j17 (0 : Int32)) 101 j18 ((a2 * (hi7 90 0)) + a1)) 102 j19 a3) 103 j20 (-1 : Int32)) 96 j21 (vp_nar .boolean (0 : Int32))) 99 j22 (vp_nar .boolean (0 : Int32))) 100 j23 (0 : Int32)) 90 6 (((rx_u (rx_u (rx_u (rx_u (rx_u (rx_u (rx_u (rx_u hi13 93 j16 a0) 94 j17 (0 : Int32)) 101 j18 ((a2 * (hi7 90 0)) + a1)) 102 j19 a3) 103 j20 (-1 : Int32)) 96 j21 (vp_nar .boolean (0 : Int32))) 99 j22 (vp_nar .boolean (0 : Int32))) 100 j23 (0 : Int32)) 90 6) + (1 : Int32))) hl13 v13) Q
                      refine rx_w_callV (j := 191) (pc := 210) rfl rfl rfl rfl rfl ?_
                      refine rx_aw.mono k (fun r h2 k => ?_)
                      obtain ⟨rfl, hi24, hl24, v24, rfl, k⟩ := k
                      refine ⟨rfl, ?_⟩
                      show rx_aw 210 213 [.ref 90, .int a0, .int a1, .int a2, .int a3, .int ((a2 * (hi7 90 0)) + a1), .long z10, rx_no, .int (hi13 90 6)] [] (rx_hp L t hi24 hl24 v24) Q
                      refine rx_aw_s 1 (pc := 213) rfl ?_
                      show rx_aw 210 215 [.ref 90, .int a0, .int a1, .int a2, .int a3, .int ((a2 * (hi7 90 0)) + a1), .long z10, rx_no, .int (hi13 90 6)] [.int (hi13 90 6)] (rx_hp L t hi24 hl24 v24) Q
                      exact rx_aw_ret (pc := 215) rfl k
                    · have k := k.2 c15
                      show rx_aw 210 98 [.ref 90, .int a0, .int a1, .int a2, .int a3, .int ((a2 * (hi7 90 0)) + a1), .long z10, rx_no, rx_no] [] (rx_hp L t hi13 hl13 v13) Q
                      refine rx_aw_s 4 (pc := 98) rfl ?_
                      show rx_aw 210 103 [.ref 90, .int a0, .int a1, .int a2, .int a3, .int ((a2 * (hi7 90 0)) + a1), .long z10, rx_no, rx_no] [.int (-1 : Int32), .int (0 : Int32), .ref 90, .long z10] (rx_hp L t hi13 hl13 v13) Q
                      refine rx_w_callL (j := 171) (pc := 103) rfl rfl rfl rfl rfl ?_
                      refine rx_aw.mono k (fun r h2 k => ?_)
                      obtain ⟨z25, rfl, hi25, hl25, v25, rfl, k⟩ := k
                      refine ⟨z25, rfl, ?_⟩
                      show rx_aw 210 106 [.ref 90, .int a0, .int a1, .int a2, .int a3, .int ((a2 * (hi7 90 0)) + a1), .long z10, rx_no, rx_no] [.long z25, .long z10] (rx_hp L t hi25 hl25 v25) Q
                      refine rx_aw_s 4 (pc := 106) rfl ?_
                      refine rx_w_if (c := (lg_cmp (z10 &&& z25) (0 : Int64)) = 0) ⟨fun c26 => ?_, fun c26 => ?_⟩
                      · have k := k.1 c26
                        show rx_aw 210 115 [.ref 90, .int a0, .int a1, .int a2, .int a3, .int ((a2 * (hi7 90 0)) + a1), .long z10, rx_no, rx_no] [] (rx_hp L t hi25 hl25 v25) Q
                        refine rx_aw_s 7 (pc := 115) rfl ?_
                        show rx_aw 210 128 [.ref 90, .int a0, .int a1, .int a2, .int a3, .int ((a2 * (hi7 90 0)) + a1), .long z10, rx_no, .int (hi25 90 6)] [.int a0, .int (hi25 90 6), .ref 93] (rx_hp L t hi25 hl25 v25) Q
                        obtain ⟨j27, ej27, hj27, k⟩ := k
                        refine rx_aw_iast (pc := 128) (n := 6) j27 ej27 rfl rfl (by decide) rfl hj27 (by decide) ?_
                        show rx_aw 210 129 [.ref 90, .int a0, .int a1, .int a2, .int a3, .int ((a2 * (hi7 90 0)) + a1), .long z10, rx_no, .int (hi25 90 6)] [] (rx_hp L t (rx_u hi25 93 j27 a0) hl25 v25) Q
                        refine rx_aw_s 4 (pc := 129) rfl ?_
                        show rx_aw 210 136 [.ref 90, .int a0, .int a1, .int a2, .int a3, .int ((a2 * (hi7 90 0)) + a1), .long z10, rx_no, .int (hi25 90 6)] [.int (0 : Int32), .int (hi25 90 6), .ref 94] (rx_hp L t (rx_u hi25 93 j27 a0) hl25 v25) Q
                        obtain ⟨j28, ej28, hj28, k⟩ := k
                        refine rx_aw_iast (pc := 136) (n := 6) j28 ej28 rfl rfl (by decide) rfl hj28 (by decide) ?_
                        show rx_aw 210 137 [.ref 90, .int a0, .int a1, .int a2, .int a3, .int ((a2 * (hi7 90 0)) + a1), .long z10, rx_no, .int (hi25 90 6)] [] (rx_hp L t (rx_u (rx_u hi25 93 j27 a0) 94 j28 (0 : Int32)) hl25 v25) Q
                        refine rx_aw_s 6 (pc := 137) rfl ?_
                        show rx_aw 210 149 [.ref 90, .int a0, .int a1, .int a2, .int a3, .int ((a2 * (hi7 90 0)) + a1), .long z10, rx_no, .int (hi25 90 6)] [.int ((a2 * (hi7 90 0)) + a1), .int ((402 : Int32) * (hi25 90 6)), .ref 101] (rx_hp L t (rx_u (rx_u hi25 93 j27 a0) 94 j28 (0 : Int32)) hl25 v25) Q
                        obtain ⟨j29, ej29, hj29, k⟩ := k
                        refine rx_aw_iast (pc := 149) (n := 2412) j29 ej29 rfl rfl (by decide) rfl hj29 (by decide) ?_
                        show rx_aw 210 150 [.ref 90, .int a0, .int a1, .int a2, .int a3, .int ((a2 * (hi7 90 0)) + a1), .long z10, rx_no, .int (hi25 90 6)] [] (rx_hp L t (rx_u (rx_u (rx_u hi25 93 j27 a0) 94 j28 (0 : Int32)) 101 j29 ((a2 * (hi7 90 0)) + a1)) hl25 v25) Q
                        refine rx_aw_s 6 (pc := 150) rfl ?_
                        show rx_aw 210 162 [.ref 90, .int a0, .int a1, .int a2, .int a3, .int ((a2 * (hi7 90 0)) + a1), .long z10, rx_no, .int (hi25 90 6)] [.int a3, .int ((402 : Int32) * (hi25 90 6)), .ref 102] (rx_hp L t (rx_u (rx_u (rx_u hi25 93 j27 a0) 94 j28 (0 : Int32)) 101 j29 ((a2 * (hi7 90 0)) + a1)) hl25 v25) Q
                        obtain ⟨j30, ej30, hj30, k⟩ := k
                        refine rx_aw_iast (pc := 162) (n := 2412) j30 ej30 rfl rfl (by decide) rfl hj30 (by decide) ?_
                        show rx_aw 210 163 [.ref 90, .int a0, .int a1, .int a2, .int a3, .int ((a2 * (hi7 90 0)) + a1), .long z10, rx_no, .int (hi25 90 6)] [] (rx_hp L t (rx_u (rx_u (rx_u (rx_u hi25 93 j27 a0) 94 j28 (0 : Int32)) 101 j29 ((a2 * (hi7 90 0)) + a1)) 102 j30 a3) hl25 v25) Q
                        refine rx_aw_s 6 (pc := 163) rfl ?_
                        show rx_aw 210 174 [.ref 90, .int a0, .int a1, .int a2, .int a3, .int ((a2 * (hi7 90 0)) + a1), .long z10, rx_no, .int (hi25 90 6)] [.int (-1 : Int32), .int ((402 : Int32) * (hi25 90 6)), .ref 103] (rx_hp L t (rx_u (rx_u (rx_u (rx_u hi25 93 j27 a0) 94 j28 (0 : Int32)) 101 j29 ((a2 * (hi7 90 0)) + a1)) 102 j30 a3) hl25 v25) Q
                        obtain ⟨j31, ej31, hj31, k⟩ := k
                        refine rx_aw_iast (pc := 174) (n := 2412) j31 ej31 rfl rfl (by decide) rfl hj31 (by decide) ?_
                        show rx_aw 210 175 [.ref 90, .int a0, .int a1, .int a2, .int a3, .int ((a2 * (hi7 90 0)) + a1), .long z10, rx_no, .int (hi25 90 6)] [] (rx_hp L t (rx_u (rx_u (rx_u (rx_u (rx_u hi25 93 j27 a0) 94 j28 (0 : Int32)) 101 j29 ((a2 * (hi7 90 0)) + a1)) 102 j30 a3) 103 j31 (-1 : Int32)) hl25 v25) Q
                        refine rx_aw_s 4 (pc := 175) rfl ?_
                        show rx_aw 210 182 [.ref 90, .int a0, .int a1, .int a2, .int a3, .int ((a2 * (hi7 90 0)) + a1), .long z10, rx_no, .int (hi25 90 6)] [.int (0 : Int32), .int (hi25 90 6), .ref 96] (rx_hp L t (rx_u (rx_u (rx_u (rx_u (rx_u hi25 93 j27 a0) 94 j28 (0 : Int32)) 101 j29 ((a2 * (hi7 90 0)) + a1)) 102 j30 a3) 103 j31 (-1 : Int32)) hl25 v25) Q
                        obtain ⟨j32, ej32, hj32, k⟩ := k
                        refine rx_aw_zast (pc := 182) (n := 6) j32 ej32 rfl rfl (by decide) rfl hj32 (by decide) ?_
                        show rx_aw 210 183 [.ref 90, .int a0, .int a1, .int a2, .int a3, .int ((a2 * (hi7 90 0)) + a1), .long z10, rx_no, .int (hi25 90 6)] [] (rx_hp L t (rx_u (rx_u (rx_u (rx_u (rx_u (rx_u hi25 93 j27 a0) 94 j28 (0 : Int32)) 101 j29 ((a2 * (hi7 90 0)) + a1)) 102 j30 a3) 103 j31 (-1 : Int32)) 96 j32 (vp_nar .boolean (0 : Int32))) hl25 v25) Q
                        refine rx_aw_s 4 (pc := 183) rfl ?_
                        show rx_aw 210 190 [.ref 90, .int a0, .int a1, .int a2, .int a3, .int ((a2 * (hi7 90 0)) + a1), .long z10, rx_no, .int (hi25 90 6)] [.int (0 : Int32), .int (hi25 90 6), .ref 99] (rx_hp L t (rx_u (rx_u (rx_u (rx_u (rx_u (rx_u hi25 93 j27 a0) 94 j28 (0 : Int32)) 101 j29 ((a2 * (hi7 90 0)) + a1)) 102 j30 a3) 103 j31 (-1 : Int32)) 96 j32 (vp_nar .boolean (0 : Int32))) hl25 v25) Q
                        obtain ⟨j33, ej33, hj33, k⟩ := k
                        refine rx_aw_zast (pc := 190) (n := 6) j33 ej33 rfl rfl (by decide) rfl hj33 (by decide) ?_
                        show rx_aw 210 191 [.ref 90, .int a0, .int a1, .int a2, .int a3, .int ((a2 * (hi7 90 0)) + a1), .long z10, rx_no, .int (hi25 90 6)] [] (rx_hp L t (rx_u (rx_u (rx_u (rx_u (rx_u (rx_u (rx_u hi25 93 j27 a0) 94 j28 (0 : Int32)) 101 j29 ((a2 * (hi7 90 0)) + a1)) 102 j30 a3) 103 j31 (-1 : Int32)) 96 j32 (vp_nar .boolean (0 : Int32))) 99 j33 (vp_nar .boolean (0 : Int32))) hl25 v25) Q
                        refine rx_aw_s 4 (pc := 191) rfl ?_
                        show rx_aw 210 198 [.ref 90, .int a0, .int a1, .int a2, .int a3, .int ((a2 * (hi7 90 0)) + a1), .long z10, rx_no, .int (hi25 90 6)] [.int (0 : Int32), .int (hi25 90 6), .ref 100] (rx_hp L t (rx_u (rx_u (rx_u (rx_u (rx_u (rx_u (rx_u hi25 93 j27 a0) 94 j28 (0 : Int32)) 101 j29 ((a2 * (hi7 90 0)) + a1)) 102 j30 a3) 103 j31 (-1 : Int32)) 96 j32 (vp_nar .boolean (0 : Int32))) 99 j33 (vp_nar .boolean (0 : Int32))) hl25 v25) Q
                        obtain ⟨j34, ej34, hj34, k⟩ := k
                        refine rx_aw_iast (pc := 198) (n := 6) j34 ej34 rfl rfl (by decide) rfl hj34 (by decide) ?_
                        show rx_aw 210 199 [.ref 90, .int a0, .int a1, .int a2, .int a3, .int ((a2 * (hi7 90 0)) + a1), .long z10, rx_no, .int (hi25 90 6)] [] (rx_hp L t (rx_u (rx_u (rx_u (rx_u (rx_u (rx_u (rx_u (rx_u hi25 93 j27 a0) 94 j28 (0 : Int32)) 101 j29 ((a2 * (hi7 90 0)) + a1)) 102 j30 a3) 103 j31 (-1 : Int32)) 96 j32 (vp_nar .boolean (0 : Int32))) 99 j33 (vp_nar .boolean (0 : Int32))) 100 j34 (0 : Int32)) hl25 v25) Q
                        refine rx_aw_s 7 (pc := 199) rfl ?_
                        show rx_aw 210 210 [.ref 90, .int a0, .int a1, .int a2, .int a3, .int ((a2 * (hi7 90 0)) + a1), .long z10, rx_no, .int (hi25 90 6)] [.ref 90] (rx_hp L t (rx_u (rx_u (rx_u (rx_u (rx_u (rx_u (rx_u (rx_u (rx_u hi25 93 j27 a0) 94 j28 (0 : Int32)) 101 j29 ((a2 * (hi7 90 0)) + a1)) 102 j30 a3) 103 j31 (-1 : Int32)) 96 j32 (vp_nar .boolean (0 : Int32))) 99 j33 (vp_nar .boolean (0 : Int32))) 100 j34 (0 : Int32)) 90 6 (((rx_u (rx_u (rx_u (rx_u (rx_u (rx_u (rx_u (rx_u hi25 93 j27 a0) 94 j28 (0 : Int32)) 101 j29 ((a2 * (hi7 90 0)) + a1)) 102 j30 a3) 103 j31 (-1 : Int32)) 96 j32 (vp_nar .boolean (0 : Int32))) 99 j33 (vp_nar .boolean (0 : Int32))) 100 j34 (0 : Int32)) 90 6) + (1 : Int32))) hl25 v25) Q
                        refine rx_w_callV (j := 191) (pc := 210) rfl rfl rfl rfl rfl ?_
                        refine rx_aw.mono k (fun r h2 k => ?_)
                        obtain ⟨rfl, hi35, hl35, v35, rfl, k⟩ := k
                        refine ⟨rfl, ?_⟩
                        show rx_aw 210 213 [.ref 90, .int a0, .int a1, .int a2, .int a3, .int ((a2 * (hi7 90 0)) + a1), .long z10, rx_no, .int (hi25 90 6)] [] (rx_hp L t hi35 hl35 v35) Q
                        refine rx_aw_s 1 (pc := 213) rfl ?_
                        show rx_aw 210 215 [.ref 90, .int a0, .int a1, .int a2, .int a3, .int ((a2 * (hi7 90 0)) + a1), .long z10, rx_no, .int (hi25 90 6)] [.int (hi25 90 6)] (rx_hp L t hi35 hl35 v35) Q
                        exact rx_aw_ret (pc := 215) rfl k
                      · have k := k.2 c26
                        show rx_aw 210 112 [.ref 90, .int a0, .int a1, .int a2, .int a3, .int ((a2 * (hi7 90 0)) + a1), .long z10, rx_no, rx_no] [] (rx_hp L t hi25 hl25 v25) Q
                        refine rx_aw_s 1 (pc := 112) rfl ?_
                        show rx_aw 210 114 [.ref 90, .int a0, .int a1, .int a2, .int a3, .int ((a2 * (hi7 90 0)) + a1), .long z10, rx_no, rx_no] [.int (-2 : Int32)] (rx_hp L t hi25 hl25 v25) Q
                        exact rx_aw_ret (pc := 114) rfl k
                  · have k := k.2 c14
                    show rx_aw 210 112 [.ref 90, .int a0, .int a1, .int a2, .int a3, .int ((a2 * (hi7 90 0)) + a1), .long z10, rx_no, rx_no] [] (rx_hp L t hi13 hl13 v13) Q
                    refine rx_aw_s 1 (pc := 112) rfl ?_
                    show rx_aw 210 114 [.ref 90, .int a0, .int a1, .int a2, .int a3, .int ((a2 * (hi7 90 0)) + a1), .long z10, rx_no, rx_no] [.int (-2 : Int32)] (rx_hp L t hi13 hl13 v13) Q
                    exact rx_aw_ret (pc := 114) rfl k
            · have k := k.2 c8
              show rx_aw 210 45 [.ref 90, .int a0, .int a1, .int a2, .int a3, rx_no, rx_no, rx_no, rx_no] [] (rx_hp L t hi7 hl7 v7) Q
              refine rx_aw_s 1 (pc := 45) rfl ?_
              show rx_aw 210 47 [.ref 90, .int a0, .int a1, .int a2, .int a3, rx_no, rx_no, rx_no, rx_no] [.int (-2 : Int32)] (rx_hp L t hi7 hl7 v7) Q
              exact rx_aw_ret (pc := 47) rfl k
set_option maxRecDepth 100000 in
/-- CartFloorModel.errand(IIII)I -/
theorem w211_errand_r {L : Nat} {t : List (Nat × Nat)} {hi : Nat → Nat → Int32} {hl : Nat → Nat → Int64} {v : Nat → Nat → Option Nat} {Q : Option Value → rx_H → Prop} {a0 : Int32} {a1 : Int32} {a2 : Int32} {a3 : Int32} (k : rx_me 161 [.ref 90, .int a0] (rx_hp L t hi hl v) (fun r h2 => ∃ z1 : Int32, r = some (.int z1) ∧ rx_ok2 L t h2 (fun hi1 hl1 v1 => ((z1 = 0 → Q (some (.int (-2 : Int32))) (rx_hp L t hi1 hl1 v1)) ∧ (¬ (z1 = 0) → (∃ j3 : Nat, a0 = nI j3 ∧ j3 < 6 ∧ (((hi1 93 j3) = (3 : Int32) → Q (some (.int (-2 : Int32))) (rx_hp L t hi1 hl1 v1)) ∧ (¬ ((hi1 93 j3) = (3 : Int32)) → (∃ j5 : Nat, a0 = nI j5 ∧ j5 < 6 ∧ (((hi1 96 j5) = 0 → (∃ j7 : Nat, a0 = nI j7 ∧ j7 < 6 ∧ (((hi1 100 j7) = 0 → rx_me 182 [.ref 90, .int a1, .int a2] (rx_hp L t hi1 hl1 v1) (fun r h2 => ∃ z9 : Int32, r = some (.int z9) ∧ rx_ok2 L t h2 (fun hi9 hl9 v9 => ((z9 = 0 → Q (some (.int (-2 : Int32))) (rx_hp L t hi9 hl9 v9)) ∧ (¬ (z9 = 0) → rx_me 168 [.ref 90, .int ((a2 * (hi9 90 0)) + a1)] (rx_hp L t hi9 hl9 v9) (fun r h2 => ∃ z11 : Int32, r = some (.int z11) ∧ rx_ok2 L t h2 (fun hi11 hl11 v11 => ((z11 = 0 → ((a3 < (-1 : Int32) → Q (some (.int (-2 : Int32))) (rx_hp L t hi11 hl11 v11)) ∧ (¬ (a3 < (-1 : Int32)) → ((a3 < (hi11 90 21) → ((a3 < 0 → rx_aw 211 152 [.ref 90, .int a0, .int a1, .int a2, .int a3, .int ((a2 * (hi11 90 0)) + a1), .int (1 : Int32), .int (0 : Int32)] [] (rx_hp L t hi11 hl11 v11) Q) ∧ (¬ (a3 < 0) → (∃ j16 : Nat, a0 = nI j16 ∧ j16 < 6 ∧ (((hi11 93 j16) = (1 : Int32) → (∃ j18 : Nat, ((a2 * (hi11 90 0)) + a1) = nI j18 ∧ j18 < 64 ∧ (((hi11 91 j18) = (2 : Int32) → (∃ j20 : Nat, ((402 : Int32) * a0) = nI j20 ∧ j20 < 2412 ∧ (((hi11 103 j20) < 0 → rx_aw 211 152 [.ref 90, .int a0, .int a1, .int a2, .int a3, .int ((a2 * (hi11 90 0)) + a1), .int (1 : Int32), .int (0 : Int32)] [] (rx_hp L t hi11 hl11 v11) Q) ∧ (¬ ((hi11 103 j20) < 0) → (∃ j22 : Nat, ((402 : Int32) * a0) = nI j22 ∧ j22 < 2412 ∧ (((hi11 103 j22) = a3 → rx_aw 211 152 [.ref 90, .int a0, .int a1, .int a2, .int a3, .int ((a2 * (hi11 90 0)) + a1), .int (1 : Int32), .int (0 : Int32)] [] (rx_hp L t hi11 hl11 v11) Q) ∧ (¬ ((hi11 103 j22) = a3) → rx_aw 211 152 [.ref 90, .int a0, .int a1, .int a2, .int a3, .int ((a2 * (hi11 90 0)) + a1), .int (0 : Int32), .int (0 : Int32)] [] (rx_hp L t hi11 hl11 v11) Q))))))) ∧ (¬ ((hi11 91 j18) = (2 : Int32)) → rx_aw 211 152 [.ref 90, .int a0, .int a1, .int a2, .int a3, .int ((a2 * (hi11 90 0)) + a1), .int (0 : Int32), .int (0 : Int32)] [] (rx_hp L t hi11 hl11 v11) Q)))) ∧ (¬ ((hi11 93 j16) = (1 : Int32)) → rx_aw 211 152 [.ref 90, .int a0, .int a1, .int a2, .int a3, .int ((a2 * (hi11 90 0)) + a1), .int (0 : Int32), .int (0 : Int32)] [] (rx_hp L t hi11 hl11 v11) Q)))))) ∧ (¬ (a3 < (hi11 90 21)) → Q (some (.int (-2 : Int32))) (rx_hp L t hi11 hl11 v11)))))) ∧ (¬ (z11 = 0) → Q (some (.int (-2 : Int32))) (rx_hp L t hi11 hl11 v11)))))))))) ∧ (¬ ((hi1 100 j7) = 0) → Q (some (.int (-2 : Int32))) (rx_hp L t hi1 hl1 v1))))) ∧ (¬ ((hi1 96 j5) = 0) → Q (some (.int (-2 : Int32))) (rx_hp L t hi1 hl1 v1)))))))))))) : rx_me 211 [.ref 90, .int a0, .int a1, .int a2, .int a3] (rx_hp L t hi hl v) Q := by
  show rx_aw 211 0 [.ref 90, .int a0, .int a1, .int a2, .int a3, rx_no, rx_no, rx_no] [] (rx_hp L t hi hl v) Q
  refine rx_aw_s 2 (pc := 0) rfl ?_
  show rx_aw 211 2 [.ref 90, .int a0, .int a1, .int a2, .int a3, rx_no, rx_no, rx_no] [.int a0, .ref 90] (rx_hp L t hi hl v) Q
  refine rx_w_callI (j := 161) (pc := 2) rfl rfl rfl rfl rfl ?_
  refine rx_aw.mono k (fun r h2 k => ?_)
  obtain ⟨z1, rfl, hi1, hl1, v1, rfl, k⟩ := k
  refine ⟨z1, rfl, ?_⟩
  show rx_aw 211 5 [.ref 90, .int a0, .int a1, .int a2, .int a3, rx_no, rx_no, rx_no] [.int z1] (rx_hp L t hi1 hl1 v1) Q
  refine rx_aw_s 1 (pc := 5) rfl ?_
  refine rx_w_if (c := z1 = 0) ⟨fun c2 => ?_, fun c2 => ?_⟩
  · have k := k.1 c2
    show rx_aw 211 75 [.ref 90, .int a0, .int a1, .int a2, .int a3, rx_no, rx_no, rx_no] [] (rx_hp L t hi1 hl1 v1) Q
    refine rx_aw_s 1 (pc := 75) rfl ?_
    show rx_aw 211 77 [.ref 90, .int a0, .int a1, .int a2, .int a3, rx_no, rx_no, rx_no] [.int (-2 : Int32)] (rx_hp L t hi1 hl1 v1) Q
    exact rx_aw_ret (pc := 77) rfl k
  · have k := k.2 c2
    show rx_aw 211 8 [.ref 90, .int a0, .int a1, .int a2, .int a3, rx_no, rx_no, rx_no] [] (rx_hp L t hi1 hl1 v1) Q
    refine rx_aw_s 3 (pc := 8) rfl ?_
    show rx_aw 211 13 [.ref 90, .int a0, .int a1, .int a2, .int a3, rx_no, rx_no, rx_no] [.int a0, .ref 93] (rx_hp L t hi1 hl1 v1) Q
    obtain ⟨j3, ej3, hj3, k⟩ := k
    refine rx_aw_iald (pc := 13) (n := 6) j3 ej3 rfl rfl rfl hj3 (by decide) ?_
    show rx_aw 211 14 [.ref 90, .int a0, .int a1, .int a2, .int a3, rx_no, rx_no, rx_no] [.int (hi1 93 j3)] (rx_hp L t hi1 hl1 v1) Q
    refine rx_aw_s 2 (pc := 14) rfl ?_
    refine rx_w_if (c := (hi1 93 j3) = (3 : Int32)) ⟨fun c4 => ?_, fun c4 => ?_⟩
    · have k := k.1 c4
      show rx_aw 211 75 [.ref 90, .int a0, .int a1, .int a2, .int a3, rx_no, rx_no, rx_no] [] (rx_hp L t hi1 hl1 v1) Q
      refine rx_aw_s 1 (pc := 75) rfl ?_
      show rx_aw 211 77 [.ref 90, .int a0, .int a1, .int a2, .int a3, rx_no, rx_no, rx_no] [.int (-2 : Int32)] (rx_hp L t hi1 hl1 v1) Q
      exact rx_aw_ret (pc := 77) rfl k
    · have k := k.2 c4
      show rx_aw 211 18 [.ref 90, .int a0, .int a1, .int a2, .int a3, rx_no, rx_no, rx_no] [] (rx_hp L t hi1 hl1 v1) Q
      refine rx_aw_s 3 (pc := 18) rfl ?_
      show rx_aw 211 23 [.ref 90, .int a0, .int a1, .int a2, .int a3, rx_no, rx_no, rx_no] [.int a0, .ref 96] (rx_hp L t hi1 hl1 v1) Q
      obtain ⟨j5, ej5, hj5, k⟩ := k
      refine rx_aw_bald (pc := 23) (n := 6) j5 ej5 rfl (Or.inr rfl) (by decide) rfl hj5 (by decide) ?_
      show rx_aw 211 24 [.ref 90, .int a0, .int a1, .int a2, .int a3, rx_no, rx_no, rx_no] [.int (hi1 96 j5)] (rx_hp L t hi1 hl1 v1) Q
      refine rx_aw_s 1 (pc := 24) rfl ?_
      refine rx_w_ifn (c := (hi1 96 j5) = 0) ⟨fun c6 => ?_, fun c6 => ?_⟩
      · have k := k.1 c6
        show rx_aw 211 27 [.ref 90, .int a0, .int a1, .int a2, .int a3, rx_no, rx_no, rx_no] [] (rx_hp L t hi1 hl1 v1) Q
        refine rx_aw_s 3 (pc := 27) rfl ?_
        show rx_aw 211 32 [.ref 90, .int a0, .int a1, .int a2, .int a3, rx_no, rx_no, rx_no] [.int a0, .ref 100] (rx_hp L t hi1 hl1 v1) Q
        obtain ⟨j7, ej7, hj7, k⟩ := k
        refine rx_aw_iald (pc := 32) (n := 6) j7 ej7 rfl rfl rfl hj7 (by decide) ?_
        show rx_aw 211 33 [.ref 90, .int a0, .int a1, .int a2, .int a3, rx_no, rx_no, rx_no] [.int (hi1 100 j7)] (rx_hp L t hi1 hl1 v1) Q
        refine rx_aw_s 1 (pc := 33) rfl ?_
        refine rx_w_ifn (c := (hi1 100 j7) = 0) ⟨fun c8 => ?_, fun c8 => ?_⟩
        · have k := k.1 c8
          show rx_aw 211 36 [.ref 90, .int a0, .int a1, .int a2, .int a3, rx_no, rx_no, rx_no] [] (rx_hp L t hi1 hl1 v1) Q
          refine rx_aw_s 3 (pc := 36) rfl ?_
          show rx_aw 211 39 [.ref 90, .int a0, .int a1, .int a2, .int a3, rx_no, rx_no, rx_no] [.int a2, .int a1, .ref 90] (rx_hp L t hi1 hl1 v1) Q
          refine rx_w_callI (j := 182) (pc := 39) rfl rfl rfl rfl rfl ?_
          refine rx_aw.mono k (fun r h2 k => ?_)
          obtain ⟨z9, rfl, hi9, hl9, v9, rfl, k⟩ := k
          refine ⟨z9, rfl, ?_⟩
          show rx_aw 211 42 [.ref 90, .int a0, .int a1, .int a2, .int a3, rx_no, rx_no, rx_no] [.int z9] (rx_hp L t hi9 hl9 v9) Q
          refine rx_aw_s 1 (pc := 42) rfl ?_
          refine rx_w_if (c := z9 = 0) ⟨fun c10 => ?_, fun c10 => ?_⟩
          · have k := k.1 c10
            show rx_aw 211 75 [.ref 90, .int a0, .int a1, .int a2, .int a3, rx_no, rx_no, rx_no] [] (rx_hp L t hi9 hl9 v9) Q
            refine rx_aw_s 1 (pc := 75) rfl ?_
            show rx_aw 211 77 [.ref 90, .int a0, .int a1, .int a2, .int a3, rx_no, rx_no, rx_no] [.int (-2 : Int32)] (rx_hp L t hi9 hl9 v9) Q
            exact rx_aw_ret (pc := 77) rfl k
          · have k := k.2 c10
            show rx_aw 211 45 [.ref 90, .int a0, .int a1, .int a2, .int a3, rx_no, rx_no, rx_no] [] (rx_hp L t hi9 hl9 v9) Q
            refine rx_aw_s 7 (pc := 45) rfl ?_
            show rx_aw 211 54 [.ref 90, .int a0, .int a1, .int a2, .int a3, rx_no, rx_no, rx_no] [.int ((a2 * (hi9 90 0)) + a1), .ref 90] (rx_hp L t hi9 hl9 v9) Q
            refine rx_w_callI (j := 168) (pc := 54) rfl rfl rfl rfl rfl ?_
            refine rx_aw.mono k (fun r h2 k => ?_)
            obtain ⟨z11, rfl, hi11, hl11, v11, rfl, k⟩ := k
            refine ⟨z11, rfl, ?_⟩
            show rx_aw 211 57 [.ref 90, .int a0, .int a1, .int a2, .int a3, rx_no, rx_no, rx_no] [.int z11] (rx_hp L t hi11 hl11 v11) Q
            refine rx_aw_s 1 (pc := 57) rfl ?_
            refine rx_w_ifn (c := z11 = 0) ⟨fun c12 => ?_, fun c12 => ?_⟩
            · have k := k.1 c12
              show rx_aw 211 60 [.ref 90, .int a0, .int a1, .int a2, .int a3, rx_no, rx_no, rx_no] [] (rx_hp L t hi11 hl11 v11) Q
              refine rx_aw_s 3 (pc := 60) rfl ?_
              refine rx_w_if (c := a3 < (-1 : Int32)) ⟨fun c13 => ?_, fun c13 => ?_⟩
              · have k := k.1 c13
                show rx_aw 211 75 [.ref 90, .int a0, .int a1, .int a2, .int a3, rx_no, rx_no, rx_no] [] (rx_hp L t hi11 hl11 v11) Q
                refine rx_aw_s 1 (pc := 75) rfl ?_
                show rx_aw 211 77 [.ref 90, .int a0, .int a1, .int a2, .int a3, rx_no, rx_no, rx_no] [.int (-2 : Int32)] (rx_hp L t hi11 hl11 v11) Q
                exact rx_aw_ret (pc := 77) rfl k
              · have k := k.2 c13
                show rx_aw 211 66 [.ref 90, .int a0, .int a1, .int a2, .int a3, rx_no, rx_no, rx_no] [] (rx_hp L t hi11 hl11 v11) Q
                refine rx_aw_s 4 (pc := 66) rfl ?_
                refine rx_w_if (c := a3 < (hi11 90 21)) ⟨fun c14 => ?_, fun c14 => ?_⟩
                · have k := k.1 c14
                  show rx_aw 211 78 [.ref 90, .int a0, .int a1, .int a2, .int a3, rx_no, rx_no, rx_no] [] (rx_hp L t hi11 hl11 v11) Q
                  refine rx_aw_s 9 (pc := 78) rfl ?_
                  refine rx_w_if (c := a3 < 0) ⟨fun c15 => ?_, fun c15 => ?_⟩
                  · have k := k.1 c15
                    show rx_aw 211 142 [.ref 90, .int a0, .int a1, .int a2, .int a3, .int ((a2 * (hi11 90 0)) + a1), rx_no, rx_no] [] (rx_hp L t hi11 hl11 v11) Q
                    refine rx_aw_s 5 (pc := 142) rfl ?_
                    show rx_aw 211 152 [.ref 90, .int a0, .int a1, .int a2, .int a3, .int ((a2 * (hi11 90 0)) + a1), .int (1 : Int32), .int (0 : Int32)] [] (rx_hp L t hi11 hl11 v11) Q
                    exact k
                  · have k := k.2 c15
                    show rx_aw 211 93 [.ref 90, .int a0, .int a1, .int a2, .int a3, .int ((a2 * (hi11 90 0)) + a1), rx_no, rx_no] [] (rx_hp L t hi11 hl11 v11) Q
                    refine rx_aw_s 3 (pc := 93) rfl ?_
                    show rx_aw 211 98 [.ref 90, .int a0, .int a1, .int a2, .int a3, .int ((a2 * (hi11 90 0)) + a1), rx_no, rx_no] [.int a0, .ref 93] (rx_hp L t hi11 hl11 v11) Q
                    obtain ⟨j16, ej16, hj16, k⟩ := k
                    refine rx_aw_iald (pc := 98) (n := 6) j16 ej16 rfl rfl rfl hj16 (by decide) ?_
                    show rx_aw 211 99 [.ref 90, .int a0, .int a1, .int a2, .int a3, .int ((a2 * (hi11 90 0)) + a1), rx_no, rx_no] [.int (hi11 93 j16)] (rx_hp L t hi11 hl11 v11) Q
                    refine rx_aw_s 2 (pc := 99) rfl ?_
                    refine rx_w_ifn (c := (hi11 93 j16) = (1 : Int32)) ⟨fun c17 => ?_, fun c17 => ?_⟩
                    · have k := k.1 c17
                      show rx_aw 211 103 [.ref 90, .int a0, .int a1, .int a2, .int a3, .int ((a2 * (hi11 90 0)) + a1), rx_no, rx_no] [] (rx_hp L t hi11 hl11 v11) Q
                      refine rx_aw_s 3 (pc := 103) rfl ?_
                      show rx_aw 211 109 [.ref 90, .int a0, .int a1, .int a2, .int a3, .int ((a2 * (hi11 90 0)) + a1), rx_no, rx_no] [.int ((a2 * (hi11 90 0)) + a1), .ref 91] (rx_hp L t hi11 hl11 v11) Q
                      obtain ⟨j18, ej18, hj18, k⟩ := k
                      refine rx_aw_iald (pc := 109) (n := 64) j18 ej18 rfl rfl rfl hj18 (by decide) ?_
                      show rx_aw 211 110 [.ref 90, .int a0, .int a1, .int a2, .int a3, .int ((a2 * (hi11 90 0)) + a1), rx_no, rx_no] [.int (hi11 91 j18)] (rx_hp L t hi11 hl11 v11) Q
                      refine rx_aw_s 2 (pc := 110) rfl ?_
                      refine rx_w_ifn (c := (hi11 91 j18) = (2 : Int32)) ⟨fun c19 => ?_, fun c19 => ?_⟩
                      · have k := k.1 c19
                        show rx_aw 211 114 [.ref 90, .int a0, .int a1, .int a2, .int a3, .int ((a2 * (hi11 90 0)) + a1), rx_no, rx_no] [] (rx_hp L t hi11 hl11 v11) Q
                        refine rx_aw_s 5 (pc := 114) rfl ?_
                        show rx_aw 211 123 [.ref 90, .int a0, .int a1, .int a2, .int a3, .int ((a2 * (hi11 90 0)) + a1), rx_no, rx_no] [.int ((402 : Int32) * a0), .ref 103] (rx_hp L t hi11 hl11 v11) Q
                        obtain ⟨j20, ej20, hj20, k⟩ := k
                        refine rx_aw_iald (pc := 123) (n := 2412) j20 ej20 rfl rfl rfl hj20 (by decide) ?_
                        show rx_aw 211 124 [.ref 90, .int a0, .int a1, .int a2, .int a3, .int ((a2 * (hi11 90 0)) + a1), rx_no, rx_no] [.int (hi11 103 j20)] (rx_hp L t hi11 hl11 v11) Q
                        refine rx_aw_s 1 (pc := 124) rfl ?_
                        refine rx_w_if (c := (hi11 103 j20) < 0) ⟨fun c21 => ?_, fun c21 => ?_⟩
                        · have k := k.1 c21
                          show rx_aw 211 142 [.ref 90, .int a0, .int a1, .int a2, .int a3, .int ((a2 * (hi11 90 0)) + a1), rx_no, rx_no] [] (rx_hp L t hi11 hl11 v11) Q
                          refine rx_aw_s 5 (pc := 142) rfl ?_
                          show rx_aw 211 152 [.ref 90, .int a0, .int a1, .int a2, .int a3, .int ((a2 * (hi11 90 0)) + a1), .int (1 : Int32), .int (0 : Int32)] [] (rx_hp L t hi11 hl11 v11) Q
                          exact k
                        · have k := k.2 c21
                          show rx_aw 211 127 [.ref 90, .int a0, .int a1, .int a2, .int a3, .int ((a2 * (hi11 90 0)) + a1), rx_no, rx_no] [] (rx_hp L t hi11 hl11 v11) Q
                          refine rx_aw_s 5 (pc := 127) rfl ?_
                          show rx_aw 211 136 [.ref 90, .int a0, .int a1, .int a2, .int a3, .int ((a2 * (hi11 90 0)) + a1), rx_no, rx_no] [.int ((402 : Int32) * a0), .ref 103] (rx_hp L t hi11 hl11 v11) Q
                          obtain ⟨j22, ej22, hj22, k⟩ := k
                          refine rx_aw_iald (pc := 136) (n := 2412) j22 ej22 rfl rfl rfl hj22 (by decide) ?_
                          show rx_aw 211 137 [.ref 90, .int a0, .int a1, .int a2, .int a3, .int ((a2 * (hi11 90 0)) + a1), rx_no, rx_no] [.int (hi11 103 j22)] (rx_hp L t hi11 hl11 v11) Q
                          refine rx_aw_s 2 (pc := 137) rfl ?_
                          refine rx_w_ifn (c := (hi11 103 j22) = a3) ⟨fun c23 => ?_, fun c23 => ?_⟩
                          · have k := k.1 c23
                            show rx_aw 211 142 [.ref 90, .int a0, .int a1, .int a2, .int a3, .int ((a2 * (hi11 90 0)) + a1), rx_no, rx_no] [] (rx_hp L t hi11 hl11 v11) Q
                            refine rx_aw_s 5 (pc := 142) rfl ?_
                            show rx_aw 211 152 [.ref 90, .int a0, .int a1, .int a2, .int a3, .int ((a2 * (hi11 90 0)) + a1), .int (1 : Int32), .int (0 : Int32)] [] (rx_hp L t hi11 hl11 v11) Q
                            exact k
                          · have k := k.2 c23
                            show rx_aw 211 146 [.ref 90, .int a0, .int a1, .int a2, .int a3, .int ((a2 * (hi11 90 0)) + a1), rx_no, rx_no] [] (rx_hp L t hi11 hl11 v11) Q
                            refine rx_aw_s 4 (pc := 146) rfl ?_
                            show rx_aw 211 152 [.ref 90, .int a0, .int a1, .int a2, .int a3, .int ((a2 * (hi11 90 0)) + a1), .int (0 : Int32), .int (0 : Int32)] [] (rx_hp L t hi11 hl11 v11) Q
                            exact k
                      · have k := k.2 c19
                        show rx_aw 211 146 [.ref 90, .int a0, .int a1, .int a2, .int a3, .int ((a2 * (hi11 90 0)) + a1), rx_no, rx_no] [] (rx_hp L t hi11 hl11 v11) Q
                        refine rx_aw_s 4 (pc := 146) rfl ?_
                        show rx_aw 211 152 [.ref 90, .int a0, .int a1, .int a2, .int a3, .int ((a2 * (hi11 90 0)) + a1), .int (0 : Int32), .int (0 : Int32)] [] (rx_hp L t hi11 hl11 v11) Q
                        exact k
                    · have k := k.2 c17
                      show rx_aw 211 146 [.ref 90, .int a0, .int a1, .int a2, .int a3, .int ((a2 * (hi11 90 0)) + a1), rx_no, rx_no] [] (rx_hp L t hi11 hl11 v11) Q
                      refine rx_aw_s 4 (pc := 146) rfl ?_
                      show rx_aw 211 152 [.ref 90, .int a0, .int a1, .int a2, .int a3, .int ((a2 * (hi11 90 0)) + a1), .int (0 : Int32), .int (0 : Int32)] [] (rx_hp L t hi11 hl11 v11) Q
                      exact k
                · have k := k.2 c14
                  show rx_aw 211 75 [.ref 90, .int a0, .int a1, .int a2, .int a3, rx_no, rx_no, rx_no] [] (rx_hp L t hi11 hl11 v11) Q
                  refine rx_aw_s 1 (pc := 75) rfl ?_
                  show rx_aw 211 77 [.ref 90, .int a0, .int a1, .int a2, .int a3, rx_no, rx_no, rx_no] [.int (-2 : Int32)] (rx_hp L t hi11 hl11 v11) Q
                  exact rx_aw_ret (pc := 77) rfl k
            · have k := k.2 c12
              show rx_aw 211 75 [.ref 90, .int a0, .int a1, .int a2, .int a3, rx_no, rx_no, rx_no] [] (rx_hp L t hi11 hl11 v11) Q
              refine rx_aw_s 1 (pc := 75) rfl ?_
              show rx_aw 211 77 [.ref 90, .int a0, .int a1, .int a2, .int a3, rx_no, rx_no, rx_no] [.int (-2 : Int32)] (rx_hp L t hi11 hl11 v11) Q
              exact rx_aw_ret (pc := 77) rfl k
        · have k := k.2 c8
          show rx_aw 211 75 [.ref 90, .int a0, .int a1, .int a2, .int a3, rx_no, rx_no, rx_no] [] (rx_hp L t hi1 hl1 v1) Q
          refine rx_aw_s 1 (pc := 75) rfl ?_
          show rx_aw 211 77 [.ref 90, .int a0, .int a1, .int a2, .int a3, rx_no, rx_no, rx_no] [.int (-2 : Int32)] (rx_hp L t hi1 hl1 v1) Q
          exact rx_aw_ret (pc := 77) rfl k
      · have k := k.2 c6
        show rx_aw 211 75 [.ref 90, .int a0, .int a1, .int a2, .int a3, rx_no, rx_no, rx_no] [] (rx_hp L t hi1 hl1 v1) Q
        refine rx_aw_s 1 (pc := 75) rfl ?_
        show rx_aw 211 77 [.ref 90, .int a0, .int a1, .int a2, .int a3, rx_no, rx_no, rx_no] [.int (-2 : Int32)] (rx_hp L t hi1 hl1 v1) Q
        exact rx_aw_ret (pc := 77) rfl k
set_option maxRecDepth 100000 in
theorem w211_errand_r_152 {L : Nat} {t : List (Nat × Nat)} {hi : Nat → Nat → Int32} {hl : Nat → Nat → Int64} {v : Nat → Nat → Option Nat} {Q : Option Value → rx_H → Prop} {x1 : Int32} {x2 : Int32} {x3 : Int32} {x4 : Int32} {x5 : Int32} {x6 : Int32} {x7 : Int32} (k : (((hi 90 6) ≤ x7 → ((x6 = 0 → Q (some (.int (-2 : Int32))) (rx_hp L t hi hl v)) ∧ (¬ (x6 = 0) → (∃ j26 : Nat, x1 = nI j26 ∧ j26 < 6 ∧ (∃ j27 : Nat, x1 = nI j27 ∧ j27 < 6 ∧ (∃ j28 : Nat, x1 = nI j28 ∧ j28 < 6 ∧ Q (some (.int (1 : Int32))) (rx_hp L t (rx_u (rx_u (rx_u hi 96 j26 (vp_nar .boolean (1 : Int32))) 97 j27 x5) 98 j28 x4) hl v))))))) ∧ (¬ ((hi 90 6) ≤ x7) → ((x4 < 0 → ((x6 = 0 → Q (some (.int (-2 : Int32))) (rx_hp L t hi hl v)) ∧ (¬ (x6 = 0) → (∃ j31 : Nat, x1 = nI j31 ∧ j31 < 6 ∧ (∃ j32 : Nat, x1 = nI j32 ∧ j32 < 6 ∧ (∃ j33 : Nat, x1 = nI j33 ∧ j33 < 6 ∧ Q (some (.int (1 : Int32))) (rx_hp L t (rx_u (rx_u (rx_u hi 96 j31 (vp_nar .boolean (1 : Int32))) 97 j32 x5) 98 j33 x4) hl v))))))) ∧ (¬ (x4 < 0) → (∃ j34 : Nat, x7 = nI j34 ∧ j34 < 6 ∧ (((hi 96 j34) = 0 → ((x7 = x1 → rx_aw 211 152 [.ref 90, .int x1, .int x2, .int x3, .int x4, .int x5, .int (x6 &&& (1 : Int32)), .int (x7 + (1 : Int32))] [] (rx_hp L t hi hl v) Q) ∧ (¬ (x7 = x1) → (∃ j37 : Nat, ((402 : Int32) * x7) = nI j37 ∧ j37 < 2412 ∧ (((hi 103 j37) = x4 → rx_aw 211 152 [.ref 90, .int x1, .int x2, .int x3, .int x4, .int x5, .int (x6 &&& (0 : Int32)), .int (x7 + (1 : Int32))] [] (rx_hp L t hi hl v) Q) ∧ (¬ ((hi 103 j37) = x4) → rx_aw 211 152 [.ref 90, .int x1, .int x2, .int x3, .int x4, .int x5, .int (x6 &&& (1 : Int32)), .int (x7 + (1 : Int32))] [] (rx_hp L t hi hl v) Q)))))) ∧ (¬ ((hi 96 j34) = 0) → (∃ j39 : Nat, x7 = nI j39 ∧ j39 < 6 ∧ (((hi 98 j39) = x4 → rx_aw 211 152 [.ref 90, .int x1, .int x2, .int x3, .int x4, .int x5, .int (x6 &&& (0 : Int32)), .int (x7 + (1 : Int32))] [] (rx_hp L t hi hl v) Q) ∧ (¬ ((hi 98 j39) = x4) → ((x7 = x1 → rx_aw 211 152 [.ref 90, .int x1, .int x2, .int x3, .int x4, .int x5, .int (x6 &&& (1 : Int32)), .int (x7 + (1 : Int32))] [] (rx_hp L t hi hl v) Q) ∧ (¬ (x7 = x1) → (∃ j42 : Nat, ((402 : Int32) * x7) = nI j42 ∧ j42 < 2412 ∧ (((hi 103 j42) = x4 → rx_aw 211 152 [.ref 90, .int x1, .int x2, .int x3, .int x4, .int x5, .int (x6 &&& (0 : Int32)), .int (x7 + (1 : Int32))] [] (rx_hp L t hi hl v) Q) ∧ (¬ ((hi 103 j42) = x4) → rx_aw 211 152 [.ref 90, .int x1, .int x2, .int x3, .int x4, .int x5, .int (x6 &&& (1 : Int32)), .int (x7 + (1 : Int32))] [] (rx_hp L t hi hl v) Q)))))))))))))))) : rx_aw 211 152 [.ref 90, .int x1, .int x2, .int x3, .int x4, .int x5, .int x6, .int x7] [] (rx_hp L t hi hl v) Q := by
  refine rx_aw_s 4 (pc := 152) rfl ?_
  refine rx_w_if (c := (hi 90 6) ≤ x7) ⟨fun c24 => ?_, fun c24 => ?_⟩
  · have k := k.1 c24
    show rx_aw 211 226 [.ref 90, .int x1, .int x2, .int x3, .int x4, .int x5, .int x6, .int x7] [] (rx_hp L t hi hl v) Q
    refine rx_aw_s 2 (pc := 226) rfl ?_
    refine rx_w_ifn (c := x6 = 0) ⟨fun c25 => ?_, fun c25 => ?_⟩
    · have k := k.1 c25
      show rx_aw 211 231 [.ref 90, .int x1, .int x2, .int x3, .int x4, .int x5, .int x6, .int x7] [] (rx_hp L t hi hl v) Q
      refine rx_aw_s 1 (pc := 231) rfl ?_
      show rx_aw 211 233 [.ref 90, .int x1, .int x2, .int x3, .int x4, .int x5, .int x6, .int x7] [.int (-2 : Int32)] (rx_hp L t hi hl v) Q
      exact rx_aw_ret (pc := 233) rfl k
    · have k := k.2 c25
      show rx_aw 211 234 [.ref 90, .int x1, .int x2, .int x3, .int x4, .int x5, .int x6, .int x7] [] (rx_hp L t hi hl v) Q
      refine rx_aw_s 4 (pc := 234) rfl ?_
      show rx_aw 211 240 [.ref 90, .int x1, .int x2, .int x3, .int x4, .int x5, .int x6, .int x7] [.int (1 : Int32), .int x1, .ref 96] (rx_hp L t hi hl v) Q
      obtain ⟨j26, ej26, hj26, k⟩ := k
      refine rx_aw_zast (pc := 240) (n := 6) j26 ej26 rfl rfl (by decide) rfl hj26 (by decide) ?_
      show rx_aw 211 241 [.ref 90, .int x1, .int x2, .int x3, .int x4, .int x5, .int x6, .int x7] [] (rx_hp L t (rx_u hi 96 j26 (vp_nar .boolean (1 : Int32))) hl v) Q
      refine rx_aw_s 4 (pc := 241) rfl ?_
      show rx_aw 211 248 [.ref 90, .int x1, .int x2, .int x3, .int x4, .int x5, .int x6, .int x7] [.int x5, .int x1, .ref 97] (rx_hp L t (rx_u hi 96 j26 (vp_nar .boolean (1 : Int32))) hl v) Q
      obtain ⟨j27, ej27, hj27, k⟩ := k
      refine rx_aw_iast (pc := 248) (n := 6) j27 ej27 rfl rfl (by decide) rfl hj27 (by decide) ?_
      show rx_aw 211 249 [.ref 90, .int x1, .int x2, .int x3, .int x4, .int x5, .int x6, .int x7] [] (rx_hp L t (rx_u (rx_u hi 96 j26 (vp_nar .boolean (1 : Int32))) 97 j27 x5) hl v) Q
      refine rx_aw_s 4 (pc := 249) rfl ?_
      show rx_aw 211 256 [.ref 90, .int x1, .int x2, .int x3, .int x4, .int x5, .int x6, .int x7] [.int x4, .int x1, .ref 98] (rx_hp L t (rx_u (rx_u hi 96 j26 (vp_nar .boolean (1 : Int32))) 97 j27 x5) hl v) Q
      obtain ⟨j28, ej28, hj28, k⟩ := k
      refine rx_aw_iast (pc := 256) (n := 6) j28 ej28 rfl rfl (by decide) rfl hj28 (by decide) ?_
      show rx_aw 211 257 [.ref 90, .int x1, .int x2, .int x3, .int x4, .int x5, .int x6, .int x7] [] (rx_hp L t (rx_u (rx_u (rx_u hi 96 j26 (vp_nar .boolean (1 : Int32))) 97 j27 x5) 98 j28 x4) hl v) Q
      refine rx_aw_s 1 (pc := 257) rfl ?_
      show rx_aw 211 258 [.ref 90, .int x1, .int x2, .int x3, .int x4, .int x5, .int x6, .int x7] [.int (1 : Int32)] (rx_hp L t (rx_u (rx_u (rx_u hi 96 j26 (vp_nar .boolean (1 : Int32))) 97 j27 x5) 98 j28 x4) hl v) Q
      exact rx_aw_ret (pc := 258) rfl k
  · have k := k.2 c24
    show rx_aw 211 161 [.ref 90, .int x1, .int x2, .int x3, .int x4, .int x5, .int x6, .int x7] [] (rx_hp L t hi hl v) Q
    refine rx_aw_s 2 (pc := 161) rfl ?_
    refine rx_w_if (c := x4 < 0) ⟨fun c29 => ?_, fun c29 => ?_⟩
    · have k := k.1 c29
      show rx_aw 211 226 [.ref 90, .int x1, .int x2, .int x3, .int x4, .int x5, .int x6, .int x7] [] (rx_hp L t hi hl v) Q
      refine rx_aw_s 2 (pc := 226) rfl ?_
      refine rx_w_ifn (c := x6 = 0) ⟨fun c30 => ?_, fun c30 => ?_⟩
      · have k := k.1 c30
        show rx_aw 211 231 [.ref 90, .int x1, .int x2, .int x3, .int x4, .int x5, .int x6, .int x7] [] (rx_hp L t hi hl v) Q
        refine rx_aw_s 1 (pc := 231) rfl ?_
        show rx_aw 211 233 [.ref 90, .int x1, .int x2, .int x3, .int x4, .int x5, .int x6, .int x7] [.int (-2 : Int32)] (rx_hp L t hi hl v) Q
        exact rx_aw_ret (pc := 233) rfl k
      · have k := k.2 c30
        show rx_aw 211 234 [.ref 90, .int x1, .int x2, .int x3, .int x4, .int x5, .int x6, .int x7] [] (rx_hp L t hi hl v) Q
        refine rx_aw_s 4 (pc := 234) rfl ?_
        show rx_aw 211 240 [.ref 90, .int x1, .int x2, .int x3, .int x4, .int x5, .int x6, .int x7] [.int (1 : Int32), .int x1, .ref 96] (rx_hp L t hi hl v) Q
        obtain ⟨j31, ej31, hj31, k⟩ := k
        refine rx_aw_zast (pc := 240) (n := 6) j31 ej31 rfl rfl (by decide) rfl hj31 (by decide) ?_
        show rx_aw 211 241 [.ref 90, .int x1, .int x2, .int x3, .int x4, .int x5, .int x6, .int x7] [] (rx_hp L t (rx_u hi 96 j31 (vp_nar .boolean (1 : Int32))) hl v) Q
        refine rx_aw_s 4 (pc := 241) rfl ?_
        show rx_aw 211 248 [.ref 90, .int x1, .int x2, .int x3, .int x4, .int x5, .int x6, .int x7] [.int x5, .int x1, .ref 97] (rx_hp L t (rx_u hi 96 j31 (vp_nar .boolean (1 : Int32))) hl v) Q
        obtain ⟨j32, ej32, hj32, k⟩ := k
        refine rx_aw_iast (pc := 248) (n := 6) j32 ej32 rfl rfl (by decide) rfl hj32 (by decide) ?_
        show rx_aw 211 249 [.ref 90, .int x1, .int x2, .int x3, .int x4, .int x5, .int x6, .int x7] [] (rx_hp L t (rx_u (rx_u hi 96 j31 (vp_nar .boolean (1 : Int32))) 97 j32 x5) hl v) Q
        refine rx_aw_s 4 (pc := 249) rfl ?_
        show rx_aw 211 256 [.ref 90, .int x1, .int x2, .int x3, .int x4, .int x5, .int x6, .int x7] [.int x4, .int x1, .ref 98] (rx_hp L t (rx_u (rx_u hi 96 j31 (vp_nar .boolean (1 : Int32))) 97 j32 x5) hl v) Q
        obtain ⟨j33, ej33, hj33, k⟩ := k
        refine rx_aw_iast (pc := 256) (n := 6) j33 ej33 rfl rfl (by decide) rfl hj33 (by decide) ?_
        show rx_aw 211 257 [.ref 90, .int x1, .int x2, .int x3, .int x4, .int x5, .int x6, .int x7] [] (rx_hp L t (rx_u (rx_u (rx_u hi 96 j31 (vp_nar .boolean (1 : Int32))) 97 j32 x5) 98 j33 x4) hl v) Q
        refine rx_aw_s 1 (pc := 257) rfl ?_
        show rx_aw 211 258 [.ref 90, .int x1, .int x2, .int x3, .int x4, .int x5, .int x6, .int x7] [.int (1 : Int32)] (rx_hp L t (rx_u (rx_u (rx_u hi 96 j31 (vp_nar .boolean (1 : Int32))) 97 j32 x5) 98 j33 x4) hl v) Q
        exact rx_aw_ret (pc := 258) rfl k
    · have k := k.2 c29
      show rx_aw 211 166 [.ref 90, .int x1, .int x2, .int x3, .int x4, .int x5, .int x6, .int x7] [] (rx_hp L t hi hl v) Q
      refine rx_aw_s 4 (pc := 166) rfl ?_
      show rx_aw 211 174 [.ref 90, .int x1, .int x2, .int x3, .int x4, .int x5, .int x6, .int x7] [.int x7, .ref 96, .int x6] (rx_hp L t hi hl v) Q
      obtain ⟨j34, ej34, hj34, k⟩ := k
      refine rx_aw_bald (pc := 174) (n := 6) j34 ej34 rfl (Or.inr rfl) (by decide) rfl hj34 (by decide) ?_
      show rx_aw 211 175 [.ref 90, .int x1, .int x2, .int x3, .int x4, .int x5, .int x6, .int x7] [.int (hi 96 j34), .int x6] (rx_hp L t hi hl v) Q
      refine rx_aw_s 1 (pc := 175) rfl ?_
      refine rx_w_if (c := (hi 96 j34) = 0) ⟨fun c35 => ?_, fun c35 => ?_⟩
      · have k := k.1 c35
        show rx_aw 211 190 [.ref 90, .int x1, .int x2, .int x3, .int x4, .int x5, .int x6, .int x7] [.int x6] (rx_hp L t hi hl v) Q
        refine rx_aw_s 3 (pc := 190) rfl ?_
        refine rx_w_if (c := x7 = x1) ⟨fun c36 => ?_, fun c36 => ?_⟩
        · have k := k.1 c36
          show rx_aw 211 212 [.ref 90, .int x1, .int x2, .int x3, .int x4, .int x5, .int x6, .int x7] [.int x6] (rx_hp L t hi hl v) Q
          refine rx_aw_s 6 (pc := 212) rfl ?_
          show rx_aw 211 152 [.ref 90, .int x1, .int x2, .int x3, .int x4, .int x5, .int (x6 &&& (1 : Int32)), .int (x7 + (1 : Int32))] [] (rx_hp L t hi hl v) Q
          exact k
        · have k := k.2 c36
          show rx_aw 211 196 [.ref 90, .int x1, .int x2, .int x3, .int x4, .int x5, .int x6, .int x7] [.int x6] (rx_hp L t hi hl v) Q
          refine rx_aw_s 5 (pc := 196) rfl ?_
          show rx_aw 211 206 [.ref 90, .int x1, .int x2, .int x3, .int x4, .int x5, .int x6, .int x7] [.int ((402 : Int32) * x7), .ref 103, .int x6] (rx_hp L t hi hl v) Q
          obtain ⟨j37, ej37, hj37, k⟩ := k
          refine rx_aw_iald (pc := 206) (n := 2412) j37 ej37 rfl rfl rfl hj37 (by decide) ?_
          show rx_aw 211 207 [.ref 90, .int x1, .int x2, .int x3, .int x4, .int x5, .int x6, .int x7] [.int (hi 103 j37), .int x6] (rx_hp L t hi hl v) Q
          refine rx_aw_s 2 (pc := 207) rfl ?_
          refine rx_w_if (c := (hi 103 j37) = x4) ⟨fun c38 => ?_, fun c38 => ?_⟩
          · have k := k.1 c38
            show rx_aw 211 216 [.ref 90, .int x1, .int x2, .int x3, .int x4, .int x5, .int x6, .int x7] [.int x6] (rx_hp L t hi hl v) Q
            refine rx_aw_s 5 (pc := 216) rfl ?_
            show rx_aw 211 152 [.ref 90, .int x1, .int x2, .int x3, .int x4, .int x5, .int (x6 &&& (0 : Int32)), .int (x7 + (1 : Int32))] [] (rx_hp L t hi hl v) Q
            exact k
          · have k := k.2 c38
            show rx_aw 211 212 [.ref 90, .int x1, .int x2, .int x3, .int x4, .int x5, .int x6, .int x7] [.int x6] (rx_hp L t hi hl v) Q
            refine rx_aw_s 6 (pc := 212) rfl ?_
            show rx_aw 211 152 [.ref 90, .int x1, .int x2, .int x3, .int x4, .int x5, .int (x6 &&& (1 : Int32)), .int (x7 + (1 : Int32))] [] (rx_hp L t hi hl v) Q
            exact k
      · have k := k.2 c35
        show rx_aw 211 178 [.ref 90, .int x1, .int x2, .int x3, .int x4, .int x5, .int x6, .int x7] [.int x6] (rx_hp L t hi hl v) Q
        refine rx_aw_s 3 (pc := 178) rfl ?_
        show rx_aw 211 184 [.ref 90, .int x1, .int x2, .int x3, .int x4, .int x5, .int x6, .int x7] [.int x7, .ref 98, .int x6] (rx_hp L t hi hl v) Q
        obtain ⟨j39, ej39, hj39, k⟩ := k
        refine rx_aw_iald (pc := 184) (n := 6) j39 ej39 rfl rfl rfl hj39 (by decide) ?_
        show rx_aw 211 185 [.ref 90, .int x1, .int x2, .int x3, .int x4, .int x5, .int x6, .int x7] [.int (hi 98 j39), .int x6] (rx_hp L t hi hl v) Q
        refine rx_aw_s 2 (pc := 185) rfl ?_
        refine rx_w_if (c := (hi 98 j39) = x4) ⟨fun c40 => ?_, fun c40 => ?_⟩
        · have k := k.1 c40
          show rx_aw 211 216 [.ref 90, .int x1, .int x2, .int x3, .int x4, .int x5, .int x6, .int x7] [.int x6] (rx_hp L t hi hl v) Q
          refine rx_aw_s 5 (pc := 216) rfl ?_
          show rx_aw 211 152 [.ref 90, .int x1, .int x2, .int x3, .int x4, .int x5, .int (x6 &&& (0 : Int32)), .int (x7 + (1 : Int32))] [] (rx_hp L t hi hl v) Q
          exact k
        · have k := k.2 c40
          show rx_aw 211 190 [.ref 90, .int x1, .int x2, .int x3, .int x4, .int x5, .int x6, .int x7] [.int x6] (rx_hp L t hi hl v) Q
          refine rx_aw_s 3 (pc := 190) rfl ?_
          refine rx_w_if (c := x7 = x1) ⟨fun c41 => ?_, fun c41 => ?_⟩
          · have k := k.1 c41
            show rx_aw 211 212 [.ref 90, .int x1, .int x2, .int x3, .int x4, .int x5, .int x6, .int x7] [.int x6] (rx_hp L t hi hl v) Q
            refine rx_aw_s 6 (pc := 212) rfl ?_
            show rx_aw 211 152 [.ref 90, .int x1, .int x2, .int x3, .int x4, .int x5, .int (x6 &&& (1 : Int32)), .int (x7 + (1 : Int32))] [] (rx_hp L t hi hl v) Q
            exact k
          · have k := k.2 c41
            show rx_aw 211 196 [.ref 90, .int x1, .int x2, .int x3, .int x4, .int x5, .int x6, .int x7] [.int x6] (rx_hp L t hi hl v) Q
            refine rx_aw_s 5 (pc := 196) rfl ?_
            show rx_aw 211 206 [.ref 90, .int x1, .int x2, .int x3, .int x4, .int x5, .int x6, .int x7] [.int ((402 : Int32) * x7), .ref 103, .int x6] (rx_hp L t hi hl v) Q
            obtain ⟨j42, ej42, hj42, k⟩ := k
            refine rx_aw_iald (pc := 206) (n := 2412) j42 ej42 rfl rfl rfl hj42 (by decide) ?_
            show rx_aw 211 207 [.ref 90, .int x1, .int x2, .int x3, .int x4, .int x5, .int x6, .int x7] [.int (hi 103 j42), .int x6] (rx_hp L t hi hl v) Q
            refine rx_aw_s 2 (pc := 207) rfl ?_
            refine rx_w_if (c := (hi 103 j42) = x4) ⟨fun c43 => ?_, fun c43 => ?_⟩
            · have k := k.1 c43
              show rx_aw 211 216 [.ref 90, .int x1, .int x2, .int x3, .int x4, .int x5, .int x6, .int x7] [.int x6] (rx_hp L t hi hl v) Q
              refine rx_aw_s 5 (pc := 216) rfl ?_
              show rx_aw 211 152 [.ref 90, .int x1, .int x2, .int x3, .int x4, .int x5, .int (x6 &&& (0 : Int32)), .int (x7 + (1 : Int32))] [] (rx_hp L t hi hl v) Q
              exact k
            · have k := k.2 c43
              show rx_aw 211 212 [.ref 90, .int x1, .int x2, .int x3, .int x4, .int x5, .int x6, .int x7] [.int x6] (rx_hp L t hi hl v) Q
              refine rx_aw_s 6 (pc := 212) rfl ?_
              show rx_aw 211 152 [.ref 90, .int x1, .int x2, .int x3, .int x4, .int x5, .int (x6 &&& (1 : Int32)), .int (x7 + (1 : Int32))] [] (rx_hp L t hi hl v) Q
              exact k
set_option maxRecDepth 100000 in
/-- CartFloorModel.tell(II)I -/
theorem w212_tell_r {L : Nat} {t : List (Nat × Nat)} {hi : Nat → Nat → Int32} {hl : Nat → Nat → Int64} {v : Nat → Nat → Option Nat} {Q : Option Value → rx_H → Prop} {a0 : Int32} {a1 : Int32} (k : ((a0 < 0 → Q (some (.int (-2 : Int32))) (rx_hp L t hi hl v)) ∧ (¬ (a0 < 0) → (((6 : Int32) < a0 → Q (some (.int (-2 : Int32))) (rx_hp L t hi hl v)) ∧ (¬ ((6 : Int32) < a0) → ((a1 < (1 : Int32) → Q (some (.int (-2 : Int32))) (rx_hp L t hi hl v)) ∧ (¬ (a1 < (1 : Int32)) → (((400 : Int32) < a1 → Q (some (.int (-2 : Int32))) (rx_hp L t hi hl v)) ∧ (¬ ((400 : Int32) < a1) → ((((hi 90 25) + a1) ≤ (400 : Int32) → rx_aw 212 39 [.ref 90, .int a0, .int a1, .int (0 : Int32)] [] (rx_hp L t hi hl v) Q) ∧ (¬ (((hi 90 25) + a1) ≤ (400 : Int32)) → Q (some (.int (-2 : Int32))) (rx_hp L t hi hl v)))))))))))) : rx_me 212 [.ref 90, .int a0, .int a1] (rx_hp L t hi hl v) Q := by
  show rx_aw 212 0 [.ref 90, .int a0, .int a1, rx_no] [] (rx_hp L t hi hl v) Q
  refine rx_aw_s 2 (pc := 0) rfl ?_
  refine rx_w_if (c := a0 < 0) ⟨fun c1 => ?_, fun c1 => ?_⟩
  · have k := k.1 c1
    show rx_aw 212 34 [.ref 90, .int a0, .int a1, rx_no] [] (rx_hp L t hi hl v) Q
    refine rx_aw_s 1 (pc := 34) rfl ?_
    show rx_aw 212 36 [.ref 90, .int a0, .int a1, rx_no] [.int (-2 : Int32)] (rx_hp L t hi hl v) Q
    exact rx_aw_ret (pc := 36) rfl k
  · have k := k.2 c1
    show rx_aw 212 4 [.ref 90, .int a0, .int a1, rx_no] [] (rx_hp L t hi hl v) Q
    refine rx_aw_s 3 (pc := 4) rfl ?_
    refine rx_w_if (c := (6 : Int32) < a0) ⟨fun c2 => ?_, fun c2 => ?_⟩
    · have k := k.1 c2
      show rx_aw 212 34 [.ref 90, .int a0, .int a1, rx_no] [] (rx_hp L t hi hl v) Q
      refine rx_aw_s 1 (pc := 34) rfl ?_
      show rx_aw 212 36 [.ref 90, .int a0, .int a1, rx_no] [.int (-2 : Int32)] (rx_hp L t hi hl v) Q
      exact rx_aw_ret (pc := 36) rfl k
    · have k := k.2 c2
      show rx_aw 212 10 [.ref 90, .int a0, .int a1, rx_no] [] (rx_hp L t hi hl v) Q
      refine rx_aw_s 3 (pc := 10) rfl ?_
      refine rx_w_if (c := a1 < (1 : Int32)) ⟨fun c3 => ?_, fun c3 => ?_⟩
      · have k := k.1 c3
        show rx_aw 212 34 [.ref 90, .int a0, .int a1, rx_no] [] (rx_hp L t hi hl v) Q
        refine rx_aw_s 1 (pc := 34) rfl ?_
        show rx_aw 212 36 [.ref 90, .int a0, .int a1, rx_no] [.int (-2 : Int32)] (rx_hp L t hi hl v) Q
        exact rx_aw_ret (pc := 36) rfl k
      · have k := k.2 c3
        show rx_aw 212 15 [.ref 90, .int a0, .int a1, rx_no] [] (rx_hp L t hi hl v) Q
        refine rx_aw_s 3 (pc := 15) rfl ?_
        refine rx_w_if (c := (400 : Int32) < a1) ⟨fun c4 => ?_, fun c4 => ?_⟩
        · have k := k.1 c4
          show rx_aw 212 34 [.ref 90, .int a0, .int a1, rx_no] [] (rx_hp L t hi hl v) Q
          refine rx_aw_s 1 (pc := 34) rfl ?_
          show rx_aw 212 36 [.ref 90, .int a0, .int a1, rx_no] [.int (-2 : Int32)] (rx_hp L t hi hl v) Q
          exact rx_aw_ret (pc := 36) rfl k
        · have k := k.2 c4
          show rx_aw 212 22 [.ref 90, .int a0, .int a1, rx_no] [] (rx_hp L t hi hl v) Q
          refine rx_aw_s 6 (pc := 22) rfl ?_
          refine rx_w_if (c := ((hi 90 25) + a1) ≤ (400 : Int32)) ⟨fun c5 => ?_, fun c5 => ?_⟩
          · have k := k.1 c5
            show rx_aw 212 37 [.ref 90, .int a0, .int a1, rx_no] [] (rx_hp L t hi hl v) Q
            refine rx_aw_s 2 (pc := 37) rfl ?_
            show rx_aw 212 39 [.ref 90, .int a0, .int a1, .int (0 : Int32)] [] (rx_hp L t hi hl v) Q
            exact k
          · have k := k.2 c5
            show rx_aw 212 34 [.ref 90, .int a0, .int a1, rx_no] [] (rx_hp L t hi hl v) Q
            refine rx_aw_s 1 (pc := 34) rfl ?_
            show rx_aw 212 36 [.ref 90, .int a0, .int a1, rx_no] [.int (-2 : Int32)] (rx_hp L t hi hl v) Q
            exact rx_aw_ret (pc := 36) rfl k
set_option maxRecDepth 100000 in
theorem w212_tell_r_39 {L : Nat} {t : List (Nat × Nat)} {hi : Nat → Nat → Int32} {hl : Nat → Nat → Int64} {v : Nat → Nat → Option Nat} {Q : Option Value → rx_H → Prop} {x1 : Int32} {x2 : Int32} {x3 : Int32} (k : ((x2 ≤ x3 → Q (some (.int (hi 90 25))) (rx_hp L t hi hl v)) ∧ (¬ (x2 ≤ x3) → (∃ j7 : Nat, (hi 90 25) = nI j7 ∧ j7 < 400 ∧ rx_aw 212 39 [.ref 90, .int x1, .int x2, .int (x3 + (1 : Int32))] [] (rx_hp L t (rx_u (rx_u hi 109 j7 x1) 90 25 (((rx_u hi 109 j7 x1) 90 25) + (1 : Int32))) hl v) Q)))) : rx_aw 212 39 [.ref 90, .int x1, .int x2, .int x3] [] (rx_hp L t hi hl v) Q := by
  refine rx_aw_s 3 (pc := 39) rfl ?_
  refine rx_w_if (c := x2 ≤ x3) ⟨fun c6 => ?_, fun c6 => ?_⟩
  · have k := k.1 c6
    show rx_aw 212 70 [.ref 90, .int x1, .int x2, .int x3] [] (rx_hp L t hi hl v) Q
    refine rx_aw_s 2 (pc := 70) rfl ?_
    show rx_aw 212 74 [.ref 90, .int x1, .int x2, .int x3] [.int (hi 90 25)] (rx_hp L t hi hl v) Q
    exact rx_aw_ret (pc := 74) rfl k
  · have k := k.2 c6
    show rx_aw 212 44 [.ref 90, .int x1, .int x2, .int x3] [] (rx_hp L t hi hl v) Q
    refine rx_aw_s 5 (pc := 44) rfl ?_
    show rx_aw 212 53 [.ref 90, .int x1, .int x2, .int x3] [.int x1, .int (hi 90 25), .ref 109] (rx_hp L t hi hl v) Q
    obtain ⟨j7, ej7, hj7, k⟩ := k
    refine rx_aw_iast (pc := 53) (n := 400) j7 ej7 rfl rfl (by decide) rfl hj7 (by decide) ?_
    show rx_aw 212 54 [.ref 90, .int x1, .int x2, .int x3] [] (rx_hp L t (rx_u hi 109 j7 x1) hl v) Q
    refine rx_aw_s 8 (pc := 54) rfl ?_
    show rx_aw 212 39 [.ref 90, .int x1, .int x2, .int (x3 + (1 : Int32))] [] (rx_hp L t (rx_u (rx_u hi 109 j7 x1) 90 25 (((rx_u hi 109 j7 x1) 90 25) + (1 : Int32))) hl v) Q
    exact k
set_option maxRecDepth 100000 in
/-- CartFloorModel.hush()I -/
theorem w213_hush_r {L : Nat} {t : List (Nat × Nat)} {hi : Nat → Nat → Int32} {hl : Nat → Nat → Int64} {v : Nat → Nat → Option Nat} {Q : Option Value → rx_H → Prop}  (k : Q (some (.int (hi 90 25))) (rx_hp L t (rx_u hi 90 25 (0 : Int32)) hl v)) : rx_me 213 [.ref 90] (rx_hp L t hi hl v) Q := by
  show rx_aw 213 0 [.ref 90, rx_no] [] (rx_hp L t hi hl v) Q
  refine rx_aw_s 7 (pc := 0) rfl ?_
  show rx_aw 213 11 [.ref 90, .int (hi 90 25)] [.int (hi 90 25)] (rx_hp L t (rx_u hi 90 25 (0 : Int32)) hl v) Q
  exact rx_aw_ret (pc := 11) rfl k
set_option maxRecDepth 100000 in
/-- CartFloorModel.check(I)I -/
theorem w214_check_r {L : Nat} {t : List (Nat × Nat)} {hi : Nat → Nat → Int32} {hl : Nat → Nat → Int64} {v : Nat → Nat → Option Nat} {Q : Option Value → rx_H → Prop} {a0 : Int32} (k : rx_me 161 [.ref 90, .int a0] (rx_hp L t hi hl v) (fun r h2 => ∃ z1 : Int32, r = some (.int z1) ∧ rx_ok2 L t h2 (fun hi1 hl1 v1 => ((z1 = 0 → Q (some (.int (-2 : Int32))) (rx_hp L t hi1 hl1 v1)) ∧ (¬ (z1 = 0) → rx_me 215 [.ref 90, .int a0] (rx_hp L t hi1 hl1 v1) (fun r h2 => ∃ z3 : Int32, r = some (.int z3) ∧ rx_ok2 L t h2 (fun hi3 hl3 v3 => rx_me 200 [.ref 90, .int (0 : Int32)] (rx_hp L t (rx_u (rx_u hi3 90 36 z3) 90 35 a0) hl3 v3) (fun r h2 => r = none ∧ rx_ok2 L t h2 (fun hi4 hl4 v4 => rx_me 216 [.ref 90, .int a0] (rx_hp L t hi4 hl4 v4) (fun r h2 => r = none ∧ rx_ok2 L t h2 (fun hi5 hl5 v5 => rx_me 191 [.ref 90] (rx_hp L t hi5 hl5 v5) (fun r h2 => r = none ∧ rx_ok2 L t h2 (fun hi6 hl6 v6 => rx_aw 214 48 [.ref 90, .int a0, .int (hi6 90 25), .int (401 : Int32), rx_no] [] (rx_hp L t hi6 hl6 v6) Q))))))))))))) : rx_me 214 [.ref 90, .int a0] (rx_hp L t hi hl v) Q := by
  show rx_aw 214 0 [.ref 90, .int a0, rx_no, rx_no, rx_no] [] (rx_hp L t hi hl v) Q
  refine rx_aw_s 2 (pc := 0) rfl ?_
  show rx_aw 214 2 [.ref 90, .int a0, rx_no, rx_no, rx_no] [.int a0, .ref 90] (rx_hp L t hi hl v) Q
  refine rx_w_callI (j := 161) (pc := 2) rfl rfl rfl rfl rfl ?_
  refine rx_aw.mono k (fun r h2 k => ?_)
  obtain ⟨z1, rfl, hi1, hl1, v1, rfl, k⟩ := k
  refine ⟨z1, rfl, ?_⟩
  show rx_aw 214 5 [.ref 90, .int a0, rx_no, rx_no, rx_no] [.int z1] (rx_hp L t hi1 hl1 v1) Q
  refine rx_aw_s 1 (pc := 5) rfl ?_
  refine rx_w_ifn (c := z1 = 0) ⟨fun c2 => ?_, fun c2 => ?_⟩
  · have k := k.1 c2
    show rx_aw 214 8 [.ref 90, .int a0, rx_no, rx_no, rx_no] [] (rx_hp L t hi1 hl1 v1) Q
    refine rx_aw_s 1 (pc := 8) rfl ?_
    show rx_aw 214 10 [.ref 90, .int a0, rx_no, rx_no, rx_no] [.int (-2 : Int32)] (rx_hp L t hi1 hl1 v1) Q
    exact rx_aw_ret (pc := 10) rfl k
  · have k := k.2 c2
    show rx_aw 214 11 [.ref 90, .int a0, rx_no, rx_no, rx_no] [] (rx_hp L t hi1 hl1 v1) Q
    refine rx_aw_s 3 (pc := 11) rfl ?_
    show rx_aw 214 14 [.ref 90, .int a0, rx_no, rx_no, rx_no] [.int a0, .ref 90, .ref 90] (rx_hp L t hi1 hl1 v1) Q
    refine rx_w_callI (j := 215) (pc := 14) rfl rfl rfl rfl rfl ?_
    refine rx_aw.mono k (fun r h2 k => ?_)
    obtain ⟨z3, rfl, hi3, hl3, v3, rfl, k⟩ := k
    refine ⟨z3, rfl, ?_⟩
    show rx_aw 214 17 [.ref 90, .int a0, rx_no, rx_no, rx_no] [.int z3, .ref 90] (rx_hp L t hi3 hl3 v3) Q
    refine rx_aw_s 6 (pc := 17) rfl ?_
    show rx_aw 214 27 [.ref 90, .int a0, rx_no, rx_no, rx_no] [.int (0 : Int32), .ref 90] (rx_hp L t (rx_u (rx_u hi3 90 36 z3) 90 35 a0) hl3 v3) Q
    refine rx_w_callV (j := 200) (pc := 27) rfl rfl rfl rfl rfl ?_
    refine rx_aw.mono k (fun r h2 k => ?_)
    obtain ⟨rfl, hi4, hl4, v4, rfl, k⟩ := k
    refine ⟨rfl, ?_⟩
    show rx_aw 214 30 [.ref 90, .int a0, rx_no, rx_no, rx_no] [] (rx_hp L t hi4 hl4 v4) Q
    refine rx_aw_s 2 (pc := 30) rfl ?_
    show rx_aw 214 32 [.ref 90, .int a0, rx_no, rx_no, rx_no] [.int a0, .ref 90] (rx_hp L t hi4 hl4 v4) Q
    refine rx_w_callV (j := 216) (pc := 32) rfl rfl rfl rfl rfl ?_
    refine rx_aw.mono k (fun r h2 k => ?_)
    obtain ⟨rfl, hi5, hl5, v5, rfl, k⟩ := k
    refine ⟨rfl, ?_⟩
    show rx_aw 214 35 [.ref 90, .int a0, rx_no, rx_no, rx_no] [] (rx_hp L t hi5 hl5 v5) Q
    refine rx_aw_s 1 (pc := 35) rfl ?_
    show rx_aw 214 36 [.ref 90, .int a0, rx_no, rx_no, rx_no] [.ref 90] (rx_hp L t hi5 hl5 v5) Q
    refine rx_w_callV (j := 191) (pc := 36) rfl rfl rfl rfl rfl ?_
    refine rx_aw.mono k (fun r h2 k => ?_)
    obtain ⟨rfl, hi6, hl6, v6, rfl, k⟩ := k
    refine ⟨rfl, ?_⟩
    show rx_aw 214 39 [.ref 90, .int a0, rx_no, rx_no, rx_no] [] (rx_hp L t hi6 hl6 v6) Q
    refine rx_aw_s 5 (pc := 39) rfl ?_
    show rx_aw 214 48 [.ref 90, .int a0, .int (hi6 90 25), .int (401 : Int32), rx_no] [] (rx_hp L t hi6 hl6 v6) Q
    exact k
set_option maxRecDepth 100000 in
theorem w214_check_r_48 {L : Nat} {t : List (Nat × Nat)} {hi : Nat → Nat → Int32} {hl : Nat → Nat → Int64} {v : Nat → Nat → Option Nat} {Q : Option Value → rx_H → Prop} {x1 : Int32} {x2 : Int32} {x3 : Int32} (k : ((x3 < 0 → rx_me 200 [.ref 90, .int (1 : Int32)] (rx_hp L t (rx_u hi 90 35 (-1 : Int32)) hl v) (fun r h2 => r = none ∧ rx_ok2 L t h2 (fun hi8 hl8 v8 => Q (some (.int x2)) (rx_hp L t hi8 hl8 v8)))) ∧ (¬ (x3 < 0) → ((x3 ≤ 0 → rx_me 173 [.ref 90, .int x1, .int x3] (rx_hp L t hi hl v) (fun r h2 => ∃ z10 : Int32, r = some (.int z10) ∧ rx_ok2 L t h2 (fun hi10 hl10 v10 => ((z10 = 0 → rx_aw 214 48 [.ref 90, .int x1, .int ((-10 : Int32) - x3), .int (x3 + (-1 : Int32)), rx_no] [] (rx_hp L t hi10 hl10 v10) Q) ∧ (¬ (z10 = 0) → rx_me 174 [.ref 90, .int x1, .int x3] (rx_hp L t hi10 hl10 v10) (fun r h2 => ∃ z12 : Int32, r = some (.int z12) ∧ rx_ok2 L t h2 (fun hi12 hl12 v12 => ((z12 = 0 → rx_aw 214 48 [.ref 90, .int x1, .int x2, .int (x3 + (-1 : Int32)), rx_no] [] (rx_hp L t hi12 hl12 v12) Q) ∧ (¬ (z12 = 0) → rx_aw 214 48 [.ref 90, .int x1, .int ((-10 : Int32) - x3), .int (x3 + (-1 : Int32)), rx_no] [] (rx_hp L t hi12 hl12 v12) Q))))))))) ∧ (¬ (x3 ≤ 0) → (((hi 90 25) < x3 → rx_me 173 [.ref 90, .int x1, .int x3] (rx_hp L t hi hl v) (fun r h2 => ∃ z15 : Int32, r = some (.int z15) ∧ rx_ok2 L t h2 (fun hi15 hl15 v15 => ((z15 = 0 → rx_aw 214 48 [.ref 90, .int x1, .int ((-10 : Int32) - x3), .int (x3 + (-1 : Int32)), rx_no] [] (rx_hp L t hi15 hl15 v15) Q) ∧ (¬ (z15 = 0) → rx_me 174 [.ref 90, .int x1, .int x3] (rx_hp L t hi15 hl15 v15) (fun r h2 => ∃ z17 : Int32, r = some (.int z17) ∧ rx_ok2 L t h2 (fun hi17 hl17 v17 => ((z17 = 0 → rx_aw 214 48 [.ref 90, .int x1, .int x2, .int (x3 + (-1 : Int32)), rx_no] [] (rx_hp L t hi17 hl17 v17) Q) ∧ (¬ (z17 = 0) → rx_aw 214 48 [.ref 90, .int x1, .int ((-10 : Int32) - x3), .int (x3 + (-1 : Int32)), rx_no] [] (rx_hp L t hi17 hl17 v17) Q))))))))) ∧ (¬ ((hi 90 25) < x3) → (∃ j19 : Nat, ((((402 : Int32) * x1) + x3) - (1 : Int32)) = nI j19 ∧ j19 < 2412 ∧ (((hi 104 j19) = 0 → rx_aw 214 48 [.ref 90, .int x1, .int ((-10 : Int32) - x3), .int (x3 + (-1 : Int32)), rx_no] [] (rx_hp L t hi hl v) Q) ∧ (¬ ((hi 104 j19) = 0) → rx_me 173 [.ref 90, .int x1, .int x3] (rx_hp L t hi hl v) (fun r h2 => ∃ z21 : Int32, r = some (.int z21) ∧ rx_ok2 L t h2 (fun hi21 hl21 v21 => ((z21 = 0 → rx_aw 214 48 [.ref 90, .int x1, .int ((-10 : Int32) - x3), .int (x3 + (-1 : Int32)), rx_no] [] (rx_hp L t hi21 hl21 v21) Q) ∧ (¬ (z21 = 0) → rx_me 174 [.ref 90, .int x1, .int x3] (rx_hp L t hi21 hl21 v21) (fun r h2 => ∃ z23 : Int32, r = some (.int z23) ∧ rx_ok2 L t h2 (fun hi23 hl23 v23 => ((z23 = 0 → rx_aw 214 48 [.ref 90, .int x1, .int x2, .int (x3 + (-1 : Int32)), rx_no] [] (rx_hp L t hi23 hl23 v23) Q) ∧ (¬ (z23 = 0) → rx_aw 214 48 [.ref 90, .int x1, .int ((-10 : Int32) - x3), .int (x3 + (-1 : Int32)), rx_no] [] (rx_hp L t hi23 hl23 v23) Q)))))))))))))))))) : rx_aw 214 48 [.ref 90, .int x1, .int x2, .int x3, rx_no] [] (rx_hp L t hi hl v) Q := by
  refine rx_aw_s 2 (pc := 48) rfl ?_
  refine rx_w_if (c := x3 < 0) ⟨fun c7 => ?_, fun c7 => ?_⟩
  · have k := k.1 c7
    show rx_aw 214 126 [.ref 90, .int x1, .int x2, .int x3, rx_no] [] (rx_hp L t hi hl v) Q
    refine rx_aw_s 5 (pc := 126) rfl ?_
    show rx_aw 214 133 [.ref 90, .int x1, .int x2, .int x3, rx_no] [.int (1 : Int32), .ref 90] (rx_hp L t (rx_u hi 90 35 (-1 : Int32)) hl v) Q
    refine rx_w_callV (j := 200) (pc := 133) rfl rfl rfl rfl rfl ?_
    refine rx_aw.mono k (fun r h2 k => ?_)
    obtain ⟨rfl, hi8, hl8, v8, rfl, k⟩ := k
    refine ⟨rfl, ?_⟩
    show rx_aw 214 136 [.ref 90, .int x1, .int x2, .int x3, rx_no] [] (rx_hp L t hi8 hl8 v8) Q
    refine rx_aw_s 1 (pc := 136) rfl ?_
    show rx_aw 214 137 [.ref 90, .int x1, .int x2, .int x3, rx_no] [.int x2] (rx_hp L t hi8 hl8 v8) Q
    exact rx_aw_ret (pc := 137) rfl k
  · have k := k.2 c7
    show rx_aw 214 52 [.ref 90, .int x1, .int x2, .int x3, rx_no] [] (rx_hp L t hi hl v) Q
    refine rx_aw_s 2 (pc := 52) rfl ?_
    refine rx_w_if (c := x3 ≤ 0) ⟨fun c9 => ?_, fun c9 => ?_⟩
    · have k := k.1 c9
      show rx_aw 214 81 [.ref 90, .int x1, .int x2, .int x3, rx_no] [] (rx_hp L t hi hl v) Q
      refine rx_aw_s 3 (pc := 81) rfl ?_
      show rx_aw 214 84 [.ref 90, .int x1, .int x2, .int x3, rx_no] [.int x3, .int x1, .ref 90] (rx_hp L t hi hl v) Q
      refine rx_w_callI (j := 173) (pc := 84) rfl rfl rfl rfl rfl ?_
      refine rx_aw.mono k (fun r h2 k => ?_)
      obtain ⟨z10, rfl, hi10, hl10, v10, rfl, k⟩ := k
      refine ⟨z10, rfl, ?_⟩
      show rx_aw 214 87 [.ref 90, .int x1, .int x2, .int x3, rx_no] [.int z10] (rx_hp L t hi10 hl10 v10) Q
      refine rx_aw_s 1 (pc := 87) rfl ?_
      refine rx_w_if (c := z10 = 0) ⟨fun c11 => ?_, fun c11 => ?_⟩
      · have k := k.1 c11
        show rx_aw 214 99 [.ref 90, .int x1, .int x2, .int x3, rx_no] [] (rx_hp L t hi10 hl10 v10) Q
        refine rx_aw_s 12 (pc := 99) rfl ?_
        show rx_aw 214 48 [.ref 90, .int x1, .int ((-10 : Int32) - x3), .int (x3 + (-1 : Int32)), .int (1 : Int32)] [] (rx_hp L t hi10 hl10 v10) Q
        exact rx_aw_le (ls := [.ref 90, .int x1, .int ((-10 : Int32) - x3), .int (x3 + (-1 : Int32)), rx_no]) ⟨Or.inr rfl, ⟨Or.inr rfl, ⟨Or.inr rfl, ⟨Or.inr rfl, ⟨Or.inl rfl, trivial⟩⟩⟩⟩⟩ k
      · have k := k.2 c11
        show rx_aw 214 90 [.ref 90, .int x1, .int x2, .int x3, rx_no] [] (rx_hp L t hi10 hl10 v10) Q
        refine rx_aw_s 3 (pc := 90) rfl ?_
        show rx_aw 214 93 [.ref 90, .int x1, .int x2, .int x3, rx_no] [.int x3, .int x1, .ref 90] (rx_hp L t hi10 hl10 v10) Q
        refine rx_w_callI (j := 174) (pc := 93) rfl rfl rfl rfl rfl ?_
        refine rx_aw.mono k (fun r h2 k => ?_)
        obtain ⟨z12, rfl, hi12, hl12, v12, rfl, k⟩ := k
        refine ⟨z12, rfl, ?_⟩
        show rx_aw 214 96 [.ref 90, .int x1, .int x2, .int x3, rx_no] [.int z12] (rx_hp L t hi12 hl12 v12) Q
        refine rx_aw_s 1 (pc := 96) rfl ?_
        refine rx_w_if (c := z12 = 0) ⟨fun c13 => ?_, fun c13 => ?_⟩
        · have k := k.1 c13
          show rx_aw 214 103 [.ref 90, .int x1, .int x2, .int x3, rx_no] [] (rx_hp L t hi12 hl12 v12) Q
          refine rx_aw_s 8 (pc := 103) rfl ?_
          show rx_aw 214 48 [.ref 90, .int x1, .int x2, .int (x3 + (-1 : Int32)), .int (0 : Int32)] [] (rx_hp L t hi12 hl12 v12) Q
          exact rx_aw_le (ls := [.ref 90, .int x1, .int x2, .int (x3 + (-1 : Int32)), rx_no]) ⟨Or.inr rfl, ⟨Or.inr rfl, ⟨Or.inr rfl, ⟨Or.inr rfl, ⟨Or.inl rfl, trivial⟩⟩⟩⟩⟩ k
        · have k := k.2 c13
          show rx_aw 214 99 [.ref 90, .int x1, .int x2, .int x3, rx_no] [] (rx_hp L t hi12 hl12 v12) Q
          refine rx_aw_s 12 (pc := 99) rfl ?_
          show rx_aw 214 48 [.ref 90, .int x1, .int ((-10 : Int32) - x3), .int (x3 + (-1 : Int32)), .int (1 : Int32)] [] (rx_hp L t hi12 hl12 v12) Q
          exact rx_aw_le (ls := [.ref 90, .int x1, .int ((-10 : Int32) - x3), .int (x3 + (-1 : Int32)), rx_no]) ⟨Or.inr rfl, ⟨Or.inr rfl, ⟨Or.inr rfl, ⟨Or.inr rfl, ⟨Or.inl rfl, trivial⟩⟩⟩⟩⟩ k
    · have k := k.2 c9
      show rx_aw 214 56 [.ref 90, .int x1, .int x2, .int x3, rx_no] [] (rx_hp L t hi hl v) Q
      refine rx_aw_s 4 (pc := 56) rfl ?_
      refine rx_w_if (c := (hi 90 25) < x3) ⟨fun c14 => ?_, fun c14 => ?_⟩
      · have k := k.1 c14
        show rx_aw 214 81 [.ref 90, .int x1, .int x2, .int x3, rx_no] [] (rx_hp L t hi hl v) Q
        refine rx_aw_s 3 (pc := 81) rfl ?_
        show rx_aw 214 84 [.ref 90, .int x1, .int x2, .int x3, rx_no] [.int x3, .int x1, .ref 90] (rx_hp L t hi hl v) Q
        refine rx_w_callI (j := 173) (pc := 84) rfl rfl rfl rfl rfl ?_
        refine rx_aw.mono k (fun r h2 k => ?_)
        obtain ⟨z15, rfl, hi15, hl15, v15, rfl, k⟩ := k
        refine ⟨z15, rfl, ?_⟩
        show rx_aw 214 87 [.ref 90, .int x1, .int x2, .int x3, rx_no] [.int z15] (rx_hp L t hi15 hl15 v15) Q
        refine rx_aw_s 1 (pc := 87) rfl ?_
        refine rx_w_if (c := z15 = 0) ⟨fun c16 => ?_, fun c16 => ?_⟩
        · have k := k.1 c16
          show rx_aw 214 99 [.ref 90, .int x1, .int x2, .int x3, rx_no] [] (rx_hp L t hi15 hl15 v15) Q
          refine rx_aw_s 12 (pc := 99) rfl ?_
          show rx_aw 214 48 [.ref 90, .int x1, .int ((-10 : Int32) - x3), .int (x3 + (-1 : Int32)), .int (1 : Int32)] [] (rx_hp L t hi15 hl15 v15) Q
          exact rx_aw_le (ls := [.ref 90, .int x1, .int ((-10 : Int32) - x3), .int (x3 + (-1 : Int32)), rx_no]) ⟨Or.inr rfl, ⟨Or.inr rfl, ⟨Or.inr rfl, ⟨Or.inr rfl, ⟨Or.inl rfl, trivial⟩⟩⟩⟩⟩ k
        · have k := k.2 c16
          show rx_aw 214 90 [.ref 90, .int x1, .int x2, .int x3, rx_no] [] (rx_hp L t hi15 hl15 v15) Q
          refine rx_aw_s 3 (pc := 90) rfl ?_
          show rx_aw 214 93 [.ref 90, .int x1, .int x2, .int x3, rx_no] [.int x3, .int x1, .ref 90] (rx_hp L t hi15 hl15 v15) Q
          refine rx_w_callI (j := 174) (pc := 93) rfl rfl rfl rfl rfl ?_
          refine rx_aw.mono k (fun r h2 k => ?_)
          obtain ⟨z17, rfl, hi17, hl17, v17, rfl, k⟩ := k
          refine ⟨z17, rfl, ?_⟩
          show rx_aw 214 96 [.ref 90, .int x1, .int x2, .int x3, rx_no] [.int z17] (rx_hp L t hi17 hl17 v17) Q
          refine rx_aw_s 1 (pc := 96) rfl ?_
          refine rx_w_if (c := z17 = 0) ⟨fun c18 => ?_, fun c18 => ?_⟩
          · have k := k.1 c18
            show rx_aw 214 103 [.ref 90, .int x1, .int x2, .int x3, rx_no] [] (rx_hp L t hi17 hl17 v17) Q
            refine rx_aw_s 8 (pc := 103) rfl ?_
            show rx_aw 214 48 [.ref 90, .int x1, .int x2, .int (x3 + (-1 : Int32)), .int (0 : Int32)] [] (rx_hp L t hi17 hl17 v17) Q
            exact rx_aw_le (ls := [.ref 90, .int x1, .int x2, .int (x3 + (-1 : Int32)), rx_no]) ⟨Or.inr rfl, ⟨Or.inr rfl, ⟨Or.inr rfl, ⟨Or.inr rfl, ⟨Or.inl rfl, trivial⟩⟩⟩⟩⟩ k
          · have k := k.2 c18
            show rx_aw 214 99 [.ref 90, .int x1, .int x2, .int x3, rx_no] [] (rx_hp L t hi17 hl17 v17) Q
            refine rx_aw_s 12 (pc := 99) rfl ?_
            show rx_aw 214 48 [.ref 90, .int x1, .int ((-10 : Int32) - x3), .int (x3 + (-1 : Int32)), .int (1 : Int32)] [] (rx_hp L t hi17 hl17 v17) Q
            exact rx_aw_le (ls := [.ref 90, .int x1, .int ((-10 : Int32) - x3), .int (x3 + (-1 : Int32)), rx_no]) ⟨Or.inr rfl, ⟨Or.inr rfl, ⟨Or.inr rfl, ⟨Or.inr rfl, ⟨Or.inl rfl, trivial⟩⟩⟩⟩⟩ k
      · have k := k.2 c14
        show rx_aw 214 64 [.ref 90, .int x1, .int x2, .int x3, rx_no] [] (rx_hp L t hi hl v) Q
        refine rx_aw_s 9 (pc := 64) rfl ?_
        show rx_aw 214 77 [.ref 90, .int x1, .int x2, .int x3, rx_no] [.int ((((402 : Int32) * x1) + x3) - (1 : Int32)), .ref 104] (rx_hp L t hi hl v) Q
        obtain ⟨j19, ej19, hj19, k⟩ := k
        refine rx_aw_bald (pc := 77) (n := 2412) j19 ej19 rfl (Or.inr rfl) (by decide) rfl hj19 (by decide) ?_
        show rx_aw 214 78 [.ref 90, .int x1, .int x2, .int x3, rx_no] [.int (hi 104 j19)] (rx_hp L t hi hl v) Q
        refine rx_aw_s 1 (pc := 78) rfl ?_
        refine rx_w_if (c := (hi 104 j19) = 0) ⟨fun c20 => ?_, fun c20 => ?_⟩
        · have k := k.1 c20
          show rx_aw 214 99 [.ref 90, .int x1, .int x2, .int x3, rx_no] [] (rx_hp L t hi hl v) Q
          refine rx_aw_s 12 (pc := 99) rfl ?_
          show rx_aw 214 48 [.ref 90, .int x1, .int ((-10 : Int32) - x3), .int (x3 + (-1 : Int32)), .int (1 : Int32)] [] (rx_hp L t hi hl v) Q
          exact rx_aw_le (ls := [.ref 90, .int x1, .int ((-10 : Int32) - x3), .int (x3 + (-1 : Int32)), rx_no]) ⟨Or.inr rfl, ⟨Or.inr rfl, ⟨Or.inr rfl, ⟨Or.inr rfl, ⟨Or.inl rfl, trivial⟩⟩⟩⟩⟩ k
        · have k := k.2 c20
          show rx_aw 214 81 [.ref 90, .int x1, .int x2, .int x3, rx_no] [] (rx_hp L t hi hl v) Q
          refine rx_aw_s 3 (pc := 81) rfl ?_
          show rx_aw 214 84 [.ref 90, .int x1, .int x2, .int x3, rx_no] [.int x3, .int x1, .ref 90] (rx_hp L t hi hl v) Q
          refine rx_w_callI (j := 173) (pc := 84) rfl rfl rfl rfl rfl ?_
          refine rx_aw.mono k (fun r h2 k => ?_)
          obtain ⟨z21, rfl, hi21, hl21, v21, rfl, k⟩ := k
          refine ⟨z21, rfl, ?_⟩
          show rx_aw 214 87 [.ref 90, .int x1, .int x2, .int x3, rx_no] [.int z21] (rx_hp L t hi21 hl21 v21) Q
          refine rx_aw_s 1 (pc := 87) rfl ?_
          refine rx_w_if (c := z21 = 0) ⟨fun c22 => ?_, fun c22 => ?_⟩
          · have k := k.1 c22
            show rx_aw 214 99 [.ref 90, .int x1, .int x2, .int x3, rx_no] [] (rx_hp L t hi21 hl21 v21) Q
            refine rx_aw_s 12 (pc := 99) rfl ?_
            show rx_aw 214 48 [.ref 90, .int x1, .int ((-10 : Int32) - x3), .int (x3 + (-1 : Int32)), .int (1 : Int32)] [] (rx_hp L t hi21 hl21 v21) Q
            exact rx_aw_le (ls := [.ref 90, .int x1, .int ((-10 : Int32) - x3), .int (x3 + (-1 : Int32)), rx_no]) ⟨Or.inr rfl, ⟨Or.inr rfl, ⟨Or.inr rfl, ⟨Or.inr rfl, ⟨Or.inl rfl, trivial⟩⟩⟩⟩⟩ k
          · have k := k.2 c22
            show rx_aw 214 90 [.ref 90, .int x1, .int x2, .int x3, rx_no] [] (rx_hp L t hi21 hl21 v21) Q
            refine rx_aw_s 3 (pc := 90) rfl ?_
            show rx_aw 214 93 [.ref 90, .int x1, .int x2, .int x3, rx_no] [.int x3, .int x1, .ref 90] (rx_hp L t hi21 hl21 v21) Q
            refine rx_w_callI (j := 174) (pc := 93) rfl rfl rfl rfl rfl ?_
            refine rx_aw.mono k (fun r h2 k => ?_)
            obtain ⟨z23, rfl, hi23, hl23, v23, rfl, k⟩ := k
            refine ⟨z23, rfl, ?_⟩
            show rx_aw 214 96 [.ref 90, .int x1, .int x2, .int x3, rx_no] [.int z23] (rx_hp L t hi23 hl23 v23) Q
            refine rx_aw_s 1 (pc := 96) rfl ?_
            refine rx_w_if (c := z23 = 0) ⟨fun c24 => ?_, fun c24 => ?_⟩
            · have k := k.1 c24
              show rx_aw 214 103 [.ref 90, .int x1, .int x2, .int x3, rx_no] [] (rx_hp L t hi23 hl23 v23) Q
              refine rx_aw_s 8 (pc := 103) rfl ?_
              show rx_aw 214 48 [.ref 90, .int x1, .int x2, .int (x3 + (-1 : Int32)), .int (0 : Int32)] [] (rx_hp L t hi23 hl23 v23) Q
              exact rx_aw_le (ls := [.ref 90, .int x1, .int x2, .int (x3 + (-1 : Int32)), rx_no]) ⟨Or.inr rfl, ⟨Or.inr rfl, ⟨Or.inr rfl, ⟨Or.inr rfl, ⟨Or.inl rfl, trivial⟩⟩⟩⟩⟩ k
            · have k := k.2 c24
              show rx_aw 214 99 [.ref 90, .int x1, .int x2, .int x3, rx_no] [] (rx_hp L t hi23 hl23 v23) Q
              refine rx_aw_s 12 (pc := 99) rfl ?_
              show rx_aw 214 48 [.ref 90, .int x1, .int ((-10 : Int32) - x3), .int (x3 + (-1 : Int32)), .int (1 : Int32)] [] (rx_hp L t hi23 hl23 v23) Q
              exact rx_aw_le (ls := [.ref 90, .int x1, .int ((-10 : Int32) - x3), .int (x3 + (-1 : Int32)), rx_no]) ⟨Or.inr rfl, ⟨Or.inr rfl, ⟨Or.inr rfl, ⟨Or.inr rfl, ⟨Or.inl rfl, trivial⟩⟩⟩⟩⟩ k
set_option maxRecDepth 100000 in
/-- CartFloorModel.carriedBesides(I)I -/
theorem w215_carriedBesides_r {L : Nat} {t : List (Nat × Nat)} {hi : Nat → Nat → Int32} {hl : Nat → Nat → Int64} {v : Nat → Nat → Option Nat} {Q : Option Value → rx_H → Prop} {a0 : Int32} (k : rx_aw 215 4 [.ref 90, .int a0, .int (0 : Int32), .int (0 : Int32), rx_no, rx_no] [] (rx_hp L t hi hl v) Q) : rx_me 215 [.ref 90, .int a0] (rx_hp L t hi hl v) Q := by
  show rx_aw 215 0 [.ref 90, .int a0, rx_no, rx_no, rx_no, rx_no] [] (rx_hp L t hi hl v) Q
  refine rx_aw_s 4 (pc := 0) rfl ?_
  show rx_aw 215 4 [.ref 90, .int a0, .int (0 : Int32), .int (0 : Int32), rx_no, rx_no] [] (rx_hp L t hi hl v) Q
  exact k
set_option maxRecDepth 100000 in
theorem w215_carriedBesides_r_4 {L : Nat} {t : List (Nat × Nat)} {hi : Nat → Nat → Int32} {hl : Nat → Nat → Int64} {v : Nat → Nat → Option Nat} {Q : Option Value → rx_H → Prop} {x1 : Int32} {x2 : Int32} {x3 : Int32} (k : (((hi 90 6) ≤ x3 → Q (some (.int x2)) (rx_hp L t hi hl v)) ∧ (¬ ((hi 90 6) ≤ x3) → rx_aw 215 15 [.ref 90, .int x1, .int x2, .int x3, .int (0 : Int32), rx_no] [] (rx_hp L t hi hl v) Q))) : rx_aw 215 4 [.ref 90, .int x1, .int x2, .int x3, rx_no, rx_no] [] (rx_hp L t hi hl v) Q := by
  refine rx_aw_s 4 (pc := 4) rfl ?_
  refine rx_w_if (c := (hi 90 6) ≤ x3) ⟨fun c1 => ?_, fun c1 => ?_⟩
  · have k := k.1 c1
    show rx_aw 215 71 [.ref 90, .int x1, .int x2, .int x3, rx_no, rx_no] [] (rx_hp L t hi hl v) Q
    refine rx_aw_s 1 (pc := 71) rfl ?_
    show rx_aw 215 72 [.ref 90, .int x1, .int x2, .int x3, rx_no, rx_no] [.int x2] (rx_hp L t hi hl v) Q
    exact rx_aw_ret (pc := 72) rfl k
  · have k := k.2 c1
    show rx_aw 215 12 [.ref 90, .int x1, .int x2, .int x3, rx_no, rx_no] [] (rx_hp L t hi hl v) Q
    refine rx_aw_s 2 (pc := 12) rfl ?_
    show rx_aw 215 15 [.ref 90, .int x1, .int x2, .int x3, .int (0 : Int32), rx_no] [] (rx_hp L t hi hl v) Q
    exact k
set_option maxRecDepth 100000 in
theorem w215_carriedBesides_r_15 {L : Nat} {t : List (Nat × Nat)} {hi : Nat → Nat → Int32} {hl : Nat → Nat → Int64} {v : Nat → Nat → Option Nat} {Q : Option Value → rx_H → Prop} {x1 : Int32} {x2 : Int32} {x3 : Int32} {x4 : Int32} (k : (((402 : Int32) ≤ x4 → rx_aw 215 4 [.ref 90, .int x1, .int x2, .int (x3 + (1 : Int32)), rx_no, rx_no] [] (rx_hp L t hi hl v) Q) ∧ (¬ ((402 : Int32) ≤ x4) → (∃ j3 : Nat, (((402 : Int32) * x3) + x4) = nI j3 ∧ j3 < 2412 ∧ ((x3 = x1 → rx_aw 215 15 [.ref 90, .int x1, .int (x2 ||| (0 : Int32)), .int x3, .int (x4 + (1 : Int32)), rx_no] [] (rx_hp L t hi hl v) Q) ∧ (¬ (x3 = x1) → (((hi 103 j3) < 0 → rx_aw 215 15 [.ref 90, .int x1, .int (x2 ||| (0 : Int32)), .int x3, .int (x4 + (1 : Int32)), rx_no] [] (rx_hp L t hi hl v) Q) ∧ (¬ ((hi 103 j3) < 0) → rx_aw 215 15 [.ref 90, .int x1, .int (x2 ||| ((1 : Int32) <<< ((hi 103 j3) &&& 31))), .int x3, .int (x4 + (1 : Int32)), rx_no] [] (rx_hp L t hi hl v) Q)))))))) : rx_aw 215 15 [.ref 90, .int x1, .int x2, .int x3, .int x4, rx_no] [] (rx_hp L t hi hl v) Q := by
  refine rx_aw_s 3 (pc := 15) rfl ?_
  refine rx_w_if (c := (402 : Int32) ≤ x4) ⟨fun c2 => ?_, fun c2 => ?_⟩
  · have k := k.1 c2
    show rx_aw 215 65 [.ref 90, .int x1, .int x2, .int x3, .int x4, rx_no] [] (rx_hp L t hi hl v) Q
    refine rx_aw_s 2 (pc := 65) rfl ?_
    show rx_aw 215 4 [.ref 90, .int x1, .int x2, .int (x3 + (1 : Int32)), .int x4, rx_no] [] (rx_hp L t hi hl v) Q
    exact rx_aw_le (ls := [.ref 90, .int x1, .int x2, .int (x3 + (1 : Int32)), rx_no, rx_no]) ⟨Or.inr rfl, ⟨Or.inr rfl, ⟨Or.inr rfl, ⟨Or.inr rfl, ⟨Or.inl rfl, ⟨Or.inl rfl, trivial⟩⟩⟩⟩⟩⟩ k
  · have k := k.2 c2
    show rx_aw 215 23 [.ref 90, .int x1, .int x2, .int x3, .int x4, rx_no] [] (rx_hp L t hi hl v) Q
    refine rx_aw_s 7 (pc := 23) rfl ?_
    show rx_aw 215 35 [.ref 90, .int x1, .int x2, .int x3, .int x4, rx_no] [.int (((402 : Int32) * x3) + x4), .ref 103] (rx_hp L t hi hl v) Q
    obtain ⟨j3, ej3, hj3, k⟩ := k
    refine rx_aw_iald (pc := 35) (n := 2412) j3 ej3 rfl rfl rfl hj3 (by decide) ?_
    show rx_aw 215 36 [.ref 90, .int x1, .int x2, .int x3, .int x4, rx_no] [.int (hi 103 j3)] (rx_hp L t hi hl v) Q
    refine rx_aw_s 5 (pc := 36) rfl ?_
    refine rx_w_if (c := x3 = x1) ⟨fun c4 => ?_, fun c4 => ?_⟩
    · have k := k.1 c4
      show rx_aw 215 56 [.ref 90, .int x1, .int x2, .int x3, .int x4, .int (hi 103 j3)] [.int x2] (rx_hp L t hi hl v) Q
      refine rx_aw_s 5 (pc := 56) rfl ?_
      show rx_aw 215 15 [.ref 90, .int x1, .int (x2 ||| (0 : Int32)), .int x3, .int (x4 + (1 : Int32)), .int (hi 103 j3)] [] (rx_hp L t hi hl v) Q
      exact rx_aw_le (ls := [.ref 90, .int x1, .int (x2 ||| (0 : Int32)), .int x3, .int (x4 + (1 : Int32)), rx_no]) ⟨Or.inr rfl, ⟨Or.inr rfl, ⟨Or.inr rfl, ⟨Or.inr rfl, ⟨Or.inr rfl, ⟨Or.inl rfl, trivial⟩⟩⟩⟩⟩⟩ k
    · have k := k.2 c4
      show rx_aw 215 44 [.ref 90, .int x1, .int x2, .int x3, .int x4, .int (hi 103 j3)] [.int x2] (rx_hp L t hi hl v) Q
      refine rx_aw_s 2 (pc := 44) rfl ?_
      refine rx_w_if (c := (hi 103 j3) < 0) ⟨fun c5 => ?_, fun c5 => ?_⟩
      · have k := k.1 c5
        show rx_aw 215 56 [.ref 90, .int x1, .int x2, .int x3, .int x4, .int (hi 103 j3)] [.int x2] (rx_hp L t hi hl v) Q
        refine rx_aw_s 5 (pc := 56) rfl ?_
        show rx_aw 215 15 [.ref 90, .int x1, .int (x2 ||| (0 : Int32)), .int x3, .int (x4 + (1 : Int32)), .int (hi 103 j3)] [] (rx_hp L t hi hl v) Q
        exact rx_aw_le (ls := [.ref 90, .int x1, .int (x2 ||| (0 : Int32)), .int x3, .int (x4 + (1 : Int32)), rx_no]) ⟨Or.inr rfl, ⟨Or.inr rfl, ⟨Or.inr rfl, ⟨Or.inr rfl, ⟨Or.inr rfl, ⟨Or.inl rfl, trivial⟩⟩⟩⟩⟩⟩ k
      · have k := k.2 c5
        show rx_aw 215 49 [.ref 90, .int x1, .int x2, .int x3, .int x4, .int (hi 103 j3)] [.int x2] (rx_hp L t hi hl v) Q
        refine rx_aw_s 8 (pc := 49) rfl ?_
        show rx_aw 215 15 [.ref 90, .int x1, .int (x2 ||| ((1 : Int32) <<< ((hi 103 j3) &&& 31))), .int x3, .int (x4 + (1 : Int32)), .int (hi 103 j3)] [] (rx_hp L t hi hl v) Q
        exact rx_aw_le (ls := [.ref 90, .int x1, .int (x2 ||| ((1 : Int32) <<< ((hi 103 j3) &&& 31))), .int x3, .int (x4 + (1 : Int32)), rx_no]) ⟨Or.inr rfl, ⟨Or.inr rfl, ⟨Or.inr rfl, ⟨Or.inr rfl, ⟨Or.inr rfl, ⟨Or.inl rfl, trivial⟩⟩⟩⟩⟩⟩ k
set_option maxRecDepth 100000 in
/-- CartFloorModel.follow(I)V -/
theorem w216_follow_r {L : Nat} {t : List (Nat × Nat)} {hi : Nat → Nat → Int32} {hl : Nat → Nat → Int64} {v : Nat → Nat → Option Nat} {Q : Option Value → rx_H → Prop} {a0 : Int32} (k : rx_aw 216 2 [.ref 90, .int a0, .int (0 : Int32)] [] (rx_hp L t hi hl v) Q) : rx_me 216 [.ref 90, .int a0] (rx_hp L t hi hl v) Q := by
  show rx_aw 216 0 [.ref 90, .int a0, rx_no] [] (rx_hp L t hi hl v) Q
  refine rx_aw_s 2 (pc := 0) rfl ?_
  show rx_aw 216 2 [.ref 90, .int a0, .int (0 : Int32)] [] (rx_hp L t hi hl v) Q
  exact k
set_option maxRecDepth 100000 in
theorem w216_follow_r_2 {L : Nat} {t : List (Nat × Nat)} {hi : Nat → Nat → Int32} {hl : Nat → Nat → Int64} {v : Nat → Nat → Option Nat} {Q : Option Value → rx_H → Prop} {x1 : Int32} {x2 : Int32} (k : (((hi 90 25) ≤ x2 → (∃ j2 : Nat, x1 = nI j2 ∧ j2 < 6 ∧ Q none (rx_hp L t (rx_u hi 94 j2 (hi 90 25)) hl v))) ∧ (¬ ((hi 90 25) ≤ x2) → (∃ j3 : Nat, x2 = nI j3 ∧ j3 < 400 ∧ (∃ j4 : Nat, (((400 : Int32) * x1) + x2) = nI j4 ∧ j4 < 2400 ∧ rx_aw 216 2 [.ref 90, .int x1, .int (x2 + (1 : Int32))] [] (rx_hp L t (rx_u hi 95 j4 (hi 109 j3)) hl v) Q))))) : rx_aw 216 2 [.ref 90, .int x1, .int x2] [] (rx_hp L t hi hl v) Q := by
  refine rx_aw_s 4 (pc := 2) rfl ?_
  refine rx_w_if (c := (hi 90 25) ≤ x2) ⟨fun c1 => ?_, fun c1 => ?_⟩
  · have k := k.1 c1
    show rx_aw 216 34 [.ref 90, .int x1, .int x2] [] (rx_hp L t hi hl v) Q
    refine rx_aw_s 5 (pc := 34) rfl ?_
    show rx_aw 216 43 [.ref 90, .int x1, .int x2] [.int (hi 90 25), .int x1, .ref 94] (rx_hp L t hi hl v) Q
    obtain ⟨j2, ej2, hj2, k⟩ := k
    refine rx_aw_iast (pc := 43) (n := 6) j2 ej2 rfl rfl (by decide) rfl hj2 (by decide) ?_
    show rx_aw 216 44 [.ref 90, .int x1, .int x2] [] (rx_hp L t (rx_u hi 94 j2 (hi 90 25)) hl v) Q
    exact rx_aw_ret (pc := 44) rfl k
  · have k := k.2 c1
    show rx_aw 216 10 [.ref 90, .int x1, .int x2] [] (rx_hp L t hi hl v) Q
    refine rx_aw_s 10 (pc := 10) rfl ?_
    show rx_aw 216 26 [.ref 90, .int x1, .int x2] [.int x2, .ref 109, .int (((400 : Int32) * x1) + x2), .ref 95] (rx_hp L t hi hl v) Q
    obtain ⟨j3, ej3, hj3, k⟩ := k
    refine rx_aw_iald (pc := 26) (n := 400) j3 ej3 rfl rfl rfl hj3 (by decide) ?_
    show rx_aw 216 27 [.ref 90, .int x1, .int x2] [.int (hi 109 j3), .int (((400 : Int32) * x1) + x2), .ref 95] (rx_hp L t hi hl v) Q
    obtain ⟨j4, ej4, hj4, k⟩ := k
    refine rx_aw_iast (pc := 27) (n := 2400) j4 ej4 rfl rfl (by decide) rfl hj4 (by decide) ?_
    show rx_aw 216 28 [.ref 90, .int x1, .int x2] [] (rx_hp L t (rx_u hi 95 j4 (hi 109 j3)) hl v) Q
    refine rx_aw_s 2 (pc := 28) rfl ?_
    show rx_aw 216 2 [.ref 90, .int x1, .int (x2 + (1 : Int32))] [] (rx_hp L t (rx_u hi 95 j4 (hi 109 j3)) hl v) Q
    exact k
set_option maxRecDepth 100000 in
/-- CartFloorModel.guest(I)I -/
theorem w217_guest_r {L : Nat} {t : List (Nat × Nat)} {hi : Nat → Nat → Int32} {hl : Nat → Nat → Int64} {v : Nat → Nat → Option Nat} {Q : Option Value → rx_H → Prop} {a0 : Int32} (k : rx_me 161 [.ref 90, .int a0] (rx_hp L t hi hl v) (fun r h2 => ∃ z1 : Int32, r = some (.int z1) ∧ rx_ok2 L t h2 (fun hi1 hl1 v1 => ((z1 = 0 → Q (some (.int (-2 : Int32))) (rx_hp L t hi1 hl1 v1)) ∧ (¬ (z1 = 0) → (∃ j3 : Nat, a0 = nI j3 ∧ j3 < 6 ∧ (((hi1 93 j3) = (3 : Int32) → (∃ j5 : Nat, a0 = nI j5 ∧ j5 < 6 ∧ (((hi1 94 j5) ≤ 0 → rx_aw 217 32 [.ref 90, .int a0, .int (0 : Int32)] [] (rx_hp L t hi1 hl1 v1) Q) ∧ (¬ ((hi1 94 j5) ≤ 0) → Q (some (.int (-2 : Int32))) (rx_hp L t hi1 hl1 v1))))) ∧ (¬ ((hi1 93 j3) = (3 : Int32)) → Q (some (.int (-2 : Int32))) (rx_hp L t hi1 hl1 v1))))))))) : rx_me 217 [.ref 90, .int a0] (rx_hp L t hi hl v) Q := by
  show rx_aw 217 0 [.ref 90, .int a0, rx_no] [] (rx_hp L t hi hl v) Q
  refine rx_aw_s 2 (pc := 0) rfl ?_
  show rx_aw 217 2 [.ref 90, .int a0, rx_no] [.int a0, .ref 90] (rx_hp L t hi hl v) Q
  refine rx_w_callI (j := 161) (pc := 2) rfl rfl rfl rfl rfl ?_
  refine rx_aw.mono k (fun r h2 k => ?_)
  obtain ⟨z1, rfl, hi1, hl1, v1, rfl, k⟩ := k
  refine ⟨z1, rfl, ?_⟩
  show rx_aw 217 5 [.ref 90, .int a0, rx_no] [.int z1] (rx_hp L t hi1 hl1 v1) Q
  refine rx_aw_s 1 (pc := 5) rfl ?_
  refine rx_w_if (c := z1 = 0) ⟨fun c2 => ?_, fun c2 => ?_⟩
  · have k := k.1 c2
    show rx_aw 217 27 [.ref 90, .int a0, rx_no] [] (rx_hp L t hi1 hl1 v1) Q
    refine rx_aw_s 1 (pc := 27) rfl ?_
    show rx_aw 217 29 [.ref 90, .int a0, rx_no] [.int (-2 : Int32)] (rx_hp L t hi1 hl1 v1) Q
    exact rx_aw_ret (pc := 29) rfl k
  · have k := k.2 c2
    show rx_aw 217 8 [.ref 90, .int a0, rx_no] [] (rx_hp L t hi1 hl1 v1) Q
    refine rx_aw_s 3 (pc := 8) rfl ?_
    show rx_aw 217 13 [.ref 90, .int a0, rx_no] [.int a0, .ref 93] (rx_hp L t hi1 hl1 v1) Q
    obtain ⟨j3, ej3, hj3, k⟩ := k
    refine rx_aw_iald (pc := 13) (n := 6) j3 ej3 rfl rfl rfl hj3 (by decide) ?_
    show rx_aw 217 14 [.ref 90, .int a0, rx_no] [.int (hi1 93 j3)] (rx_hp L t hi1 hl1 v1) Q
    refine rx_aw_s 2 (pc := 14) rfl ?_
    refine rx_w_ifn (c := (hi1 93 j3) = (3 : Int32)) ⟨fun c4 => ?_, fun c4 => ?_⟩
    · have k := k.1 c4
      show rx_aw 217 18 [.ref 90, .int a0, rx_no] [] (rx_hp L t hi1 hl1 v1) Q
      refine rx_aw_s 3 (pc := 18) rfl ?_
      show rx_aw 217 23 [.ref 90, .int a0, rx_no] [.int a0, .ref 94] (rx_hp L t hi1 hl1 v1) Q
      obtain ⟨j5, ej5, hj5, k⟩ := k
      refine rx_aw_iald (pc := 23) (n := 6) j5 ej5 rfl rfl rfl hj5 (by decide) ?_
      show rx_aw 217 24 [.ref 90, .int a0, rx_no] [.int (hi1 94 j5)] (rx_hp L t hi1 hl1 v1) Q
      refine rx_aw_s 1 (pc := 24) rfl ?_
      refine rx_w_if (c := (hi1 94 j5) ≤ 0) ⟨fun c6 => ?_, fun c6 => ?_⟩
      · have k := k.1 c6
        show rx_aw 217 30 [.ref 90, .int a0, rx_no] [] (rx_hp L t hi1 hl1 v1) Q
        refine rx_aw_s 2 (pc := 30) rfl ?_
        show rx_aw 217 32 [.ref 90, .int a0, .int (0 : Int32)] [] (rx_hp L t hi1 hl1 v1) Q
        exact k
      · have k := k.2 c6
        show rx_aw 217 27 [.ref 90, .int a0, rx_no] [] (rx_hp L t hi1 hl1 v1) Q
        refine rx_aw_s 1 (pc := 27) rfl ?_
        show rx_aw 217 29 [.ref 90, .int a0, rx_no] [.int (-2 : Int32)] (rx_hp L t hi1 hl1 v1) Q
        exact rx_aw_ret (pc := 29) rfl k
    · have k := k.2 c4
      show rx_aw 217 27 [.ref 90, .int a0, rx_no] [] (rx_hp L t hi1 hl1 v1) Q
      refine rx_aw_s 1 (pc := 27) rfl ?_
      show rx_aw 217 29 [.ref 90, .int a0, rx_no] [.int (-2 : Int32)] (rx_hp L t hi1 hl1 v1) Q
      exact rx_aw_ret (pc := 29) rfl k
set_option maxRecDepth 100000 in
theorem w217_guest_r_32 {L : Nat} {t : List (Nat × Nat)} {hi : Nat → Nat → Int32} {hl : Nat → Nat → Int64} {v : Nat → Nat → Option Nat} {Q : Option Value → rx_H → Prop} {x1 : Int32} {x2 : Int32} (k : (((hi 90 6) ≤ x2 → rx_me 214 [.ref 90, .int x1] (rx_hp L t hi hl v) (fun r h2 => ∃ z8 : Int32, r = some (.int z8) ∧ rx_ok2 L t h2 (fun hi8 hl8 v8 => ((z8 < 0 → Q (some (.int z8)) (rx_hp L t hi8 hl8 v8)) ∧ (¬ (z8 < 0) → rx_me 216 [.ref 90, .int x1] (rx_hp L t hi8 hl8 v8) (fun r h2 => r = none ∧ rx_ok2 L t h2 (fun hi10 hl10 v10 => rx_me 191 [.ref 90] (rx_hp L t hi10 hl10 v10) (fun r h2 => r = none ∧ rx_ok2 L t h2 (fun hi11 hl11 v11 => Q (some (.int z8)) (rx_hp L t hi11 hl11 v11)))))))))) ∧ (¬ ((hi 90 6) ≤ x2) → (∃ j12 : Nat, x2 = nI j12 ∧ j12 < 6 ∧ (((hi 93 j12) = (3 : Int32) → rx_aw 217 32 [.ref 90, .int x1, .int (x2 + (1 : Int32))] [] (rx_hp L t hi hl v) Q) ∧ (¬ ((hi 93 j12) = (3 : Int32)) → (∃ j14 : Nat, x2 = nI j14 ∧ j14 < 6 ∧ (((hi 94 j14) ≤ 0 → rx_aw 217 32 [.ref 90, .int x1, .int (x2 + (1 : Int32))] [] (rx_hp L t hi hl v) Q) ∧ (¬ ((hi 94 j14) ≤ 0) → Q (some (.int (-2 : Int32))) (rx_hp L t hi hl v)))))))))) : rx_aw 217 32 [.ref 90, .int x1, .int x2] [] (rx_hp L t hi hl v) Q := by
  refine rx_aw_s 4 (pc := 32) rfl ?_
  refine rx_w_if (c := (hi 90 6) ≤ x2) ⟨fun c7 => ?_, fun c7 => ?_⟩
  · have k := k.1 c7
    show rx_aw 217 68 [.ref 90, .int x1, .int x2] [] (rx_hp L t hi hl v) Q
    refine rx_aw_s 2 (pc := 68) rfl ?_
    show rx_aw 217 70 [.ref 90, .int x1, .int x2] [.int x1, .ref 90] (rx_hp L t hi hl v) Q
    refine rx_w_callI (j := 214) (pc := 70) rfl rfl rfl rfl rfl ?_
    refine rx_aw.mono k (fun r h2 k => ?_)
    obtain ⟨z8, rfl, hi8, hl8, v8, rfl, k⟩ := k
    refine ⟨z8, rfl, ?_⟩
    show rx_aw 217 73 [.ref 90, .int x1, .int x2] [.int z8] (rx_hp L t hi8 hl8 v8) Q
    refine rx_aw_s 3 (pc := 73) rfl ?_
    refine rx_w_if (c := z8 < 0) ⟨fun c9 => ?_, fun c9 => ?_⟩
    · have k := k.1 c9
      show rx_aw 217 87 [.ref 90, .int x1, .int z8] [] (rx_hp L t hi8 hl8 v8) Q
      refine rx_aw_s 1 (pc := 87) rfl ?_
      show rx_aw 217 88 [.ref 90, .int x1, .int z8] [.int z8] (rx_hp L t hi8 hl8 v8) Q
      exact rx_aw_ret (pc := 88) rfl k
    · have k := k.2 c9
      show rx_aw 217 78 [.ref 90, .int x1, .int z8] [] (rx_hp L t hi8 hl8 v8) Q
      refine rx_aw_s 2 (pc := 78) rfl ?_
      show rx_aw 217 80 [.ref 90, .int x1, .int z8] [.int x1, .ref 90] (rx_hp L t hi8 hl8 v8) Q
      refine rx_w_callV (j := 216) (pc := 80) rfl rfl rfl rfl rfl ?_
      refine rx_aw.mono k (fun r h2 k => ?_)
      obtain ⟨rfl, hi10, hl10, v10, rfl, k⟩ := k
      refine ⟨rfl, ?_⟩
      show rx_aw 217 83 [.ref 90, .int x1, .int z8] [] (rx_hp L t hi10 hl10 v10) Q
      refine rx_aw_s 1 (pc := 83) rfl ?_
      show rx_aw 217 84 [.ref 90, .int x1, .int z8] [.ref 90] (rx_hp L t hi10 hl10 v10) Q
      refine rx_w_callV (j := 191) (pc := 84) rfl rfl rfl rfl rfl ?_
      refine rx_aw.mono k (fun r h2 k => ?_)
      obtain ⟨rfl, hi11, hl11, v11, rfl, k⟩ := k
      refine ⟨rfl, ?_⟩
      show rx_aw 217 87 [.ref 90, .int x1, .int z8] [] (rx_hp L t hi11 hl11 v11) Q
      refine rx_aw_s 1 (pc := 87) rfl ?_
      show rx_aw 217 88 [.ref 90, .int x1, .int z8] [.int z8] (rx_hp L t hi11 hl11 v11) Q
      exact rx_aw_ret (pc := 88) rfl k
  · have k := k.2 c7
    show rx_aw 217 40 [.ref 90, .int x1, .int x2] [] (rx_hp L t hi hl v) Q
    refine rx_aw_s 3 (pc := 40) rfl ?_
    show rx_aw 217 45 [.ref 90, .int x1, .int x2] [.int x2, .ref 93] (rx_hp L t hi hl v) Q
    obtain ⟨j12, ej12, hj12, k⟩ := k
    refine rx_aw_iald (pc := 45) (n := 6) j12 ej12 rfl rfl rfl hj12 (by decide) ?_
    show rx_aw 217 46 [.ref 90, .int x1, .int x2] [.int (hi 93 j12)] (rx_hp L t hi hl v) Q
    refine rx_aw_s 2 (pc := 46) rfl ?_
    refine rx_w_if (c := (hi 93 j12) = (3 : Int32)) ⟨fun c13 => ?_, fun c13 => ?_⟩
    · have k := k.1 c13
      show rx_aw 217 62 [.ref 90, .int x1, .int x2] [] (rx_hp L t hi hl v) Q
      refine rx_aw_s 2 (pc := 62) rfl ?_
      show rx_aw 217 32 [.ref 90, .int x1, .int (x2 + (1 : Int32))] [] (rx_hp L t hi hl v) Q
      exact k
    · have k := k.2 c13
      show rx_aw 217 50 [.ref 90, .int x1, .int x2] [] (rx_hp L t hi hl v) Q
      refine rx_aw_s 3 (pc := 50) rfl ?_
      show rx_aw 217 55 [.ref 90, .int x1, .int x2] [.int x2, .ref 94] (rx_hp L t hi hl v) Q
      obtain ⟨j14, ej14, hj14, k⟩ := k
      refine rx_aw_iald (pc := 55) (n := 6) j14 ej14 rfl rfl rfl hj14 (by decide) ?_
      show rx_aw 217 56 [.ref 90, .int x1, .int x2] [.int (hi 94 j14)] (rx_hp L t hi hl v) Q
      refine rx_aw_s 1 (pc := 56) rfl ?_
      refine rx_w_if (c := (hi 94 j14) ≤ 0) ⟨fun c15 => ?_, fun c15 => ?_⟩
      · have k := k.1 c15
        show rx_aw 217 62 [.ref 90, .int x1, .int x2] [] (rx_hp L t hi hl v) Q
        refine rx_aw_s 2 (pc := 62) rfl ?_
        show rx_aw 217 32 [.ref 90, .int x1, .int (x2 + (1 : Int32))] [] (rx_hp L t hi hl v) Q
        exact k
      · have k := k.2 c15
        show rx_aw 217 59 [.ref 90, .int x1, .int x2] [] (rx_hp L t hi hl v) Q
        refine rx_aw_s 1 (pc := 59) rfl ?_
        show rx_aw 217 61 [.ref 90, .int x1, .int x2] [.int (-2 : Int32)] (rx_hp L t hi hl v) Q
        exact rx_aw_ret (pc := 61) rfl k
set_option maxRecDepth 100000 in
/-- CartFloorModel.at(III)I -/
theorem w218_at_r {L : Nat} {t : List (Nat × Nat)} {hi : Nat → Nat → Int32} {hl : Nat → Nat → Int64} {v : Nat → Nat → Option Nat} {Q : Option Value → rx_H → Prop} {a0 : Int32} {a1 : Int32} {a2 : Int32} (k : rx_me 161 [.ref 90, .int a0] (rx_hp L t hi hl v) (fun r h2 => ∃ z1 : Int32, r = some (.int z1) ∧ rx_ok2 L t h2 (fun hi1 hl1 v1 => ((z1 = 0 → Q (some (.int (-2 : Int32))) (rx_hp L t hi1 hl1 v1)) ∧ (¬ (z1 = 0) → ((a1 < 0 → Q (some (.int (-2 : Int32))) (rx_hp L t hi1 hl1 v1)) ∧ (¬ (a1 < 0) → ((a2 < 0 → Q (some (.int (-2 : Int32))) (rx_hp L t hi1 hl1 v1)) ∧ (¬ (a2 < 0) → ((a2 ≤ (3 : Int32) → rx_me 219 [.int a1] (rx_hp L t hi1 hl1 v1) (fun r h2 => ∃ z6 : Int32, r = some (.int z6) ∧ rx_ok2 L t h2 (fun hi6 hl6 v6 => ((a2 = 0 → (∃ j8 : Nat, (((402 : Int32) * a0) + z6) = nI j8 ∧ j8 < 2412 ∧ Q (some (.int (hi6 101 j8))) (rx_hp L t hi6 hl6 v6))) ∧ (¬ (a2 = 0) → ((a2 = (1 : Int32) → (∃ j10 : Nat, (((402 : Int32) * a0) + z6) = nI j10 ∧ j10 < 2412 ∧ Q (some (.int (hi6 102 j10))) (rx_hp L t hi6 hl6 v6))) ∧ (¬ (a2 = (1 : Int32)) → ((a2 = (2 : Int32) → (∃ j12 : Nat, (((402 : Int32) * a0) + z6) = nI j12 ∧ j12 < 2412 ∧ Q (some (.int (hi6 103 j12))) (rx_hp L t hi6 hl6 v6))) ∧ (¬ (a2 = (2 : Int32)) → rx_me 194 [.ref 90, .int a0, .int a1] (rx_hp L t hi6 hl6 v6) (fun r h2 => ∃ z13 : Int32, r = some (.int z13) ∧ rx_ok2 L t h2 (fun hi13 hl13 v13 => Q (some (.int z13)) (rx_hp L t hi13 hl13 v13)))))))))))) ∧ (¬ (a2 ≤ (3 : Int32)) → Q (some (.int (-2 : Int32))) (rx_hp L t hi1 hl1 v1)))))))))))) : rx_me 218 [.ref 90, .int a0, .int a1, .int a2] (rx_hp L t hi hl v) Q := by
  show rx_aw 218 0 [.ref 90, .int a0, .int a1, .int a2, rx_no] [] (rx_hp L t hi hl v) Q
  refine rx_aw_s 2 (pc := 0) rfl ?_
  show rx_aw 218 2 [.ref 90, .int a0, .int a1, .int a2, rx_no] [.int a0, .ref 90] (rx_hp L t hi hl v) Q
  refine rx_w_callI (j := 161) (pc := 2) rfl rfl rfl rfl rfl ?_
  refine rx_aw.mono k (fun r h2 k => ?_)
  obtain ⟨z1, rfl, hi1, hl1, v1, rfl, k⟩ := k
  refine ⟨z1, rfl, ?_⟩
  show rx_aw 218 5 [.ref 90, .int a0, .int a1, .int a2, rx_no] [.int z1] (rx_hp L t hi1 hl1 v1) Q
  refine rx_aw_s 1 (pc := 5) rfl ?_
  refine rx_w_if (c := z1 = 0) ⟨fun c2 => ?_, fun c2 => ?_⟩
  · have k := k.1 c2
    show rx_aw 218 21 [.ref 90, .int a0, .int a1, .int a2, rx_no] [] (rx_hp L t hi1 hl1 v1) Q
    refine rx_aw_s 1 (pc := 21) rfl ?_
    show rx_aw 218 23 [.ref 90, .int a0, .int a1, .int a2, rx_no] [.int (-2 : Int32)] (rx_hp L t hi1 hl1 v1) Q
    exact rx_aw_ret (pc := 23) rfl k
  · have k := k.2 c2
    show rx_aw 218 8 [.ref 90, .int a0, .int a1, .int a2, rx_no] [] (rx_hp L t hi1 hl1 v1) Q
    refine rx_aw_s 2 (pc := 8) rfl ?_
    refine rx_w_if (c := a1 < 0) ⟨fun c3 => ?_, fun c3 => ?_⟩
    · have k := k.1 c3
      show rx_aw 218 21 [.ref 90, .int a0, .int a1, .int a2, rx_no] [] (rx_hp L t hi1 hl1 v1) Q
      refine rx_aw_s 1 (pc := 21) rfl ?_
      show rx_aw 218 23 [.ref 90, .int a0, .int a1, .int a2, rx_no] [.int (-2 : Int32)] (rx_hp L t hi1 hl1 v1) Q
      exact rx_aw_ret (pc := 23) rfl k
    · have k := k.2 c3
      show rx_aw 218 12 [.ref 90, .int a0, .int a1, .int a2, rx_no] [] (rx_hp L t hi1 hl1 v1) Q
      refine rx_aw_s 2 (pc := 12) rfl ?_
      refine rx_w_if (c := a2 < 0) ⟨fun c4 => ?_, fun c4 => ?_⟩
      · have k := k.1 c4
        show rx_aw 218 21 [.ref 90, .int a0, .int a1, .int a2, rx_no] [] (rx_hp L t hi1 hl1 v1) Q
        refine rx_aw_s 1 (pc := 21) rfl ?_
        show rx_aw 218 23 [.ref 90, .int a0, .int a1, .int a2, rx_no] [.int (-2 : Int32)] (rx_hp L t hi1 hl1 v1) Q
        exact rx_aw_ret (pc := 23) rfl k
      · have k := k.2 c4
        show rx_aw 218 16 [.ref 90, .int a0, .int a1, .int a2, rx_no] [] (rx_hp L t hi1 hl1 v1) Q
        refine rx_aw_s 3 (pc := 16) rfl ?_
        refine rx_w_if (c := a2 ≤ (3 : Int32)) ⟨fun c5 => ?_, fun c5 => ?_⟩
        · have k := k.1 c5
          show rx_aw 218 24 [.ref 90, .int a0, .int a1, .int a2, rx_no] [] (rx_hp L t hi1 hl1 v1) Q
          refine rx_aw_s 4 (pc := 24) rfl ?_
          show rx_aw 218 30 [.ref 90, .int a0, .int a1, .int a2, rx_no] [.int a1, .int ((402 : Int32) * a0)] (rx_hp L t hi1 hl1 v1) Q
          refine rx_w_callI (j := 219) (pc := 30) rfl rfl rfl rfl rfl ?_
          refine rx_aw.mono k (fun r h2 k => ?_)
          obtain ⟨z6, rfl, hi6, hl6, v6, rfl, k⟩ := k
          refine ⟨z6, rfl, ?_⟩
          show rx_aw 218 33 [.ref 90, .int a0, .int a1, .int a2, rx_no] [.int z6, .int ((402 : Int32) * a0)] (rx_hp L t hi6 hl6 v6) Q
          refine rx_aw_s 4 (pc := 33) rfl ?_
          refine rx_w_ifn (c := a2 = 0) ⟨fun c7 => ?_, fun c7 => ?_⟩
          · have k := k.1 c7
            show rx_aw 218 40 [.ref 90, .int a0, .int a1, .int a2, .int (((402 : Int32) * a0) + z6)] [] (rx_hp L t hi6 hl6 v6) Q
            refine rx_aw_s 3 (pc := 40) rfl ?_
            show rx_aw 218 46 [.ref 90, .int a0, .int a1, .int a2, .int (((402 : Int32) * a0) + z6)] [.int (((402 : Int32) * a0) + z6), .ref 101] (rx_hp L t hi6 hl6 v6) Q
            obtain ⟨j8, ej8, hj8, k⟩ := k
            refine rx_aw_iald (pc := 46) (n := 2412) j8 ej8 rfl rfl rfl hj8 (by decide) ?_
            show rx_aw 218 47 [.ref 90, .int a0, .int a1, .int a2, .int (((402 : Int32) * a0) + z6)] [.int (hi6 101 j8)] (rx_hp L t hi6 hl6 v6) Q
            refine rx_aw_s 1 (pc := 47) rfl ?_
            show rx_aw 218 86 [.ref 90, .int a0, .int a1, .int a2, .int (((402 : Int32) * a0) + z6)] [.int (hi6 101 j8)] (rx_hp L t hi6 hl6 v6) Q
            exact rx_aw_ret (pc := 86) rfl k
          · have k := k.2 c7
            show rx_aw 218 50 [.ref 90, .int a0, .int a1, .int a2, .int (((402 : Int32) * a0) + z6)] [] (rx_hp L t hi6 hl6 v6) Q
            refine rx_aw_s 3 (pc := 50) rfl ?_
            refine rx_w_ifn (c := a2 = (1 : Int32)) ⟨fun c9 => ?_, fun c9 => ?_⟩
            · have k := k.1 c9
              show rx_aw 218 55 [.ref 90, .int a0, .int a1, .int a2, .int (((402 : Int32) * a0) + z6)] [] (rx_hp L t hi6 hl6 v6) Q
              refine rx_aw_s 3 (pc := 55) rfl ?_
              show rx_aw 218 61 [.ref 90, .int a0, .int a1, .int a2, .int (((402 : Int32) * a0) + z6)] [.int (((402 : Int32) * a0) + z6), .ref 102] (rx_hp L t hi6 hl6 v6) Q
              obtain ⟨j10, ej10, hj10, k⟩ := k
              refine rx_aw_iald (pc := 61) (n := 2412) j10 ej10 rfl rfl rfl hj10 (by decide) ?_
              show rx_aw 218 62 [.ref 90, .int a0, .int a1, .int a2, .int (((402 : Int32) * a0) + z6)] [.int (hi6 102 j10)] (rx_hp L t hi6 hl6 v6) Q
              refine rx_aw_s 1 (pc := 62) rfl ?_
              show rx_aw 218 86 [.ref 90, .int a0, .int a1, .int a2, .int (((402 : Int32) * a0) + z6)] [.int (hi6 102 j10)] (rx_hp L t hi6 hl6 v6) Q
              exact rx_aw_ret (pc := 86) rfl k
            · have k := k.2 c9
              show rx_aw 218 65 [.ref 90, .int a0, .int a1, .int a2, .int (((402 : Int32) * a0) + z6)] [] (rx_hp L t hi6 hl6 v6) Q
              refine rx_aw_s 3 (pc := 65) rfl ?_
              refine rx_w_ifn (c := a2 = (2 : Int32)) ⟨fun c11 => ?_, fun c11 => ?_⟩
              · have k := k.1 c11
                show rx_aw 218 70 [.ref 90, .int a0, .int a1, .int a2, .int (((402 : Int32) * a0) + z6)] [] (rx_hp L t hi6 hl6 v6) Q
                refine rx_aw_s 3 (pc := 70) rfl ?_
                show rx_aw 218 76 [.ref 90, .int a0, .int a1, .int a2, .int (((402 : Int32) * a0) + z6)] [.int (((402 : Int32) * a0) + z6), .ref 103] (rx_hp L t hi6 hl6 v6) Q
                obtain ⟨j12, ej12, hj12, k⟩ := k
                refine rx_aw_iald (pc := 76) (n := 2412) j12 ej12 rfl rfl rfl hj12 (by decide) ?_
                show rx_aw 218 77 [.ref 90, .int a0, .int a1, .int a2, .int (((402 : Int32) * a0) + z6)] [.int (hi6 103 j12)] (rx_hp L t hi6 hl6 v6) Q
                refine rx_aw_s 1 (pc := 77) rfl ?_
                show rx_aw 218 86 [.ref 90, .int a0, .int a1, .int a2, .int (((402 : Int32) * a0) + z6)] [.int (hi6 103 j12)] (rx_hp L t hi6 hl6 v6) Q
                exact rx_aw_ret (pc := 86) rfl k
              · have k := k.2 c11
                show rx_aw 218 80 [.ref 90, .int a0, .int a1, .int a2, .int (((402 : Int32) * a0) + z6)] [] (rx_hp L t hi6 hl6 v6) Q
                refine rx_aw_s 3 (pc := 80) rfl ?_
                show rx_aw 218 83 [.ref 90, .int a0, .int a1, .int a2, .int (((402 : Int32) * a0) + z6)] [.int a1, .int a0, .ref 90] (rx_hp L t hi6 hl6 v6) Q
                refine rx_w_callI (j := 194) (pc := 83) rfl rfl rfl rfl rfl ?_
                refine rx_aw.mono k (fun r h2 k => ?_)
                obtain ⟨z13, rfl, hi13, hl13, v13, rfl, k⟩ := k
                refine ⟨z13, rfl, ?_⟩
                show rx_aw 218 86 [.ref 90, .int a0, .int a1, .int a2, .int (((402 : Int32) * a0) + z6)] [.int z13] (rx_hp L t hi13 hl13 v13) Q
                exact rx_aw_ret (pc := 86) rfl k
        · have k := k.2 c5
          show rx_aw 218 21 [.ref 90, .int a0, .int a1, .int a2, rx_no] [] (rx_hp L t hi1 hl1 v1) Q
          refine rx_aw_s 1 (pc := 21) rfl ?_
          show rx_aw 218 23 [.ref 90, .int a0, .int a1, .int a2, rx_no] [.int (-2 : Int32)] (rx_hp L t hi1 hl1 v1) Q
          exact rx_aw_ret (pc := 23) rfl k
set_option maxRecDepth 100000 in
/-- CartFloorModel.tickOf(I)I -/
theorem w219_tickOf_r {L : Nat} {t : List (Nat × Nat)} {hi : Nat → Nat → Int32} {hl : Nat → Nat → Int64} {v : Nat → Nat → Option Nat} {Q : Option Value → rx_H → Prop} {a0 : Int32} (k : ((a0 < (402 : Int32) → Q (some (.int a0)) (rx_hp L t hi hl v)) ∧ (¬ (a0 < (402 : Int32)) → Q (some (.int (401 : Int32))) (rx_hp L t hi hl v)))) : rx_me 219 [.int a0] (rx_hp L t hi hl v) Q := by
  show rx_aw 219 0 [.int a0] [] (rx_hp L t hi hl v) Q
  refine rx_aw_s 3 (pc := 0) rfl ?_
  refine rx_w_if (c := a0 < (402 : Int32)) ⟨fun c1 => ?_, fun c1 => ?_⟩
  · have k := k.1 c1
    show rx_aw 219 13 [.int a0] [] (rx_hp L t hi hl v) Q
    refine rx_aw_s 1 (pc := 13) rfl ?_
    show rx_aw 219 14 [.int a0] [.int a0] (rx_hp L t hi hl v) Q
    exact rx_aw_ret (pc := 14) rfl k
  · have k := k.2 c1
    show rx_aw 219 7 [.int a0] [] (rx_hp L t hi hl v) Q
    refine rx_aw_s 2 (pc := 7) rfl ?_
    show rx_aw 219 14 [.int a0] [.int (401 : Int32)] (rx_hp L t hi hl v) Q
    exact rx_aw_ret (pc := 14) rfl k
set_option maxRecDepth 100000 in
/-- CartFloorModel.shelved(II)I -/
theorem w220_shelved_r {L : Nat} {t : List (Nat × Nat)} {hi : Nat → Nat → Int32} {hl : Nat → Nat → Int64} {v : Nat → Nat → Option Nat} {Q : Option Value → rx_H → Prop} {a0 : Int32} {a1 : Int32} (k : ((a0 < 0 → Q (some (.int (-2 : Int32))) (rx_hp L t hi hl v)) ∧ (¬ (a0 < 0) → (((hi 90 21) ≤ a0 → Q (some (.int (-2 : Int32))) (rx_hp L t hi hl v)) ∧ (¬ ((hi 90 21) ≤ a0) → ((0 ≤ a1 → rx_me 219 [.int a1] (rx_hp L t hi hl v) (fun r h2 => ∃ z4 : Int32, r = some (.int z4) ∧ rx_ok2 L t h2 (fun hi4 hl4 v4 => (∃ j5 : Nat, (((402 : Int32) * a0) + z4) = nI j5 ∧ j5 < 4824 ∧ Q (some (.int (hi4 108 j5))) (rx_hp L t hi4 hl4 v4))))) ∧ (¬ (0 ≤ a1) → Q (some (.int (-2 : Int32))) (rx_hp L t hi hl v)))))))) : rx_me 220 [.ref 90, .int a0, .int a1] (rx_hp L t hi hl v) Q := by
  show rx_aw 220 0 [.ref 90, .int a0, .int a1] [] (rx_hp L t hi hl v) Q
  refine rx_aw_s 2 (pc := 0) rfl ?_
  refine rx_w_if (c := a0 < 0) ⟨fun c1 => ?_, fun c1 => ?_⟩
  · have k := k.1 c1
    show rx_aw 220 16 [.ref 90, .int a0, .int a1] [] (rx_hp L t hi hl v) Q
    refine rx_aw_s 2 (pc := 16) rfl ?_
    show rx_aw 220 36 [.ref 90, .int a0, .int a1] [.int (-2 : Int32)] (rx_hp L t hi hl v) Q
    exact rx_aw_ret (pc := 36) rfl k
  · have k := k.2 c1
    show rx_aw 220 4 [.ref 90, .int a0, .int a1] [] (rx_hp L t hi hl v) Q
    refine rx_aw_s 4 (pc := 4) rfl ?_
    refine rx_w_if (c := (hi 90 21) ≤ a0) ⟨fun c2 => ?_, fun c2 => ?_⟩
    · have k := k.1 c2
      show rx_aw 220 16 [.ref 90, .int a0, .int a1] [] (rx_hp L t hi hl v) Q
      refine rx_aw_s 2 (pc := 16) rfl ?_
      show rx_aw 220 36 [.ref 90, .int a0, .int a1] [.int (-2 : Int32)] (rx_hp L t hi hl v) Q
      exact rx_aw_ret (pc := 36) rfl k
    · have k := k.2 c2
      show rx_aw 220 12 [.ref 90, .int a0, .int a1] [] (rx_hp L t hi hl v) Q
      refine rx_aw_s 2 (pc := 12) rfl ?_
      refine rx_w_if (c := 0 ≤ a1) ⟨fun c3 => ?_, fun c3 => ?_⟩
      · have k := k.1 c3
        show rx_aw 220 21 [.ref 90, .int a0, .int a1] [] (rx_hp L t hi hl v) Q
        refine rx_aw_s 6 (pc := 21) rfl ?_
        show rx_aw 220 31 [.ref 90, .int a0, .int a1] [.int a1, .int ((402 : Int32) * a0), .ref 108] (rx_hp L t hi hl v) Q
        refine rx_w_callI (j := 219) (pc := 31) rfl rfl rfl rfl rfl ?_
        refine rx_aw.mono k (fun r h2 k => ?_)
        obtain ⟨z4, rfl, hi4, hl4, v4, rfl, k⟩ := k
        refine ⟨z4, rfl, ?_⟩
        show rx_aw 220 34 [.ref 90, .int a0, .int a1] [.int z4, .int ((402 : Int32) * a0), .ref 108] (rx_hp L t hi4 hl4 v4) Q
        refine rx_aw_s 1 (pc := 34) rfl ?_
        show rx_aw 220 35 [.ref 90, .int a0, .int a1] [.int (((402 : Int32) * a0) + z4), .ref 108] (rx_hp L t hi4 hl4 v4) Q
        obtain ⟨j5, ej5, hj5, k⟩ := k
        refine rx_aw_iald (pc := 35) (n := 4824) j5 ej5 rfl rfl rfl hj5 (by decide) ?_
        show rx_aw 220 36 [.ref 90, .int a0, .int a1] [.int (hi4 108 j5)] (rx_hp L t hi4 hl4 v4) Q
        exact rx_aw_ret (pc := 36) rfl k
      · have k := k.2 c3
        show rx_aw 220 16 [.ref 90, .int a0, .int a1] [] (rx_hp L t hi hl v) Q
        refine rx_aw_s 2 (pc := 16) rfl ?_
        show rx_aw 220 36 [.ref 90, .int a0, .int a1] [.int (-2 : Int32)] (rx_hp L t hi hl v) Q
        exact rx_aw_ret (pc := 36) rfl k
set_option maxRecDepth 100000 in
/-- CartFloorModel.turnsIn(I)I -/
theorem w222_turnsIn_r {L : Nat} {t : List (Nat × Nat)} {hi : Nat → Nat → Int32} {hl : Nat → Nat → Int64} {v : Nat → Nat → Option Nat} {Q : Option Value → rx_H → Prop} {a0 : Int32} (k : rx_aw 222 4 [.ref 90, .int a0, .int (0 : Int32), .int (0 : Int32), rx_no] [] (rx_hp L t hi hl v) Q) : rx_me 222 [.ref 90, .int a0] (rx_hp L t hi hl v) Q := by
  show rx_aw 222 0 [.ref 90, .int a0, rx_no, rx_no, rx_no] [] (rx_hp L t hi hl v) Q
  refine rx_aw_s 4 (pc := 0) rfl ?_
  show rx_aw 222 4 [.ref 90, .int a0, .int (0 : Int32), .int (0 : Int32), rx_no] [] (rx_hp L t hi hl v) Q
  exact k
set_option maxRecDepth 100000 in
theorem w222_turnsIn_r_4 {L : Nat} {t : List (Nat × Nat)} {hi : Nat → Nat → Int32} {hl : Nat → Nat → Int64} {v : Nat → Nat → Option Nat} {Q : Option Value → rx_H → Prop} {x1 : Int32} {x2 : Int32} {x3 : Int32} (k : (∃ j1 : Nat, x1 = nI j1 ∧ j1 < 6 ∧ (((hi 94 j1) ≤ x3 → Q (some (.int x2)) (rx_hp L t hi hl v)) ∧ (¬ ((hi 94 j1) ≤ x3) → rx_me 194 [.ref 90, .int x1, .int x3] (rx_hp L t hi hl v) (fun r h2 => ∃ z3 : Int32, r = some (.int z3) ∧ rx_ok2 L t h2 (fun hi3 hl3 v3 => (((4 : Int32) < z3 → rx_aw 222 4 [.ref 90, .int x1, .int (x2 + (0 : Int32)), .int (x3 + (1 : Int32)), rx_no] [] (rx_hp L t hi3 hl3 v3) Q) ∧ (¬ ((4 : Int32) < z3) → (∃ j5 : Nat, x1 = nI j5 ∧ j5 < 6 ∧ (∃ j6 : Nat, (((402 : Int32) * x1) + x3) = nI j6 ∧ j6 < 2412 ∧ rx_me 189 [.ref 90, .int (hi3 93 j5), .int (hi3 102 j6), .int z3] (rx_hp L t hi3 hl3 v3) (fun r h2 => ∃ z7 : Int32, r = some (.int z7) ∧ rx_ok2 L t h2 (fun hi7 hl7 v7 => rx_aw 222 4 [.ref 90, .int x1, .int (x2 + z7), .int (x3 + (1 : Int32)), rx_no] [] (rx_hp L t hi7 hl7 v7) Q)))))))))))) : rx_aw 222 4 [.ref 90, .int x1, .int x2, .int x3, rx_no] [] (rx_hp L t hi hl v) Q := by
  refine rx_aw_s 4 (pc := 4) rfl ?_
  show rx_aw 222 10 [.ref 90, .int x1, .int x2, .int x3, rx_no] [.int x1, .ref 94, .int x3] (rx_hp L t hi hl v) Q
  obtain ⟨j1, ej1, hj1, k⟩ := k
  refine rx_aw_iald (pc := 10) (n := 6) j1 ej1 rfl rfl rfl hj1 (by decide) ?_
  show rx_aw 222 11 [.ref 90, .int x1, .int x2, .int x3, rx_no] [.int (hi 94 j1), .int x3] (rx_hp L t hi hl v) Q
  refine rx_aw_s 1 (pc := 11) rfl ?_
  refine rx_w_if (c := (hi 94 j1) ≤ x3) ⟨fun c2 => ?_, fun c2 => ?_⟩
  · have k := k.1 c2
    show rx_aw 222 65 [.ref 90, .int x1, .int x2, .int x3, rx_no] [] (rx_hp L t hi hl v) Q
    refine rx_aw_s 1 (pc := 65) rfl ?_
    show rx_aw 222 66 [.ref 90, .int x1, .int x2, .int x3, rx_no] [.int x2] (rx_hp L t hi hl v) Q
    exact rx_aw_ret (pc := 66) rfl k
  · have k := k.2 c2
    show rx_aw 222 14 [.ref 90, .int x1, .int x2, .int x3, rx_no] [] (rx_hp L t hi hl v) Q
    refine rx_aw_s 3 (pc := 14) rfl ?_
    show rx_aw 222 17 [.ref 90, .int x1, .int x2, .int x3, rx_no] [.int x3, .int x1, .ref 90] (rx_hp L t hi hl v) Q
    refine rx_w_callI (j := 194) (pc := 17) rfl rfl rfl rfl rfl ?_
    refine rx_aw.mono k (fun r h2 k => ?_)
    obtain ⟨z3, rfl, hi3, hl3, v3, rfl, k⟩ := k
    refine ⟨z3, rfl, ?_⟩
    show rx_aw 222 20 [.ref 90, .int x1, .int x2, .int x3, rx_no] [.int z3] (rx_hp L t hi3 hl3 v3) Q
    refine rx_aw_s 5 (pc := 20) rfl ?_
    refine rx_w_if (c := (4 : Int32) < z3) ⟨fun c4 => ?_, fun c4 => ?_⟩
    · have k := k.1 c4
      show rx_aw 222 56 [.ref 90, .int x1, .int x2, .int x3, .int z3] [.int x2] (rx_hp L t hi3 hl3 v3) Q
      refine rx_aw_s 5 (pc := 56) rfl ?_
      show rx_aw 222 4 [.ref 90, .int x1, .int (x2 + (0 : Int32)), .int (x3 + (1 : Int32)), .int z3] [] (rx_hp L t hi3 hl3 v3) Q
      exact rx_aw_le (ls := [.ref 90, .int x1, .int (x2 + (0 : Int32)), .int (x3 + (1 : Int32)), rx_no]) ⟨Or.inr rfl, ⟨Or.inr rfl, ⟨Or.inr rfl, ⟨Or.inr rfl, ⟨Or.inl rfl, trivial⟩⟩⟩⟩⟩ k
    · have k := k.2 c4
      show rx_aw 222 29 [.ref 90, .int x1, .int x2, .int x3, .int z3] [.int x2] (rx_hp L t hi3 hl3 v3) Q
      refine rx_aw_s 4 (pc := 29) rfl ?_
      show rx_aw 222 35 [.ref 90, .int x1, .int x2, .int x3, .int z3] [.int x1, .ref 93, .ref 90, .int x2] (rx_hp L t hi3 hl3 v3) Q
      obtain ⟨j5, ej5, hj5, k⟩ := k
      refine rx_aw_iald (pc := 35) (n := 6) j5 ej5 rfl rfl rfl hj5 (by decide) ?_
      show rx_aw 222 36 [.ref 90, .int x1, .int x2, .int x3, .int z3] [.int (hi3 93 j5), .ref 90, .int x2] (rx_hp L t hi3 hl3 v3) Q
      refine rx_aw_s 7 (pc := 36) rfl ?_
      show rx_aw 222 47 [.ref 90, .int x1, .int x2, .int x3, .int z3] [.int (((402 : Int32) * x1) + x3), .ref 102, .int (hi3 93 j5), .ref 90, .int x2] (rx_hp L t hi3 hl3 v3) Q
      obtain ⟨j6, ej6, hj6, k⟩ := k
      refine rx_aw_iald (pc := 47) (n := 2412) j6 ej6 rfl rfl rfl hj6 (by decide) ?_
      show rx_aw 222 48 [.ref 90, .int x1, .int x2, .int x3, .int z3] [.int (hi3 102 j6), .int (hi3 93 j5), .ref 90, .int x2] (rx_hp L t hi3 hl3 v3) Q
      refine rx_aw_s 1 (pc := 48) rfl ?_
      show rx_aw 222 50 [.ref 90, .int x1, .int x2, .int x3, .int z3] [.int z3, .int (hi3 102 j6), .int (hi3 93 j5), .ref 90, .int x2] (rx_hp L t hi3 hl3 v3) Q
      refine rx_w_callI (j := 189) (pc := 50) rfl rfl rfl rfl rfl ?_
      refine rx_aw.mono k (fun r h2 k => ?_)
      obtain ⟨z7, rfl, hi7, hl7, v7, rfl, k⟩ := k
      refine ⟨z7, rfl, ?_⟩
      show rx_aw 222 53 [.ref 90, .int x1, .int x2, .int x3, .int z3] [.int z7, .int x2] (rx_hp L t hi7 hl7 v7) Q
      refine rx_aw_s 5 (pc := 53) rfl ?_
      show rx_aw 222 4 [.ref 90, .int x1, .int (x2 + z7), .int (x3 + (1 : Int32)), .int z3] [] (rx_hp L t hi7 hl7 v7) Q
      exact rx_aw_le (ls := [.ref 90, .int x1, .int (x2 + z7), .int (x3 + (1 : Int32)), rx_no]) ⟨Or.inr rfl, ⟨Or.inr rfl, ⟨Or.inr rfl, ⟨Or.inr rfl, ⟨Or.inl rfl, trivial⟩⟩⟩⟩⟩ k
set_option maxRecDepth 100000 in
/-- CartFloorModel.count(I)I -/
theorem w223_count_r {L : Nat} {t : List (Nat × Nat)} {hi : Nat → Nat → Int32} {hl : Nat → Nat → Int64} {v : Nat → Nat → Option Nat} {Q : Option Value → rx_H → Prop} {a0 : Int32} (k : ((a0 < 0 → Q (some (.int (-2 : Int32))) (rx_hp L t hi hl v)) ∧ (¬ (a0 < 0) → ((a0 ≤ (8 : Int32) → ((a0 ≤ (1 : Int32) → ((a0 = 0 → Q (some (.int (hi 90 6))) (rx_hp L t hi hl v)) ∧ (¬ (a0 = 0) → ((a0 = (1 : Int32) → Q (some (.int (hi 90 21))) (rx_hp L t hi hl v)) ∧ (¬ (a0 = (1 : Int32)) → Q (some (.int (hi 90 5))) (rx_hp L t hi hl v)))))) ∧ (¬ (a0 ≤ (1 : Int32)) → ((a0 = (8 : Int32) → ((a0 = 0 → Q (some (.int (hi 90 6))) (rx_hp L t hi hl v)) ∧ (¬ (a0 = 0) → ((a0 = (1 : Int32) → Q (some (.int (hi 90 21))) (rx_hp L t hi hl v)) ∧ (¬ (a0 = (1 : Int32)) → Q (some (.int (hi 90 5))) (rx_hp L t hi hl v)))))) ∧ (¬ (a0 = (8 : Int32)) → rx_aw 223 56 [.ref 90, .int a0, .int (0 : Int32), .int (0 : Int32)] [] (rx_hp L t hi hl v) Q))))) ∧ (¬ (a0 ≤ (8 : Int32)) → Q (some (.int (-2 : Int32))) (rx_hp L t hi hl v)))))) : rx_me 223 [.ref 90, .int a0] (rx_hp L t hi hl v) Q := by
  show rx_aw 223 0 [.ref 90, .int a0, rx_no, rx_no] [] (rx_hp L t hi hl v) Q
  refine rx_aw_s 2 (pc := 0) rfl ?_
  refine rx_w_if (c := a0 < 0) ⟨fun c1 => ?_, fun c1 => ?_⟩
  · have k := k.1 c1
    show rx_aw 223 10 [.ref 90, .int a0, rx_no, rx_no] [] (rx_hp L t hi hl v) Q
    refine rx_aw_s 1 (pc := 10) rfl ?_
    show rx_aw 223 12 [.ref 90, .int a0, rx_no, rx_no] [.int (-2 : Int32)] (rx_hp L t hi hl v) Q
    exact rx_aw_ret (pc := 12) rfl k
  · have k := k.2 c1
    show rx_aw 223 4 [.ref 90, .int a0, rx_no, rx_no] [] (rx_hp L t hi hl v) Q
    refine rx_aw_s 3 (pc := 4) rfl ?_
    refine rx_w_if (c := a0 ≤ (8 : Int32)) ⟨fun c2 => ?_, fun c2 => ?_⟩
    · have k := k.1 c2
      show rx_aw 223 13 [.ref 90, .int a0, rx_no, rx_no] [] (rx_hp L t hi hl v) Q
      refine rx_aw_s 3 (pc := 13) rfl ?_
      refine rx_w_if (c := a0 ≤ (1 : Int32)) ⟨fun c3 => ?_, fun c3 => ?_⟩
      · have k := k.1 c3
        show rx_aw 223 24 [.ref 90, .int a0, rx_no, rx_no] [] (rx_hp L t hi hl v) Q
        refine rx_aw_s 2 (pc := 24) rfl ?_
        refine rx_w_ifn (c := a0 = 0) ⟨fun c4 => ?_, fun c4 => ?_⟩
        · have k := k.1 c4
          show rx_aw 223 28 [.ref 90, .int a0, rx_no, rx_no] [] (rx_hp L t hi hl v) Q
          refine rx_aw_s 3 (pc := 28) rfl ?_
          show rx_aw 223 51 [.ref 90, .int a0, rx_no, rx_no] [.int (hi 90 6)] (rx_hp L t hi hl v) Q
          exact rx_aw_ret (pc := 51) rfl k
        · have k := k.2 c4
          show rx_aw 223 35 [.ref 90, .int a0, rx_no, rx_no] [] (rx_hp L t hi hl v) Q
          refine rx_aw_s 3 (pc := 35) rfl ?_
          refine rx_w_ifn (c := a0 = (1 : Int32)) ⟨fun c5 => ?_, fun c5 => ?_⟩
          · have k := k.1 c5
            show rx_aw 223 40 [.ref 90, .int a0, rx_no, rx_no] [] (rx_hp L t hi hl v) Q
            refine rx_aw_s 3 (pc := 40) rfl ?_
            show rx_aw 223 51 [.ref 90, .int a0, rx_no, rx_no] [.int (hi 90 21)] (rx_hp L t hi hl v) Q
            exact rx_aw_ret (pc := 51) rfl k
          · have k := k.2 c5
            show rx_aw 223 47 [.ref 90, .int a0, rx_no, rx_no] [] (rx_hp L t hi hl v) Q
            refine rx_aw_s 2 (pc := 47) rfl ?_
            show rx_aw 223 51 [.ref 90, .int a0, rx_no, rx_no] [.int (hi 90 5)] (rx_hp L t hi hl v) Q
            exact rx_aw_ret (pc := 51) rfl k
      · have k := k.2 c3
        show rx_aw 223 18 [.ref 90, .int a0, rx_no, rx_no] [] (rx_hp L t hi hl v) Q
        refine rx_aw_s 3 (pc := 18) rfl ?_
        refine rx_w_ifn (c := a0 = (8 : Int32)) ⟨fun c6 => ?_, fun c6 => ?_⟩
        · have k := k.1 c6
          show rx_aw 223 24 [.ref 90, .int a0, rx_no, rx_no] [] (rx_hp L t hi hl v) Q
          refine rx_aw_s 2 (pc := 24) rfl ?_
          refine rx_w_ifn (c := a0 = 0) ⟨fun c7 => ?_, fun c7 => ?_⟩
          · have k := k.1 c7
            show rx_aw 223 28 [.ref 90, .int a0, rx_no, rx_no] [] (rx_hp L t hi hl v) Q
            refine rx_aw_s 3 (pc := 28) rfl ?_
            show rx_aw 223 51 [.ref 90, .int a0, rx_no, rx_no] [.int (hi 90 6)] (rx_hp L t hi hl v) Q
            exact rx_aw_ret (pc := 51) rfl k
          · have k := k.2 c7
            show rx_aw 223 35 [.ref 90, .int a0, rx_no, rx_no] [] (rx_hp L t hi hl v) Q
            refine rx_aw_s 3 (pc := 35) rfl ?_
            refine rx_w_ifn (c := a0 = (1 : Int32)) ⟨fun c8 => ?_, fun c8 => ?_⟩
            · have k := k.1 c8
              show rx_aw 223 40 [.ref 90, .int a0, rx_no, rx_no] [] (rx_hp L t hi hl v) Q
              refine rx_aw_s 3 (pc := 40) rfl ?_
              show rx_aw 223 51 [.ref 90, .int a0, rx_no, rx_no] [.int (hi 90 21)] (rx_hp L t hi hl v) Q
              exact rx_aw_ret (pc := 51) rfl k
            · have k := k.2 c8
              show rx_aw 223 47 [.ref 90, .int a0, rx_no, rx_no] [] (rx_hp L t hi hl v) Q
              refine rx_aw_s 2 (pc := 47) rfl ?_
              show rx_aw 223 51 [.ref 90, .int a0, rx_no, rx_no] [.int (hi 90 5)] (rx_hp L t hi hl v) Q
              exact rx_aw_ret (pc := 51) rfl k
        · have k := k.2 c6
          show rx_aw 223 52 [.ref 90, .int a0, rx_no, rx_no] [] (rx_hp L t hi hl v) Q
          refine rx_aw_s 4 (pc := 52) rfl ?_
          show rx_aw 223 56 [.ref 90, .int a0, .int (0 : Int32), .int (0 : Int32)] [] (rx_hp L t hi hl v) Q
          exact k
    · have k := k.2 c2
      show rx_aw 223 10 [.ref 90, .int a0, rx_no, rx_no] [] (rx_hp L t hi hl v) Q
      refine rx_aw_s 1 (pc := 10) rfl ?_
      show rx_aw 223 12 [.ref 90, .int a0, rx_no, rx_no] [.int (-2 : Int32)] (rx_hp L t hi hl v) Q
      exact rx_aw_ret (pc := 12) rfl k
set_option maxRecDepth 100000 in
theorem w223_count_r_56 {L : Nat} {t : List (Nat × Nat)} {hi : Nat → Nat → Int32} {hl : Nat → Nat → Int64} {v : Nat → Nat → Option Nat} {Q : Option Value → rx_H → Prop} {x1 : Int32} {x2 : Int32} {x3 : Int32} (k : (((hi 90 6) ≤ x3 → Q (some (.int x2)) (rx_hp L t hi hl v)) ∧ (¬ ((hi 90 6) ≤ x3) → ((x1 = (2 : Int32) → (∃ j11 : Nat, x3 = nI j11 ∧ j11 < 6 ∧ (((hi 96 j11) = 0 → ((x1 = (3 : Int32) → rx_me 162 [.ref 90, .int x3] (rx_hp L t hi hl v) (fun r h2 => ∃ z14 : Int32, r = some (.int z14) ∧ rx_ok2 L t h2 (fun hi14 hl14 v14 => ((z14 = 0 → ((x1 = (4 : Int32) → (∃ j17 : Nat, x3 = nI j17 ∧ j17 < 6 ∧ (((hi14 100 j17) = (1 : Int32) → ((x1 = (6 : Int32) → (∃ j20 : Nat, x3 = nI j20 ∧ j20 < 6 ∧ ((x1 = (7 : Int32) → (∃ j22 : Nat, x3 = nI j22 ∧ j22 < 6 ∧ (((hi14 94 j22) ≤ ((x2 + (1 : Int32)) + (hi14 94 j20)) → rx_aw 223 56 [.ref 90, .int x1, .int ((x2 + (1 : Int32)) + (hi14 94 j20)), .int (x3 + (1 : Int32))] [] (rx_hp L t hi14 hl14 v14) Q) ∧ (¬ ((hi14 94 j22) ≤ ((x2 + (1 : Int32)) + (hi14 94 j20))) → (∃ j24 : Nat, x3 = nI j24 ∧ j24 < 6 ∧ rx_aw 223 56 [.ref 90, .int x1, .int (hi14 94 j24), .int (x3 + (1 : Int32))] [] (rx_hp L t hi14 hl14 v14) Q))))) ∧ (¬ (x1 = (7 : Int32)) → rx_aw 223 56 [.ref 90, .int x1, .int ((x2 + (1 : Int32)) + (hi14 94 j20)), .int (x3 + (1 : Int32))] [] (rx_hp L t hi14 hl14 v14) Q)))) ∧ (¬ (x1 = (6 : Int32)) → ((x1 = (7 : Int32) → (∃ j26 : Nat, x3 = nI j26 ∧ j26 < 6 ∧ (((hi14 94 j26) ≤ ((x2 + (1 : Int32)) + (0 : Int32)) → rx_aw 223 56 [.ref 90, .int x1, .int ((x2 + (1 : Int32)) + (0 : Int32)), .int (x3 + (1 : Int32))] [] (rx_hp L t hi14 hl14 v14) Q) ∧ (¬ ((hi14 94 j26) ≤ ((x2 + (1 : Int32)) + (0 : Int32))) → (∃ j28 : Nat, x3 = nI j28 ∧ j28 < 6 ∧ rx_aw 223 56 [.ref 90, .int x1, .int (hi14 94 j28), .int (x3 + (1 : Int32))] [] (rx_hp L t hi14 hl14 v14) Q))))) ∧ (¬ (x1 = (7 : Int32)) → rx_aw 223 56 [.ref 90, .int x1, .int ((x2 + (1 : Int32)) + (0 : Int32)), .int (x3 + (1 : Int32))] [] (rx_hp L t hi14 hl14 v14) Q))))) ∧ (¬ ((hi14 100 j17) = (1 : Int32)) → ((x1 = (5 : Int32) → (∃ j30 : Nat, x3 = nI j30 ∧ j30 < 6 ∧ (((hi14 100 j30) = (2 : Int32) → ((x1 = (6 : Int32) → (∃ j33 : Nat, x3 = nI j33 ∧ j33 < 6 ∧ ((x1 = (7 : Int32) → (∃ j35 : Nat, x3 = nI j35 ∧ j35 < 6 ∧ (((hi14 94 j35) ≤ ((x2 + (1 : Int32)) + (hi14 94 j33)) → rx_aw 223 56 [.ref 90, .int x1, .int ((x2 + (1 : Int32)) + (hi14 94 j33)), .int (x3 + (1 : Int32))] [] (rx_hp L t hi14 hl14 v14) Q) ∧ (¬ ((hi14 94 j35) ≤ ((x2 + (1 : Int32)) + (hi14 94 j33))) → (∃ j37 : Nat, x3 = nI j37 ∧ j37 < 6 ∧ rx_aw 223 56 [.ref 90, .int x1, .int (hi14 94 j37), .int (x3 + (1 : Int32))] [] (rx_hp L t hi14 hl14 v14) Q))))) ∧ (¬ (x1 = (7 : Int32)) → rx_aw 223 56 [.ref 90, .int x1, .int ((x2 + (1 : Int32)) + (hi14 94 j33)), .int (x3 + (1 : Int32))] [] (rx_hp L t hi14 hl14 v14) Q)))) ∧ (¬ (x1 = (6 : Int32)) → ((x1 = (7 : Int32) → (∃ j39 : Nat, x3 = nI j39 ∧ j39 < 6 ∧ (((hi14 94 j39) ≤ ((x2 + (1 : Int32)) + (0 : Int32)) → rx_aw 223 56 [.ref 90, .int x1, .int ((x2 + (1 : Int32)) + (0 : Int32)), .int (x3 + (1 : Int32))] [] (rx_hp L t hi14 hl14 v14) Q) ∧ (¬ ((hi14 94 j39) ≤ ((x2 + (1 : Int32)) + (0 : Int32))) → (∃ j41 : Nat, x3 = nI j41 ∧ j41 < 6 ∧ rx_aw 223 56 [.ref 90, .int x1, .int (hi14 94 j41), .int (x3 + (1 : Int32))] [] (rx_hp L t hi14 hl14 v14) Q))))) ∧ (¬ (x1 = (7 : Int32)) → rx_aw 223 56 [.ref 90, .int x1, .int ((x2 + (1 : Int32)) + (0 : Int32)), .int (x3 + (1 : Int32))] [] (rx_hp L t hi14 hl14 v14) Q))))) ∧ (¬ ((hi14 100 j30) = (2 : Int32)) → ((x1 = (6 : Int32) → (∃ j43 : Nat, x3 = nI j43 ∧ j43 < 6 ∧ ((x1 = (7 : Int32) → (∃ j45 : Nat, x3 = nI j45 ∧ j45 < 6 ∧ (((hi14 94 j45) ≤ ((x2 + (0 : Int32)) + (hi14 94 j43)) → rx_aw 223 56 [.ref 90, .int x1, .int ((x2 + (0 : Int32)) + (hi14 94 j43)), .int (x3 + (1 : Int32))] [] (rx_hp L t hi14 hl14 v14) Q) ∧ (¬ ((hi14 94 j45) ≤ ((x2 + (0 : Int32)) + (hi14 94 j43))) → (∃ j47 : Nat, x3 = nI j47 ∧ j47 < 6 ∧ rx_aw 223 56 [.ref 90, .int x1, .int (hi14 94 j47), .int (x3 + (1 : Int32))] [] (rx_hp L t hi14 hl14 v14) Q))))) ∧ (¬ (x1 = (7 : Int32)) → rx_aw 223 56 [.ref 90, .int x1, .int ((x2 + (0 : Int32)) + (hi14 94 j43)), .int (x3 + (1 : Int32))] [] (rx_hp L t hi14 hl14 v14) Q)))) ∧ (¬ (x1 = (6 : Int32)) → ((x1 = (7 : Int32) → (∃ j49 : Nat, x3 = nI j49 ∧ j49 < 6 ∧ (((hi14 94 j49) ≤ ((x2 + (0 : Int32)) + (0 : Int32)) → rx_aw 223 56 [.ref 90, .int x1, .int ((x2 + (0 : Int32)) + (0 : Int32)), .int (x3 + (1 : Int32))] [] (rx_hp L t hi14 hl14 v14) Q) ∧ (¬ ((hi14 94 j49) ≤ ((x2 + (0 : Int32)) + (0 : Int32))) → (∃ j51 : Nat, x3 = nI j51 ∧ j51 < 6 ∧ rx_aw 223 56 [.ref 90, .int x1, .int (hi14 94 j51), .int (x3 + (1 : Int32))] [] (rx_hp L t hi14 hl14 v14) Q))))) ∧ (¬ (x1 = (7 : Int32)) → rx_aw 223 56 [.ref 90, .int x1, .int ((x2 + (0 : Int32)) + (0 : Int32)), .int (x3 + (1 : Int32))] [] (rx_hp L t hi14 hl14 v14) Q)))))))) ∧ (¬ (x1 = (5 : Int32)) → ((x1 = (6 : Int32) → (∃ j53 : Nat, x3 = nI j53 ∧ j53 < 6 ∧ ((x1 = (7 : Int32) → (∃ j55 : Nat, x3 = nI j55 ∧ j55 < 6 ∧ (((hi14 94 j55) ≤ ((x2 + (0 : Int32)) + (hi14 94 j53)) → rx_aw 223 56 [.ref 90, .int x1, .int ((x2 + (0 : Int32)) + (hi14 94 j53)), .int (x3 + (1 : Int32))] [] (rx_hp L t hi14 hl14 v14) Q) ∧ (¬ ((hi14 94 j55) ≤ ((x2 + (0 : Int32)) + (hi14 94 j53))) → (∃ j57 : Nat, x3 = nI j57 ∧ j57 < 6 ∧ rx_aw 223 56 [.ref 90, .int x1, .int (hi14 94 j57), .int (x3 + (1 : Int32))] [] (rx_hp L t hi14 hl14 v14) Q))))) ∧ (¬ (x1 = (7 : Int32)) → rx_aw 223 56 [.ref 90, .int x1, .int ((x2 + (0 : Int32)) + (hi14 94 j53)), .int (x3 + (1 : Int32))] [] (rx_hp L t hi14 hl14 v14) Q)))) ∧ (¬ (x1 = (6 : Int32)) → ((x1 = (7 : Int32) → (∃ j59 : Nat, x3 = nI j59 ∧ j59 < 6 ∧ (((hi14 94 j59) ≤ ((x2 + (0 : Int32)) + (0 : Int32)) → rx_aw 223 56 [.ref 90, .int x1, .int ((x2 + (0 : Int32)) + (0 : Int32)), .int (x3 + (1 : Int32))] [] (rx_hp L t hi14 hl14 v14) Q) ∧ (¬ ((hi14 94 j59) ≤ ((x2 + (0 : Int32)) + (0 : Int32))) → (∃ j61 : Nat, x3 = nI j61 ∧ j61 < 6 ∧ rx_aw 223 56 [.ref 90, .int x1, .int (hi14 94 j61), .int (x3 + (1 : Int32))] [] (rx_hp L t hi14 hl14 v14) Q))))) ∧ (¬ (x1 = (7 : Int32)) → rx_aw 223 56 [.ref 90, .int x1, .int ((x2 + (0 : Int32)) + (0 : Int32)), .int (x3 + (1 : Int32))] [] (rx_hp L t hi14 hl14 v14) Q)))))))))) ∧ (¬ (x1 = (4 : Int32)) → ((x1 = (5 : Int32) → (∃ j63 : Nat, x3 = nI j63 ∧ j63 < 6 ∧ (((hi14 100 j63) = (2 : Int32) → ((x1 = (6 : Int32) → (∃ j66 : Nat, x3 = nI j66 ∧ j66 < 6 ∧ ((x1 = (7 : Int32) → (∃ j68 : Nat, x3 = nI j68 ∧ j68 < 6 ∧ (((hi14 94 j68) ≤ ((x2 + (1 : Int32)) + (hi14 94 j66)) → rx_aw 223 56 [.ref 90, .int x1, .int ((x2 + (1 : Int32)) + (hi14 94 j66)), .int (x3 + (1 : Int32))] [] (rx_hp L t hi14 hl14 v14) Q) ∧ (¬ ((hi14 94 j68) ≤ ((x2 + (1 : Int32)) + (hi14 94 j66))) → (∃ j70 : Nat, x3 = nI j70 ∧ j70 < 6 ∧ rx_aw 223 56 [.ref 90, .int x1, .int (hi14 94 j70), .int (x3 + (1 : Int32))] [] (rx_hp L t hi14 hl14 v14) Q))))) ∧ (¬ (x1 = (7 : Int32)) → rx_aw 223 56 [.ref 90, .int x1, .int ((x2 + (1 : Int32)) + (hi14 94 j66)), .int (x3 + (1 : Int32))] [] (rx_hp L t hi14 hl14 v14) Q)))) ∧ (¬ (x1 = (6 : Int32)) → ((x1 = (7 : Int32) → (∃ j72 : Nat, x3 = nI j72 ∧ j72 < 6 ∧ (((hi14 94 j72) ≤ ((x2 + (1 : Int32)) + (0 : Int32)) → rx_aw 223 56 [.ref 90, .int x1, .int ((x2 + (1 : Int32)) + (0 : Int32)), .int (x3 + (1 : Int32))] [] (rx_hp L t hi14 hl14 v14) Q) ∧ (¬ ((hi14 94 j72) ≤ ((x2 + (1 : Int32)) + (0 : Int32))) → (∃ j74 : Nat, x3 = nI j74 ∧ j74 < 6 ∧ rx_aw 223 56 [.ref 90, .int x1, .int (hi14 94 j74), .int (x3 + (1 : Int32))] [] (rx_hp L t hi14 hl14 v14) Q))))) ∧ (¬ (x1 = (7 : Int32)) → rx_aw 223 56 [.ref 90, .int x1, .int ((x2 + (1 : Int32)) + (0 : Int32)), .int (x3 + (1 : Int32))] [] (rx_hp L t hi14 hl14 v14) Q))))) ∧ (¬ ((hi14 100 j63) = (2 : Int32)) → ((x1 = (6 : Int32) → (∃ j76 : Nat, x3 = nI j76 ∧ j76 < 6 ∧ ((x1 = (7 : Int32) → (∃ j78 : Nat, x3 = nI j78 ∧ j78 < 6 ∧ (((hi14 94 j78) ≤ ((x2 + (0 : Int32)) + (hi14 94 j76)) → rx_aw 223 56 [.ref 90, .int x1, .int ((x2 + (0 : Int32)) + (hi14 94 j76)), .int (x3 + (1 : Int32))] [] (rx_hp L t hi14 hl14 v14) Q) ∧ (¬ ((hi14 94 j78) ≤ ((x2 + (0 : Int32)) + (hi14 94 j76))) → (∃ j80 : Nat, x3 = nI j80 ∧ j80 < 6 ∧ rx_aw 223 56 [.ref 90, .int x1, .int (hi14 94 j80), .int (x3 + (1 : Int32))] [] (rx_hp L t hi14 hl14 v14) Q))))) ∧ (¬ (x1 = (7 : Int32)) → rx_aw 223 56 [.ref 90, .int x1, .int ((x2 + (0 : Int32)) + (hi14 94 j76)), .int (x3 + (1 : Int32))] [] (rx_hp L t hi14 hl14 v14) Q)))) ∧ (¬ (x1 = (6 : Int32)) → ((x1 = (7 : Int32) → (∃ j82 : Nat, x3 = nI j82 ∧ j82 < 6 ∧ (((hi14 94 j82) ≤ ((x2 + (0 : Int32)) + (0 : Int32)) → rx_aw 223 56 [.ref 90, .int x1, .int ((x2 + (0 : Int32)) + (0 : Int32)), .int (x3 + (1 : Int32))] [] (rx_hp L t hi14 hl14 v14) Q) ∧ (¬ ((hi14 94 j82) ≤ ((x2 + (0 : Int32)) + (0 : Int32))) → (∃ j84 : Nat, x3 = nI j84 ∧ j84 < 6 ∧ rx_aw 223 56 [.ref 90, .int x1, .int (hi14 94 j84), .int (x3 + (1 : Int32))] [] (rx_hp L t hi14 hl14 v14) Q))))) ∧ (¬ (x1 = (7 : Int32)) → rx_aw 223 56 [.ref 90, .int x1, .int ((x2 + (0 : Int32)) + (0 : Int32)), .int (x3 + (1 : Int32))] [] (rx_hp L t hi14 hl14 v14) Q)))))))) ∧ (¬ (x1 = (5 : Int32)) → ((x1 = (6 : Int32) → (∃ j86 : Nat, x3 = nI j86 ∧ j86 < 6 ∧ ((x1 = (7 : Int32) → (∃ j88 : Nat, x3 = nI j88 ∧ j88 < 6 ∧ (((hi14 94 j88) ≤ ((x2 + (0 : Int32)) + (hi14 94 j86)) → rx_aw 223 56 [.ref 90, .int x1, .int ((x2 + (0 : Int32)) + (hi14 94 j86)), .int (x3 + (1 : Int32))] [] (rx_hp L t hi14 hl14 v14) Q) ∧ (¬ ((hi14 94 j88) ≤ ((x2 + (0 : Int32)) + (hi14 94 j86))) → (∃ j90 : Nat, x3 = nI j90 ∧ j90 < 6 ∧ rx_aw 223 56 [.ref 90, .int x1, .int (hi14 94 j90), .int (x3 + (1 : Int32))] [] (rx_hp L t hi14 hl14 v14) Q))))) ∧ (¬ (x1 = (7 : Int32)) → rx_aw 223 56 [.ref 90, .int x1, .int ((x2 + (0 : Int32)) + (hi14 94 j86)), .int (x3 + (1 : Int32))] [] (rx_hp L t hi14 hl14 v14) Q)))) ∧ (¬ (x1 = (6 : Int32)) → ((x1 = (7 : Int32) → (∃ j92 : Nat, x3 = nI j92 ∧ j92 < 6 ∧ (((hi14 94 j92) ≤ ((x2 + (0 : Int32)) + (0 : Int32)) → rx_aw 223 56 [.ref 90, .int x1, .int ((x2 + (0 : Int32)) + (0 : Int32)), .int (x3 + (1 : Int32))] [] (rx_hp L t hi14 hl14 v14) Q) ∧ (¬ ((hi14 94 j92) ≤ ((x2 + (0 : Int32)) + (0 : Int32))) → (∃ j94 : Nat, x3 = nI j94 ∧ j94 < 6 ∧ rx_aw 223 56 [.ref 90, .int x1, .int (hi14 94 j94), .int (x3 + (1 : Int32))] [] (rx_hp L t hi14 hl14 v14) Q))))) ∧ (¬ (x1 = (7 : Int32)) → rx_aw 223 56 [.ref 90, .int x1, .int ((x2 + (0 : Int32)) + (0 : Int32)), .int (x3 + (1 : Int32))] [] (rx_hp L t hi14 hl14 v14) Q))))))))) ∧ (¬ (z14 = 0) → ((x1 = (6 : Int32) → (∃ j96 : Nat, x3 = nI j96 ∧ j96 < 6 ∧ ((x1 = (7 : Int32) → (∃ j98 : Nat, x3 = nI j98 ∧ j98 < 6 ∧ (((hi14 94 j98) ≤ ((x2 + (1 : Int32)) + (hi14 94 j96)) → rx_aw 223 56 [.ref 90, .int x1, .int ((x2 + (1 : Int32)) + (hi14 94 j96)), .int (x3 + (1 : Int32))] [] (rx_hp L t hi14 hl14 v14) Q) ∧ (¬ ((hi14 94 j98) ≤ ((x2 + (1 : Int32)) + (hi14 94 j96))) → (∃ j100 : Nat, x3 = nI j100 ∧ j100 < 6 ∧ rx_aw 223 56 [.ref 90, .int x1, .int (hi14 94 j100), .int (x3 + (1 : Int32))] [] (rx_hp L t hi14 hl14 v14) Q))))) ∧ (¬ (x1 = (7 : Int32)) → rx_aw 223 56 [.ref 90, .int x1, .int ((x2 + (1 : Int32)) + (hi14 94 j96)), .int (x3 + (1 : Int32))] [] (rx_hp L t hi14 hl14 v14) Q)))) ∧ (¬ (x1 = (6 : Int32)) → ((x1 = (7 : Int32) → (∃ j102 : Nat, x3 = nI j102 ∧ j102 < 6 ∧ (((hi14 94 j102) ≤ ((x2 + (1 : Int32)) + (0 : Int32)) → rx_aw 223 56 [.ref 90, .int x1, .int ((x2 + (1 : Int32)) + (0 : Int32)), .int (x3 + (1 : Int32))] [] (rx_hp L t hi14 hl14 v14) Q) ∧ (¬ ((hi14 94 j102) ≤ ((x2 + (1 : Int32)) + (0 : Int32))) → (∃ j104 : Nat, x3 = nI j104 ∧ j104 < 6 ∧ rx_aw 223 56 [.ref 90, .int x1, .int (hi14 94 j104), .int (x3 + (1 : Int32))] [] (rx_hp L t hi14 hl14 v14) Q))))) ∧ (¬ (x1 = (7 : Int32)) → rx_aw 223 56 [.ref 90, .int x1, .int ((x2 + (1 : Int32)) + (0 : Int32)), .int (x3 + (1 : Int32))] [] (rx_hp L t hi14 hl14 v14) Q))))))))) ∧ (¬ (x1 = (3 : Int32)) → ((x1 = (4 : Int32) → (∃ j106 : Nat, x3 = nI j106 ∧ j106 < 6 ∧ (((hi 100 j106) = (1 : Int32) → ((x1 = (6 : Int32) → (∃ j109 : Nat, x3 = nI j109 ∧ j109 < 6 ∧ ((x1 = (7 : Int32) → (∃ j111 : Nat, x3 = nI j111 ∧ j111 < 6 ∧ (((hi 94 j111) ≤ ((x2 + (1 : Int32)) + (hi 94 j109)) → rx_aw 223 56 [.ref 90, .int x1, .int ((x2 + (1 : Int32)) + (hi 94 j109)), .int (x3 + (1 : Int32))] [] (rx_hp L t hi hl v) Q) ∧ (¬ ((hi 94 j111) ≤ ((x2 + (1 : Int32)) + (hi 94 j109))) → (∃ j113 : Nat, x3 = nI j113 ∧ j113 < 6 ∧ rx_aw 223 56 [.ref 90, .int x1, .int (hi 94 j113), .int (x3 + (1 : Int32))] [] (rx_hp L t hi hl v) Q))))) ∧ (¬ (x1 = (7 : Int32)) → rx_aw 223 56 [.ref 90, .int x1, .int ((x2 + (1 : Int32)) + (hi 94 j109)), .int (x3 + (1 : Int32))] [] (rx_hp L t hi hl v) Q)))) ∧ (¬ (x1 = (6 : Int32)) → ((x1 = (7 : Int32) → (∃ j115 : Nat, x3 = nI j115 ∧ j115 < 6 ∧ (((hi 94 j115) ≤ ((x2 + (1 : Int32)) + (0 : Int32)) → rx_aw 223 56 [.ref 90, .int x1, .int ((x2 + (1 : Int32)) + (0 : Int32)), .int (x3 + (1 : Int32))] [] (rx_hp L t hi hl v) Q) ∧ (¬ ((hi 94 j115) ≤ ((x2 + (1 : Int32)) + (0 : Int32))) → (∃ j117 : Nat, x3 = nI j117 ∧ j117 < 6 ∧ rx_aw 223 56 [.ref 90, .int x1, .int (hi 94 j117), .int (x3 + (1 : Int32))] [] (rx_hp L t hi hl v) Q))))) ∧ (¬ (x1 = (7 : Int32)) → rx_aw 223 56 [.ref 90, .int x1, .int ((x2 + (1 : Int32)) + (0 : Int32)), .int (x3 + (1 : Int32))] [] (rx_hp L t hi hl v) Q))))) ∧ (¬ ((hi 100 j106) = (1 : Int32)) → ((x1 = (5 : Int32) → (∃ j119 : Nat, x3 = nI j119 ∧ j119 < 6 ∧ (((hi 100 j119) = (2 : Int32) → ((x1 = (6 : Int32) → (∃ j122 : Nat, x3 = nI j122 ∧ j122 < 6 ∧ ((x1 = (7 : Int32) → (∃ j124 : Nat, x3 = nI j124 ∧ j124 < 6 ∧ (((hi 94 j124) ≤ ((x2 + (1 : Int32)) + (hi 94 j122)) → rx_aw 223 56 [.ref 90, .int x1, .int ((x2 + (1 : Int32)) + (hi 94 j122)), .int (x3 + (1 : Int32))] [] (rx_hp L t hi hl v) Q) ∧ (¬ ((hi 94 j124) ≤ ((x2 + (1 : Int32)) + (hi 94 j122))) → (∃ j126 : Nat, x3 = nI j126 ∧ j126 < 6 ∧ rx_aw 223 56 [.ref 90, .int x1, .int (hi 94 j126), .int (x3 + (1 : Int32))] [] (rx_hp L t hi hl v) Q))))) ∧ (¬ (x1 = (7 : Int32)) → rx_aw 223 56 [.ref 90, .int x1, .int ((x2 + (1 : Int32)) + (hi 94 j122)), .int (x3 + (1 : Int32))] [] (rx_hp L t hi hl v) Q)))) ∧ (¬ (x1 = (6 : Int32)) → ((x1 = (7 : Int32) → (∃ j128 : Nat, x3 = nI j128 ∧ j128 < 6 ∧ (((hi 94 j128) ≤ ((x2 + (1 : Int32)) + (0 : Int32)) → rx_aw 223 56 [.ref 90, .int x1, .int ((x2 + (1 : Int32)) + (0 : Int32)), .int (x3 + (1 : Int32))] [] (rx_hp L t hi hl v) Q) ∧ (¬ ((hi 94 j128) ≤ ((x2 + (1 : Int32)) + (0 : Int32))) → (∃ j130 : Nat, x3 = nI j130 ∧ j130 < 6 ∧ rx_aw 223 56 [.ref 90, .int x1, .int (hi 94 j130), .int (x3 + (1 : Int32))] [] (rx_hp L t hi hl v) Q))))) ∧ (¬ (x1 = (7 : Int32)) → rx_aw 223 56 [.ref 90, .int x1, .int ((x2 + (1 : Int32)) + (0 : Int32)), .int (x3 + (1 : Int32))] [] (rx_hp L t hi hl v) Q))))) ∧ (¬ ((hi 100 j119) = (2 : Int32)) → ((x1 = (6 : Int32) → (∃ j132 : Nat, x3 = nI j132 ∧ j132 < 6 ∧ ((x1 = (7 : Int32) → (∃ j134 : Nat, x3 = nI j134 ∧ j134 < 6 ∧ (((hi 94 j134) ≤ ((x2 + (0 : Int32)) + (hi 94 j132)) → rx_aw 223 56 [.ref 90, .int x1, .int ((x2 + (0 : Int32)) + (hi 94 j132)), .int (x3 + (1 : Int32))] [] (rx_hp L t hi hl v) Q) ∧ (¬ ((hi 94 j134) ≤ ((x2 + (0 : Int32)) + (hi 94 j132))) → (∃ j136 : Nat, x3 = nI j136 ∧ j136 < 6 ∧ rx_aw 223 56 [.ref 90, .int x1, .int (hi 94 j136), .int (x3 + (1 : Int32))] [] (rx_hp L t hi hl v) Q))))) ∧ (¬ (x1 = (7 : Int32)) → rx_aw 223 56 [.ref 90, .int x1, .int ((x2 + (0 : Int32)) + (hi 94 j132)), .int (x3 + (1 : Int32))] [] (rx_hp L t hi hl v) Q)))) ∧ (¬ (x1 = (6 : Int32)) → ((x1 = (7 : Int32) → (∃ j138 : Nat, x3 = nI j138 ∧ j138 < 6 ∧ (((hi 94 j138) ≤ ((x2 + (0 : Int32)) + (0 : Int32)) → rx_aw 223 56 [.ref 90, .int x1, .int ((x2 + (0 : Int32)) + (0 : Int32)), .int (x3 + (1 : Int32))] [] (rx_hp L t hi hl v) Q) ∧ (¬ ((hi 94 j138) ≤ ((x2 + (0 : Int32)) + (0 : Int32))) → (∃ j140 : Nat, x3 = nI j140 ∧ j140 < 6 ∧ rx_aw 223 56 [.ref 90, .int x1, .int (hi 94 j140), .int (x3 + (1 : Int32))] [] (rx_hp L t hi hl v) Q))))) ∧ (¬ (x1 = (7 : Int32)) → rx_aw 223 56 [.ref 90, .int x1, .int ((x2 + (0 : Int32)) + (0 : Int32)), .int (x3 + (1 : Int32))] [] (rx_hp L t hi hl v) Q)))))))) ∧ (¬ (x1 = (5 : Int32)) → ((x1 = (6 : Int32) → (∃ j142 : Nat, x3 = nI j142 ∧ j142 < 6 ∧ ((x1 = (7 : Int32) → (∃ j144 : Nat, x3 = nI j144 ∧ j144 < 6 ∧ (((hi 94 j144) ≤ ((x2 + (0 : Int32)) + (hi 94 j142)) → rx_aw 223 56 [.ref 90, .int x1, .int ((x2 + (0 : Int32)) + (hi 94 j142)), .int (x3 + (1 : Int32))] [] (rx_hp L t hi hl v) Q) ∧ (¬ ((hi 94 j144) ≤ ((x2 + (0 : Int32)) + (hi 94 j142))) → (∃ j146 : Nat, x3 = nI j146 ∧ j146 < 6 ∧ rx_aw 223 56 [.ref 90, .int x1, .int (hi 94 j146), .int (x3 + (1 : Int32))] [] (rx_hp L t hi hl v) Q))))) ∧ (¬ (x1 = (7 : Int32)) → rx_aw 223 56 [.ref 90, .int x1, .int ((x2 + (0 : Int32)) + (hi 94 j142)), .int (x3 + (1 : Int32))] [] (rx_hp L t hi hl v) Q)))) ∧ (¬ (x1 = (6 : Int32)) → ((x1 = (7 : Int32) → (∃ j148 : Nat, x3 = nI j148 ∧ j148 < 6 ∧ (((hi 94 j148) ≤ ((x2 + (0 : Int32)) + (0 : Int32)) → rx_aw 223 56 [.ref 90, .int x1, .int ((x2 + (0 : Int32)) + (0 : Int32)), .int (x3 + (1 : Int32))] [] (rx_hp L t hi hl v) Q) ∧ (¬ ((hi 94 j148) ≤ ((x2 + (0 : Int32)) + (0 : Int32))) → (∃ j150 : Nat, x3 = nI j150 ∧ j150 < 6 ∧ rx_aw 223 56 [.ref 90, .int x1, .int (hi 94 j150), .int (x3 + (1 : Int32))] [] (rx_hp L t hi hl v) Q))))) ∧ (¬ (x1 = (7 : Int32)) → rx_aw 223 56 [.ref 90, .int x1, .int ((x2 + (0 : Int32)) + (0 : Int32)), .int (x3 + (1 : Int32))] [] (rx_hp L t hi hl v) Q)))))))))) ∧ (¬ (x1 = (4 : Int32)) → ((x1 = (5 : Int32) → (∃ j152 : Nat, x3 = nI j152 ∧ j152 < 6 ∧ (((hi 100 j152) = (2 : Int32) → ((x1 = (6 : Int32) → (∃ j155 : Nat, x3 = nI j155 ∧ j155 < 6 ∧ ((x1 = (7 : Int32) → (∃ j157 : Nat, x3 = nI j157 ∧ j157 < 6 ∧ (((hi 94 j157) ≤ ((x2 + (1 : Int32)) + (hi 94 j155)) → rx_aw 223 56 [.ref 90, .int x1, .int ((x2 + (1 : Int32)) + (hi 94 j155)), .int (x3 + (1 : Int32))] [] (rx_hp L t hi hl v) Q) ∧ (¬ ((hi 94 j157) ≤ ((x2 + (1 : Int32)) + (hi 94 j155))) → (∃ j159 : Nat, x3 = nI j159 ∧ j159 < 6 ∧ rx_aw 223 56 [.ref 90, .int x1, .int (hi 94 j159), .int (x3 + (1 : Int32))] [] (rx_hp L t hi hl v) Q))))) ∧ (¬ (x1 = (7 : Int32)) → rx_aw 223 56 [.ref 90, .int x1, .int ((x2 + (1 : Int32)) + (hi 94 j155)), .int (x3 + (1 : Int32))] [] (rx_hp L t hi hl v) Q)))) ∧ (¬ (x1 = (6 : Int32)) → ((x1 = (7 : Int32) → (∃ j161 : Nat, x3 = nI j161 ∧ j161 < 6 ∧ (((hi 94 j161) ≤ ((x2 + (1 : Int32)) + (0 : Int32)) → rx_aw 223 56 [.ref 90, .int x1, .int ((x2 + (1 : Int32)) + (0 : Int32)), .int (x3 + (1 : Int32))] [] (rx_hp L t hi hl v) Q) ∧ (¬ ((hi 94 j161) ≤ ((x2 + (1 : Int32)) + (0 : Int32))) → (∃ j163 : Nat, x3 = nI j163 ∧ j163 < 6 ∧ rx_aw 223 56 [.ref 90, .int x1, .int (hi 94 j163), .int (x3 + (1 : Int32))] [] (rx_hp L t hi hl v) Q))))) ∧ (¬ (x1 = (7 : Int32)) → rx_aw 223 56 [.ref 90, .int x1, .int ((x2 + (1 : Int32)) + (0 : Int32)), .int (x3 + (1 : Int32))] [] (rx_hp L t hi hl v) Q))))) ∧ (¬ ((hi 100 j152) = (2 : Int32)) → ((x1 = (6 : Int32) → (∃ j165 : Nat, x3 = nI j165 ∧ j165 < 6 ∧ ((x1 = (7 : Int32) → (∃ j167 : Nat, x3 = nI j167 ∧ j167 < 6 ∧ (((hi 94 j167) ≤ ((x2 + (0 : Int32)) + (hi 94 j165)) → rx_aw 223 56 [.ref 90, .int x1, .int ((x2 + (0 : Int32)) + (hi 94 j165)), .int (x3 + (1 : Int32))] [] (rx_hp L t hi hl v) Q) ∧ (¬ ((hi 94 j167) ≤ ((x2 + (0 : Int32)) + (hi 94 j165))) → (∃ j169 : Nat, x3 = nI j169 ∧ j169 < 6 ∧ rx_aw 223 56 [.ref 90, .int x1, .int (hi 94 j169), .int (x3 + (1 : Int32))] [] (rx_hp L t hi hl v) Q))))) ∧ (¬ (x1 = (7 : Int32)) → rx_aw 223 56 [.ref 90, .int x1, .int ((x2 + (0 : Int32)) + (hi 94 j165)), .int (x3 + (1 : Int32))] [] (rx_hp L t hi hl v) Q)))) ∧ (¬ (x1 = (6 : Int32)) → ((x1 = (7 : Int32) → (∃ j171 : Nat, x3 = nI j171 ∧ j171 < 6 ∧ (((hi 94 j171) ≤ ((x2 + (0 : Int32)) + (0 : Int32)) → rx_aw 223 56 [.ref 90, .int x1, .int ((x2 + (0 : Int32)) + (0 : Int32)), .int (x3 + (1 : Int32))] [] (rx_hp L t hi hl v) Q) ∧ (¬ ((hi 94 j171) ≤ ((x2 + (0 : Int32)) + (0 : Int32))) → (∃ j173 : Nat, x3 = nI j173 ∧ j173 < 6 ∧ rx_aw 223 56 [.ref 90, .int x1, .int (hi 94 j173), .int (x3 + (1 : Int32))] [] (rx_hp L t hi hl v) Q))))) ∧ (¬ (x1 = (7 : Int32)) → rx_aw 223 56 [.ref 90, .int x1, .int ((x2 + (0 : Int32)) + (0 : Int32)), .int (x3 + (1 : Int32))] [] (rx_hp L t hi hl v) Q)))))))) ∧ (¬ (x1 = (5 : Int32)) → ((x1 = (6 : Int32) → (∃ j175 : Nat, x3 = nI j175 ∧ j175 < 6 ∧ ((x1 = (7 : Int32) → (∃ j177 : Nat, x3 = nI j177 ∧ j177 < 6 ∧ (((hi 94 j177) ≤ ((x2 + (0 : Int32)) + (hi 94 j175)) → rx_aw 223 56 [.ref 90, .int x1, .int ((x2 + (0 : Int32)) + (hi 94 j175)), .int (x3 + (1 : Int32))] [] (rx_hp L t hi hl v) Q) ∧ (¬ ((hi 94 j177) ≤ ((x2 + (0 : Int32)) + (hi 94 j175))) → (∃ j179 : Nat, x3 = nI j179 ∧ j179 < 6 ∧ rx_aw 223 56 [.ref 90, .int x1, .int (hi 94 j179), .int (x3 + (1 : Int32))] [] (rx_hp L t hi hl v) Q))))) ∧ (¬ (x1 = (7 : Int32)) → rx_aw 223 56 [.ref 90, .int x1, .int ((x2 + (0 : Int32)) + (hi 94 j175)), .int (x3 + (1 : Int32))] [] (rx_hp L t hi hl v) Q)))) ∧ (¬ (x1 = (6 : Int32)) → ((x1 = (7 : Int32) → (∃ j181 : Nat, x3 = nI j181 ∧ j181 < 6 ∧ (((hi 94 j181) ≤ ((x2 + (0 : Int32)) + (0 : Int32)) → rx_aw 223 56 [.ref 90, .int x1, .int ((x2 + (0 : Int32)) + (0 : Int32)), .int (x3 + (1 : Int32))] [] (rx_hp L t hi hl v) Q) ∧ (¬ ((hi 94 j181) ≤ ((x2 + (0 : Int32)) + (0 : Int32))) → (∃ j183 : Nat, x3 = nI j183 ∧ j183 < 6 ∧ rx_aw 223 56 [.ref 90, .int x1, .int (hi 94 j183), .int (x3 + (1 : Int32))] [] (rx_hp L t hi hl v) Q))))) ∧ (¬ (x1 = (7 : Int32)) → rx_aw 223 56 [.ref 90, .int x1, .int ((x2 + (0 : Int32)) + (0 : Int32)), .int (x3 + (1 : Int32))] [] (rx_hp L t hi hl v) Q))))))))))) ∧ (¬ ((hi 96 j11) = 0) → ((x1 = (6 : Int32) → (∃ j185 : Nat, x3 = nI j185 ∧ j185 < 6 ∧ ((x1 = (7 : Int32) → (∃ j187 : Nat, x3 = nI j187 ∧ j187 < 6 ∧ (((hi 94 j187) ≤ ((x2 + (1 : Int32)) + (hi 94 j185)) → rx_aw 223 56 [.ref 90, .int x1, .int ((x2 + (1 : Int32)) + (hi 94 j185)), .int (x3 + (1 : Int32))] [] (rx_hp L t hi hl v) Q) ∧ (¬ ((hi 94 j187) ≤ ((x2 + (1 : Int32)) + (hi 94 j185))) → (∃ j189 : Nat, x3 = nI j189 ∧ j189 < 6 ∧ rx_aw 223 56 [.ref 90, .int x1, .int (hi 94 j189), .int (x3 + (1 : Int32))] [] (rx_hp L t hi hl v) Q))))) ∧ (¬ (x1 = (7 : Int32)) → rx_aw 223 56 [.ref 90, .int x1, .int ((x2 + (1 : Int32)) + (hi 94 j185)), .int (x3 + (1 : Int32))] [] (rx_hp L t hi hl v) Q)))) ∧ (¬ (x1 = (6 : Int32)) → ((x1 = (7 : Int32) → (∃ j191 : Nat, x3 = nI j191 ∧ j191 < 6 ∧ (((hi 94 j191) ≤ ((x2 + (1 : Int32)) + (0 : Int32)) → rx_aw 223 56 [.ref 90, .int x1, .int ((x2 + (1 : Int32)) + (0 : Int32)), .int (x3 + (1 : Int32))] [] (rx_hp L t hi hl v) Q) ∧ (¬ ((hi 94 j191) ≤ ((x2 + (1 : Int32)) + (0 : Int32))) → (∃ j193 : Nat, x3 = nI j193 ∧ j193 < 6 ∧ rx_aw 223 56 [.ref 90, .int x1, .int (hi 94 j193), .int (x3 + (1 : Int32))] [] (rx_hp L t hi hl v) Q))))) ∧ (¬ (x1 = (7 : Int32)) → rx_aw 223 56 [.ref 90, .int x1, .int ((x2 + (1 : Int32)) + (0 : Int32)), .int (x3 + (1 : Int32))] [] (rx_hp L t hi hl v) Q)))))))) ∧ (¬ (x1 = (2 : Int32)) → ((x1 = (3 : Int32) → rx_me 162 [.ref 90, .int x3] (rx_hp L t hi hl v) (fun r h2 => ∃ z195 : Int32, r = some (.int z195) ∧ rx_ok2 L t h2 (fun hi195 hl195 v195 => ((z195 = 0 → ((x1 = (4 : Int32) → (∃ j198 : Nat, x3 = nI j198 ∧ j198 < 6 ∧ (((hi195 100 j198) = (1 : Int32) → ((x1 = (6 : Int32) → (∃ j201 : Nat, x3 = nI j201 ∧ j201 < 6 ∧ ((x1 = (7 : Int32) → (∃ j203 : Nat, x3 = nI j203 ∧ j203 < 6 ∧ (((hi195 94 j203) ≤ ((x2 + (1 : Int32)) + (hi195 94 j201)) → rx_aw 223 56 [.ref 90, .int x1, .int ((x2 + (1 : Int32)) + (hi195 94 j201)), .int (x3 + (1 : Int32))] [] (rx_hp L t hi195 hl195 v195) Q) ∧ (¬ ((hi195 94 j203) ≤ ((x2 + (1 : Int32)) + (hi195 94 j201))) → (∃ j205 : Nat, x3 = nI j205 ∧ j205 < 6 ∧ rx_aw 223 56 [.ref 90, .int x1, .int (hi195 94 j205), .int (x3 + (1 : Int32))] [] (rx_hp L t hi195 hl195 v195) Q))))) ∧ (¬ (x1 = (7 : Int32)) → rx_aw 223 56 [.ref 90, .int x1, .int ((x2 + (1 : Int32)) + (hi195 94 j201)), .int (x3 + (1 : Int32))] [] (rx_hp L t hi195 hl195 v195) Q)))) ∧ (¬ (x1 = (6 : Int32)) → ((x1 = (7 : Int32) → (∃ j207 : Nat, x3 = nI j207 ∧ j207 < 6 ∧ (((hi195 94 j207) ≤ ((x2 + (1 : Int32)) + (0 : Int32)) → rx_aw 223 56 [.ref 90, .int x1, .int ((x2 + (1 : Int32)) + (0 : Int32)), .int (x3 + (1 : Int32))] [] (rx_hp L t hi195 hl195 v195) Q) ∧ (¬ ((hi195 94 j207) ≤ ((x2 + (1 : Int32)) + (0 : Int32))) → (∃ j209 : Nat, x3 = nI j209 ∧ j209 < 6 ∧ rx_aw 223 56 [.ref 90, .int x1, .int (hi195 94 j209), .int (x3 + (1 : Int32))] [] (rx_hp L t hi195 hl195 v195) Q))))) ∧ (¬ (x1 = (7 : Int32)) → rx_aw 223 56 [.ref 90, .int x1, .int ((x2 + (1 : Int32)) + (0 : Int32)), .int (x3 + (1 : Int32))] [] (rx_hp L t hi195 hl195 v195) Q))))) ∧ (¬ ((hi195 100 j198) = (1 : Int32)) → ((x1 = (5 : Int32) → (∃ j211 : Nat, x3 = nI j211 ∧ j211 < 6 ∧ (((hi195 100 j211) = (2 : Int32) → ((x1 = (6 : Int32) → (∃ j214 : Nat, x3 = nI j214 ∧ j214 < 6 ∧ ((x1 = (7 : Int32) → (∃ j216 : Nat, x3 = nI j216 ∧ j216 < 6 ∧ (((hi195 94 j216) ≤ ((x2 + (1 : Int32)) + (hi195 94 j214)) → rx_aw 223 56 [.ref 90, .int x1, .int ((x2 + (1 : Int32)) + (hi195 94 j214)), .int (x3 + (1 : Int32))] [] (rx_hp L t hi195 hl195 v195) Q) ∧ (¬ ((hi195 94 j216) ≤ ((x2 + (1 : Int32)) + (hi195 94 j214))) → (∃ j218 : Nat, x3 = nI j218 ∧ j218 < 6 ∧ rx_aw 223 56 [.ref 90, .int x1, .int (hi195 94 j218), .int (x3 + (1 : Int32))] [] (rx_hp L t hi195 hl195 v195) Q))))) ∧ (¬ (x1 = (7 : Int32)) → rx_aw 223 56 [.ref 90, .int x1, .int ((x2 + (1 : Int32)) + (hi195 94 j214)), .int (x3 + (1 : Int32))] [] (rx_hp L t hi195 hl195 v195) Q)))) ∧ (¬ (x1 = (6 : Int32)) → ((x1 = (7 : Int32) → (∃ j220 : Nat, x3 = nI j220 ∧ j220 < 6 ∧ (((hi195 94 j220) ≤ ((x2 + (1 : Int32)) + (0 : Int32)) → rx_aw 223 56 [.ref 90, .int x1, .int ((x2 + (1 : Int32)) + (0 : Int32)), .int (x3 + (1 : Int32))] [] (rx_hp L t hi195 hl195 v195) Q) ∧ (¬ ((hi195 94 j220) ≤ ((x2 + (1 : Int32)) + (0 : Int32))) → (∃ j222 : Nat, x3 = nI j222 ∧ j222 < 6 ∧ rx_aw 223 56 [.ref 90, .int x1, .int (hi195 94 j222), .int (x3 + (1 : Int32))] [] (rx_hp L t hi195 hl195 v195) Q))))) ∧ (¬ (x1 = (7 : Int32)) → rx_aw 223 56 [.ref 90, .int x1, .int ((x2 + (1 : Int32)) + (0 : Int32)), .int (x3 + (1 : Int32))] [] (rx_hp L t hi195 hl195 v195) Q))))) ∧ (¬ ((hi195 100 j211) = (2 : Int32)) → ((x1 = (6 : Int32) → (∃ j224 : Nat, x3 = nI j224 ∧ j224 < 6 ∧ ((x1 = (7 : Int32) → (∃ j226 : Nat, x3 = nI j226 ∧ j226 < 6 ∧ (((hi195 94 j226) ≤ ((x2 + (0 : Int32)) + (hi195 94 j224)) → rx_aw 223 56 [.ref 90, .int x1, .int ((x2 + (0 : Int32)) + (hi195 94 j224)), .int (x3 + (1 : Int32))] [] (rx_hp L t hi195 hl195 v195) Q) ∧ (¬ ((hi195 94 j226) ≤ ((x2 + (0 : Int32)) + (hi195 94 j224))) → (∃ j228 : Nat, x3 = nI j228 ∧ j228 < 6 ∧ rx_aw 223 56 [.ref 90, .int x1, .int (hi195 94 j228), .int (x3 + (1 : Int32))] [] (rx_hp L t hi195 hl195 v195) Q))))) ∧ (¬ (x1 = (7 : Int32)) → rx_aw 223 56 [.ref 90, .int x1, .int ((x2 + (0 : Int32)) + (hi195 94 j224)), .int (x3 + (1 : Int32))] [] (rx_hp L t hi195 hl195 v195) Q)))) ∧ (¬ (x1 = (6 : Int32)) → ((x1 = (7 : Int32) → (∃ j230 : Nat, x3 = nI j230 ∧ j230 < 6 ∧ (((hi195 94 j230) ≤ ((x2 + (0 : Int32)) + (0 : Int32)) → rx_aw 223 56 [.ref 90, .int x1, .int ((x2 + (0 : Int32)) + (0 : Int32)), .int (x3 + (1 : Int32))] [] (rx_hp L t hi195 hl195 v195) Q) ∧ (¬ ((hi195 94 j230) ≤ ((x2 + (0 : Int32)) + (0 : Int32))) → (∃ j232 : Nat, x3 = nI j232 ∧ j232 < 6 ∧ rx_aw 223 56 [.ref 90, .int x1, .int (hi195 94 j232), .int (x3 + (1 : Int32))] [] (rx_hp L t hi195 hl195 v195) Q))))) ∧ (¬ (x1 = (7 : Int32)) → rx_aw 223 56 [.ref 90, .int x1, .int ((x2 + (0 : Int32)) + (0 : Int32)), .int (x3 + (1 : Int32))] [] (rx_hp L t hi195 hl195 v195) Q)))))))) ∧ (¬ (x1 = (5 : Int32)) → ((x1 = (6 : Int32) → (∃ j234 : Nat, x3 = nI j234 ∧ j234 < 6 ∧ ((x1 = (7 : Int32) → (∃ j236 : Nat, x3 = nI j236 ∧ j236 < 6 ∧ (((hi195 94 j236) ≤ ((x2 + (0 : Int32)) + (hi195 94 j234)) → rx_aw 223 56 [.ref 90, .int x1, .int ((x2 + (0 : Int32)) + (hi195 94 j234)), .int (x3 + (1 : Int32))] [] (rx_hp L t hi195 hl195 v195) Q) ∧ (¬ ((hi195 94 j236) ≤ ((x2 + (0 : Int32)) + (hi195 94 j234))) → (∃ j238 : Nat, x3 = nI j238 ∧ j238 < 6 ∧ rx_aw 223 56 [.ref 90, .int x1, .int (hi195 94 j238), .int (x3 + (1 : Int32))] [] (rx_hp L t hi195 hl195 v195) Q))))) ∧ (¬ (x1 = (7 : Int32)) → rx_aw 223 56 [.ref 90, .int x1, .int ((x2 + (0 : Int32)) + (hi195 94 j234)), .int (x3 + (1 : Int32))] [] (rx_hp L t hi195 hl195 v195) Q)))) ∧ (¬ (x1 = (6 : Int32)) → ((x1 = (7 : Int32) → (∃ j240 : Nat, x3 = nI j240 ∧ j240 < 6 ∧ (((hi195 94 j240) ≤ ((x2 + (0 : Int32)) + (0 : Int32)) → rx_aw 223 56 [.ref 90, .int x1, .int ((x2 + (0 : Int32)) + (0 : Int32)), .int (x3 + (1 : Int32))] [] (rx_hp L t hi195 hl195 v195) Q) ∧ (¬ ((hi195 94 j240) ≤ ((x2 + (0 : Int32)) + (0 : Int32))) → (∃ j242 : Nat, x3 = nI j242 ∧ j242 < 6 ∧ rx_aw 223 56 [.ref 90, .int x1, .int (hi195 94 j242), .int (x3 + (1 : Int32))] [] (rx_hp L t hi195 hl195 v195) Q))))) ∧ (¬ (x1 = (7 : Int32)) → rx_aw 223 56 [.ref 90, .int x1, .int ((x2 + (0 : Int32)) + (0 : Int32)), .int (x3 + (1 : Int32))] [] (rx_hp L t hi195 hl195 v195) Q)))))))))) ∧ (¬ (x1 = (4 : Int32)) → ((x1 = (5 : Int32) → (∃ j244 : Nat, x3 = nI j244 ∧ j244 < 6 ∧ (((hi195 100 j244) = (2 : Int32) → ((x1 = (6 : Int32) → (∃ j247 : Nat, x3 = nI j247 ∧ j247 < 6 ∧ ((x1 = (7 : Int32) → (∃ j249 : Nat, x3 = nI j249 ∧ j249 < 6 ∧ (((hi195 94 j249) ≤ ((x2 + (1 : Int32)) + (hi195 94 j247)) → rx_aw 223 56 [.ref 90, .int x1, .int ((x2 + (1 : Int32)) + (hi195 94 j247)), .int (x3 + (1 : Int32))] [] (rx_hp L t hi195 hl195 v195) Q) ∧ (¬ ((hi195 94 j249) ≤ ((x2 + (1 : Int32)) + (hi195 94 j247))) → (∃ j251 : Nat, x3 = nI j251 ∧ j251 < 6 ∧ rx_aw 223 56 [.ref 90, .int x1, .int (hi195 94 j251), .int (x3 + (1 : Int32))] [] (rx_hp L t hi195 hl195 v195) Q))))) ∧ (¬ (x1 = (7 : Int32)) → rx_aw 223 56 [.ref 90, .int x1, .int ((x2 + (1 : Int32)) + (hi195 94 j247)), .int (x3 + (1 : Int32))] [] (rx_hp L t hi195 hl195 v195) Q)))) ∧ (¬ (x1 = (6 : Int32)) → ((x1 = (7 : Int32) → (∃ j253 : Nat, x3 = nI j253 ∧ j253 < 6 ∧ (((hi195 94 j253) ≤ ((x2 + (1 : Int32)) + (0 : Int32)) → rx_aw 223 56 [.ref 90, .int x1, .int ((x2 + (1 : Int32)) + (0 : Int32)), .int (x3 + (1 : Int32))] [] (rx_hp L t hi195 hl195 v195) Q) ∧ (¬ ((hi195 94 j253) ≤ ((x2 + (1 : Int32)) + (0 : Int32))) → (∃ j255 : Nat, x3 = nI j255 ∧ j255 < 6 ∧ rx_aw 223 56 [.ref 90, .int x1, .int (hi195 94 j255), .int (x3 + (1 : Int32))] [] (rx_hp L t hi195 hl195 v195) Q))))) ∧ (¬ (x1 = (7 : Int32)) → rx_aw 223 56 [.ref 90, .int x1, .int ((x2 + (1 : Int32)) + (0 : Int32)), .int (x3 + (1 : Int32))] [] (rx_hp L t hi195 hl195 v195) Q))))) ∧ (¬ ((hi195 100 j244) = (2 : Int32)) → ((x1 = (6 : Int32) → (∃ j257 : Nat, x3 = nI j257 ∧ j257 < 6 ∧ ((x1 = (7 : Int32) → (∃ j259 : Nat, x3 = nI j259 ∧ j259 < 6 ∧ (((hi195 94 j259) ≤ ((x2 + (0 : Int32)) + (hi195 94 j257)) → rx_aw 223 56 [.ref 90, .int x1, .int ((x2 + (0 : Int32)) + (hi195 94 j257)), .int (x3 + (1 : Int32))] [] (rx_hp L t hi195 hl195 v195) Q) ∧ (¬ ((hi195 94 j259) ≤ ((x2 + (0 : Int32)) + (hi195 94 j257))) → (∃ j261 : Nat, x3 = nI j261 ∧ j261 < 6 ∧ rx_aw 223 56 [.ref 90, .int x1, .int (hi195 94 j261), .int (x3 + (1 : Int32))] [] (rx_hp L t hi195 hl195 v195) Q))))) ∧ (¬ (x1 = (7 : Int32)) → rx_aw 223 56 [.ref 90, .int x1, .int ((x2 + (0 : Int32)) + (hi195 94 j257)), .int (x3 + (1 : Int32))] [] (rx_hp L t hi195 hl195 v195) Q)))) ∧ (¬ (x1 = (6 : Int32)) → ((x1 = (7 : Int32) → (∃ j263 : Nat, x3 = nI j263 ∧ j263 < 6 ∧ (((hi195 94 j263) ≤ ((x2 + (0 : Int32)) + (0 : Int32)) → rx_aw 223 56 [.ref 90, .int x1, .int ((x2 + (0 : Int32)) + (0 : Int32)), .int (x3 + (1 : Int32))] [] (rx_hp L t hi195 hl195 v195) Q) ∧ (¬ ((hi195 94 j263) ≤ ((x2 + (0 : Int32)) + (0 : Int32))) → (∃ j265 : Nat, x3 = nI j265 ∧ j265 < 6 ∧ rx_aw 223 56 [.ref 90, .int x1, .int (hi195 94 j265), .int (x3 + (1 : Int32))] [] (rx_hp L t hi195 hl195 v195) Q))))) ∧ (¬ (x1 = (7 : Int32)) → rx_aw 223 56 [.ref 90, .int x1, .int ((x2 + (0 : Int32)) + (0 : Int32)), .int (x3 + (1 : Int32))] [] (rx_hp L t hi195 hl195 v195) Q)))))))) ∧ (¬ (x1 = (5 : Int32)) → ((x1 = (6 : Int32) → (∃ j267 : Nat, x3 = nI j267 ∧ j267 < 6 ∧ ((x1 = (7 : Int32) → (∃ j269 : Nat, x3 = nI j269 ∧ j269 < 6 ∧ (((hi195 94 j269) ≤ ((x2 + (0 : Int32)) + (hi195 94 j267)) → rx_aw 223 56 [.ref 90, .int x1, .int ((x2 + (0 : Int32)) + (hi195 94 j267)), .int (x3 + (1 : Int32))] [] (rx_hp L t hi195 hl195 v195) Q) ∧ (¬ ((hi195 94 j269) ≤ ((x2 + (0 : Int32)) + (hi195 94 j267))) → (∃ j271 : Nat, x3 = nI j271 ∧ j271 < 6 ∧ rx_aw 223 56 [.ref 90, .int x1, .int (hi195 94 j271), .int (x3 + (1 : Int32))] [] (rx_hp L t hi195 hl195 v195) Q))))) ∧ (¬ (x1 = (7 : Int32)) → rx_aw 223 56 [.ref 90, .int x1, .int ((x2 + (0 : Int32)) + (hi195 94 j267)), .int (x3 + (1 : Int32))] [] (rx_hp L t hi195 hl195 v195) Q)))) ∧ (¬ (x1 = (6 : Int32)) → ((x1 = (7 : Int32) → (∃ j273 : Nat, x3 = nI j273 ∧ j273 < 6 ∧ (((hi195 94 j273) ≤ ((x2 + (0 : Int32)) + (0 : Int32)) → rx_aw 223 56 [.ref 90, .int x1, .int ((x2 + (0 : Int32)) + (0 : Int32)), .int (x3 + (1 : Int32))] [] (rx_hp L t hi195 hl195 v195) Q) ∧ (¬ ((hi195 94 j273) ≤ ((x2 + (0 : Int32)) + (0 : Int32))) → (∃ j275 : Nat, x3 = nI j275 ∧ j275 < 6 ∧ rx_aw 223 56 [.ref 90, .int x1, .int (hi195 94 j275), .int (x3 + (1 : Int32))] [] (rx_hp L t hi195 hl195 v195) Q))))) ∧ (¬ (x1 = (7 : Int32)) → rx_aw 223 56 [.ref 90, .int x1, .int ((x2 + (0 : Int32)) + (0 : Int32)), .int (x3 + (1 : Int32))] [] (rx_hp L t hi195 hl195 v195) Q))))))))) ∧ (¬ (z195 = 0) → ((x1 = (6 : Int32) → (∃ j277 : Nat, x3 = nI j277 ∧ j277 < 6 ∧ ((x1 = (7 : Int32) → (∃ j279 : Nat, x3 = nI j279 ∧ j279 < 6 ∧ (((hi195 94 j279) ≤ ((x2 + (1 : Int32)) + (hi195 94 j277)) → rx_aw 223 56 [.ref 90, .int x1, .int ((x2 + (1 : Int32)) + (hi195 94 j277)), .int (x3 + (1 : Int32))] [] (rx_hp L t hi195 hl195 v195) Q) ∧ (¬ ((hi195 94 j279) ≤ ((x2 + (1 : Int32)) + (hi195 94 j277))) → (∃ j281 : Nat, x3 = nI j281 ∧ j281 < 6 ∧ rx_aw 223 56 [.ref 90, .int x1, .int (hi195 94 j281), .int (x3 + (1 : Int32))] [] (rx_hp L t hi195 hl195 v195) Q))))) ∧ (¬ (x1 = (7 : Int32)) → rx_aw 223 56 [.ref 90, .int x1, .int ((x2 + (1 : Int32)) + (hi195 94 j277)), .int (x3 + (1 : Int32))] [] (rx_hp L t hi195 hl195 v195) Q)))) ∧ (¬ (x1 = (6 : Int32)) → ((x1 = (7 : Int32) → (∃ j283 : Nat, x3 = nI j283 ∧ j283 < 6 ∧ (((hi195 94 j283) ≤ ((x2 + (1 : Int32)) + (0 : Int32)) → rx_aw 223 56 [.ref 90, .int x1, .int ((x2 + (1 : Int32)) + (0 : Int32)), .int (x3 + (1 : Int32))] [] (rx_hp L t hi195 hl195 v195) Q) ∧ (¬ ((hi195 94 j283) ≤ ((x2 + (1 : Int32)) + (0 : Int32))) → (∃ j285 : Nat, x3 = nI j285 ∧ j285 < 6 ∧ rx_aw 223 56 [.ref 90, .int x1, .int (hi195 94 j285), .int (x3 + (1 : Int32))] [] (rx_hp L t hi195 hl195 v195) Q))))) ∧ (¬ (x1 = (7 : Int32)) → rx_aw 223 56 [.ref 90, .int x1, .int ((x2 + (1 : Int32)) + (0 : Int32)), .int (x3 + (1 : Int32))] [] (rx_hp L t hi195 hl195 v195) Q))))))))) ∧ (¬ (x1 = (3 : Int32)) → ((x1 = (4 : Int32) → (∃ j287 : Nat, x3 = nI j287 ∧ j287 < 6 ∧ (((hi 100 j287) = (1 : Int32) → ((x1 = (6 : Int32) → (∃ j290 : Nat, x3 = nI j290 ∧ j290 < 6 ∧ ((x1 = (7 : Int32) → (∃ j292 : Nat, x3 = nI j292 ∧ j292 < 6 ∧ (((hi 94 j292) ≤ ((x2 + (1 : Int32)) + (hi 94 j290)) → rx_aw 223 56 [.ref 90, .int x1, .int ((x2 + (1 : Int32)) + (hi 94 j290)), .int (x3 + (1 : Int32))] [] (rx_hp L t hi hl v) Q) ∧ (¬ ((hi 94 j292) ≤ ((x2 + (1 : Int32)) + (hi 94 j290))) → (∃ j294 : Nat, x3 = nI j294 ∧ j294 < 6 ∧ rx_aw 223 56 [.ref 90, .int x1, .int (hi 94 j294), .int (x3 + (1 : Int32))] [] (rx_hp L t hi hl v) Q))))) ∧ (¬ (x1 = (7 : Int32)) → rx_aw 223 56 [.ref 90, .int x1, .int ((x2 + (1 : Int32)) + (hi 94 j290)), .int (x3 + (1 : Int32))] [] (rx_hp L t hi hl v) Q)))) ∧ (¬ (x1 = (6 : Int32)) → ((x1 = (7 : Int32) → (∃ j296 : Nat, x3 = nI j296 ∧ j296 < 6 ∧ (((hi 94 j296) ≤ ((x2 + (1 : Int32)) + (0 : Int32)) → rx_aw 223 56 [.ref 90, .int x1, .int ((x2 + (1 : Int32)) + (0 : Int32)), .int (x3 + (1 : Int32))] [] (rx_hp L t hi hl v) Q) ∧ (¬ ((hi 94 j296) ≤ ((x2 + (1 : Int32)) + (0 : Int32))) → (∃ j298 : Nat, x3 = nI j298 ∧ j298 < 6 ∧ rx_aw 223 56 [.ref 90, .int x1, .int (hi 94 j298), .int (x3 + (1 : Int32))] [] (rx_hp L t hi hl v) Q))))) ∧ (¬ (x1 = (7 : Int32)) → rx_aw 223 56 [.ref 90, .int x1, .int ((x2 + (1 : Int32)) + (0 : Int32)), .int (x3 + (1 : Int32))] [] (rx_hp L t hi hl v) Q))))) ∧ (¬ ((hi 100 j287) = (1 : Int32)) → ((x1 = (5 : Int32) → (∃ j300 : Nat, x3 = nI j300 ∧ j300 < 6 ∧ (((hi 100 j300) = (2 : Int32) → ((x1 = (6 : Int32) → (∃ j303 : Nat, x3 = nI j303 ∧ j303 < 6 ∧ ((x1 = (7 : Int32) → (∃ j305 : Nat, x3 = nI j305 ∧ j305 < 6 ∧ (((hi 94 j305) ≤ ((x2 + (1 : Int32)) + (hi 94 j303)) → rx_aw 223 56 [.ref 90, .int x1, .int ((x2 + (1 : Int32)) + (hi 94 j303)), .int (x3 + (1 : Int32))] [] (rx_hp L t hi hl v) Q) ∧ (¬ ((hi 94 j305) ≤ ((x2 + (1 : Int32)) + (hi 94 j303))) → (∃ j307 : Nat, x3 = nI j307 ∧ j307 < 6 ∧ rx_aw 223 56 [.ref 90, .int x1, .int (hi 94 j307), .int (x3 + (1 : Int32))] [] (rx_hp L t hi hl v) Q))))) ∧ (¬ (x1 = (7 : Int32)) → rx_aw 223 56 [.ref 90, .int x1, .int ((x2 + (1 : Int32)) + (hi 94 j303)), .int (x3 + (1 : Int32))] [] (rx_hp L t hi hl v) Q)))) ∧ (¬ (x1 = (6 : Int32)) → ((x1 = (7 : Int32) → (∃ j309 : Nat, x3 = nI j309 ∧ j309 < 6 ∧ (((hi 94 j309) ≤ ((x2 + (1 : Int32)) + (0 : Int32)) → rx_aw 223 56 [.ref 90, .int x1, .int ((x2 + (1 : Int32)) + (0 : Int32)), .int (x3 + (1 : Int32))] [] (rx_hp L t hi hl v) Q) ∧ (¬ ((hi 94 j309) ≤ ((x2 + (1 : Int32)) + (0 : Int32))) → (∃ j311 : Nat, x3 = nI j311 ∧ j311 < 6 ∧ rx_aw 223 56 [.ref 90, .int x1, .int (hi 94 j311), .int (x3 + (1 : Int32))] [] (rx_hp L t hi hl v) Q))))) ∧ (¬ (x1 = (7 : Int32)) → rx_aw 223 56 [.ref 90, .int x1, .int ((x2 + (1 : Int32)) + (0 : Int32)), .int (x3 + (1 : Int32))] [] (rx_hp L t hi hl v) Q))))) ∧ (¬ ((hi 100 j300) = (2 : Int32)) → ((x1 = (6 : Int32) → (∃ j313 : Nat, x3 = nI j313 ∧ j313 < 6 ∧ ((x1 = (7 : Int32) → (∃ j315 : Nat, x3 = nI j315 ∧ j315 < 6 ∧ (((hi 94 j315) ≤ ((x2 + (0 : Int32)) + (hi 94 j313)) → rx_aw 223 56 [.ref 90, .int x1, .int ((x2 + (0 : Int32)) + (hi 94 j313)), .int (x3 + (1 : Int32))] [] (rx_hp L t hi hl v) Q) ∧ (¬ ((hi 94 j315) ≤ ((x2 + (0 : Int32)) + (hi 94 j313))) → (∃ j317 : Nat, x3 = nI j317 ∧ j317 < 6 ∧ rx_aw 223 56 [.ref 90, .int x1, .int (hi 94 j317), .int (x3 + (1 : Int32))] [] (rx_hp L t hi hl v) Q))))) ∧ (¬ (x1 = (7 : Int32)) → rx_aw 223 56 [.ref 90, .int x1, .int ((x2 + (0 : Int32)) + (hi 94 j313)), .int (x3 + (1 : Int32))] [] (rx_hp L t hi hl v) Q)))) ∧ (¬ (x1 = (6 : Int32)) → ((x1 = (7 : Int32) → (∃ j319 : Nat, x3 = nI j319 ∧ j319 < 6 ∧ (((hi 94 j319) ≤ ((x2 + (0 : Int32)) + (0 : Int32)) → rx_aw 223 56 [.ref 90, .int x1, .int ((x2 + (0 : Int32)) + (0 : Int32)), .int (x3 + (1 : Int32))] [] (rx_hp L t hi hl v) Q) ∧ (¬ ((hi 94 j319) ≤ ((x2 + (0 : Int32)) + (0 : Int32))) → (∃ j321 : Nat, x3 = nI j321 ∧ j321 < 6 ∧ rx_aw 223 56 [.ref 90, .int x1, .int (hi 94 j321), .int (x3 + (1 : Int32))] [] (rx_hp L t hi hl v) Q))))) ∧ (¬ (x1 = (7 : Int32)) → rx_aw 223 56 [.ref 90, .int x1, .int ((x2 + (0 : Int32)) + (0 : Int32)), .int (x3 + (1 : Int32))] [] (rx_hp L t hi hl v) Q)))))))) ∧ (¬ (x1 = (5 : Int32)) → ((x1 = (6 : Int32) → (∃ j323 : Nat, x3 = nI j323 ∧ j323 < 6 ∧ ((x1 = (7 : Int32) → (∃ j325 : Nat, x3 = nI j325 ∧ j325 < 6 ∧ (((hi 94 j325) ≤ ((x2 + (0 : Int32)) + (hi 94 j323)) → rx_aw 223 56 [.ref 90, .int x1, .int ((x2 + (0 : Int32)) + (hi 94 j323)), .int (x3 + (1 : Int32))] [] (rx_hp L t hi hl v) Q) ∧ (¬ ((hi 94 j325) ≤ ((x2 + (0 : Int32)) + (hi 94 j323))) → (∃ j327 : Nat, x3 = nI j327 ∧ j327 < 6 ∧ rx_aw 223 56 [.ref 90, .int x1, .int (hi 94 j327), .int (x3 + (1 : Int32))] [] (rx_hp L t hi hl v) Q))))) ∧ (¬ (x1 = (7 : Int32)) → rx_aw 223 56 [.ref 90, .int x1, .int ((x2 + (0 : Int32)) + (hi 94 j323)), .int (x3 + (1 : Int32))] [] (rx_hp L t hi hl v) Q)))) ∧ (¬ (x1 = (6 : Int32)) → ((x1 = (7 : Int32) → (∃ j329 : Nat, x3 = nI j329 ∧ j329 < 6 ∧ (((hi 94 j329) ≤ ((x2 + (0 : Int32)) + (0 : Int32)) → rx_aw 223 56 [.ref 90, .int x1, .int ((x2 + (0 : Int32)) + (0 : Int32)), .int (x3 + (1 : Int32))] [] (rx_hp L t hi hl v) Q) ∧ (¬ ((hi 94 j329) ≤ ((x2 + (0 : Int32)) + (0 : Int32))) → (∃ j331 : Nat, x3 = nI j331 ∧ j331 < 6 ∧ rx_aw 223 56 [.ref 90, .int x1, .int (hi 94 j331), .int (x3 + (1 : Int32))] [] (rx_hp L t hi hl v) Q))))) ∧ (¬ (x1 = (7 : Int32)) → rx_aw 223 56 [.ref 90, .int x1, .int ((x2 + (0 : Int32)) + (0 : Int32)), .int (x3 + (1 : Int32))] [] (rx_hp L t hi hl v) Q)))))))))) ∧ (¬ (x1 = (4 : Int32)) → ((x1 = (5 : Int32) → (∃ j333 : Nat, x3 = nI j333 ∧ j333 < 6 ∧ (((hi 100 j333) = (2 : Int32) → ((x1 = (6 : Int32) → (∃ j336 : Nat, x3 = nI j336 ∧ j336 < 6 ∧ ((x1 = (7 : Int32) → (∃ j338 : Nat, x3 = nI j338 ∧ j338 < 6 ∧ (((hi 94 j338) ≤ ((x2 + (1 : Int32)) + (hi 94 j336)) → rx_aw 223 56 [.ref 90, .int x1, .int ((x2 + (1 : Int32)) + (hi 94 j336)), .int (x3 + (1 : Int32))] [] (rx_hp L t hi hl v) Q) ∧ (¬ ((hi 94 j338) ≤ ((x2 + (1 : Int32)) + (hi 94 j336))) → (∃ j340 : Nat, x3 = nI j340 ∧ j340 < 6 ∧ rx_aw 223 56 [.ref 90, .int x1, .int (hi 94 j340), .int (x3 + (1 : Int32))] [] (rx_hp L t hi hl v) Q))))) ∧ (¬ (x1 = (7 : Int32)) → rx_aw 223 56 [.ref 90, .int x1, .int ((x2 + (1 : Int32)) + (hi 94 j336)), .int (x3 + (1 : Int32))] [] (rx_hp L t hi hl v) Q)))) ∧ (¬ (x1 = (6 : Int32)) → ((x1 = (7 : Int32) → (∃ j342 : Nat, x3 = nI j342 ∧ j342 < 6 ∧ (((hi 94 j342) ≤ ((x2 + (1 : Int32)) + (0 : Int32)) → rx_aw 223 56 [.ref 90, .int x1, .int ((x2 + (1 : Int32)) + (0 : Int32)), .int (x3 + (1 : Int32))] [] (rx_hp L t hi hl v) Q) ∧ (¬ ((hi 94 j342) ≤ ((x2 + (1 : Int32)) + (0 : Int32))) → (∃ j344 : Nat, x3 = nI j344 ∧ j344 < 6 ∧ rx_aw 223 56 [.ref 90, .int x1, .int (hi 94 j344), .int (x3 + (1 : Int32))] [] (rx_hp L t hi hl v) Q))))) ∧ (¬ (x1 = (7 : Int32)) → rx_aw 223 56 [.ref 90, .int x1, .int ((x2 + (1 : Int32)) + (0 : Int32)), .int (x3 + (1 : Int32))] [] (rx_hp L t hi hl v) Q))))) ∧ (¬ ((hi 100 j333) = (2 : Int32)) → ((x1 = (6 : Int32) → (∃ j346 : Nat, x3 = nI j346 ∧ j346 < 6 ∧ ((x1 = (7 : Int32) → (∃ j348 : Nat, x3 = nI j348 ∧ j348 < 6 ∧ (((hi 94 j348) ≤ ((x2 + (0 : Int32)) + (hi 94 j346)) → rx_aw 223 56 [.ref 90, .int x1, .int ((x2 + (0 : Int32)) + (hi 94 j346)), .int (x3 + (1 : Int32))] [] (rx_hp L t hi hl v) Q) ∧ (¬ ((hi 94 j348) ≤ ((x2 + (0 : Int32)) + (hi 94 j346))) → (∃ j350 : Nat, x3 = nI j350 ∧ j350 < 6 ∧ rx_aw 223 56 [.ref 90, .int x1, .int (hi 94 j350), .int (x3 + (1 : Int32))] [] (rx_hp L t hi hl v) Q))))) ∧ (¬ (x1 = (7 : Int32)) → rx_aw 223 56 [.ref 90, .int x1, .int ((x2 + (0 : Int32)) + (hi 94 j346)), .int (x3 + (1 : Int32))] [] (rx_hp L t hi hl v) Q)))) ∧ (¬ (x1 = (6 : Int32)) → ((x1 = (7 : Int32) → (∃ j352 : Nat, x3 = nI j352 ∧ j352 < 6 ∧ (((hi 94 j352) ≤ ((x2 + (0 : Int32)) + (0 : Int32)) → rx_aw 223 56 [.ref 90, .int x1, .int ((x2 + (0 : Int32)) + (0 : Int32)), .int (x3 + (1 : Int32))] [] (rx_hp L t hi hl v) Q) ∧ (¬ ((hi 94 j352) ≤ ((x2 + (0 : Int32)) + (0 : Int32))) → (∃ j354 : Nat, x3 = nI j354 ∧ j354 < 6 ∧ rx_aw 223 56 [.ref 90, .int x1, .int (hi 94 j354), .int (x3 + (1 : Int32))] [] (rx_hp L t hi hl v) Q))))) ∧ (¬ (x1 = (7 : Int32)) → rx_aw 223 56 [.ref 90, .int x1, .int ((x2 + (0 : Int32)) + (0 : Int32)), .int (x3 + (1 : Int32))] [] (rx_hp L t hi hl v) Q)))))))) ∧ (¬ (x1 = (5 : Int32)) → ((x1 = (6 : Int32) → (∃ j356 : Nat, x3 = nI j356 ∧ j356 < 6 ∧ ((x1 = (7 : Int32) → (∃ j358 : Nat, x3 = nI j358 ∧ j358 < 6 ∧ (((hi 94 j358) ≤ ((x2 + (0 : Int32)) + (hi 94 j356)) → rx_aw 223 56 [.ref 90, .int x1, .int ((x2 + (0 : Int32)) + (hi 94 j356)), .int (x3 + (1 : Int32))] [] (rx_hp L t hi hl v) Q) ∧ (¬ ((hi 94 j358) ≤ ((x2 + (0 : Int32)) + (hi 94 j356))) → (∃ j360 : Nat, x3 = nI j360 ∧ j360 < 6 ∧ rx_aw 223 56 [.ref 90, .int x1, .int (hi 94 j360), .int (x3 + (1 : Int32))] [] (rx_hp L t hi hl v) Q))))) ∧ (¬ (x1 = (7 : Int32)) → rx_aw 223 56 [.ref 90, .int x1, .int ((x2 + (0 : Int32)) + (hi 94 j356)), .int (x3 + (1 : Int32))] [] (rx_hp L t hi hl v) Q)))) ∧ (¬ (x1 = (6 : Int32)) → ((x1 = (7 : Int32) → (∃ j362 : Nat, x3 = nI j362 ∧ j362 < 6 ∧ (((hi 94 j362) ≤ ((x2 + (0 : Int32)) + (0 : Int32)) → rx_aw 223 56 [.ref 90, .int x1, .int ((x2 + (0 : Int32)) + (0 : Int32)), .int (x3 + (1 : Int32))] [] (rx_hp L t hi hl v) Q) ∧ (¬ ((hi 94 j362) ≤ ((x2 + (0 : Int32)) + (0 : Int32))) → (∃ j364 : Nat, x3 = nI j364 ∧ j364 < 6 ∧ rx_aw 223 56 [.ref 90, .int x1, .int (hi 94 j364), .int (x3 + (1 : Int32))] [] (rx_hp L t hi hl v) Q))))) ∧ (¬ (x1 = (7 : Int32)) → rx_aw 223 56 [.ref 90, .int x1, .int ((x2 + (0 : Int32)) + (0 : Int32)), .int (x3 + (1 : Int32))] [] (rx_hp L t hi hl v) Q))))))))))))))) : rx_aw 223 56 [.ref 90, .int x1, .int x2, .int x3] [] (rx_hp L t hi hl v) Q := by
  refine rx_aw_s 4 (pc := 56) rfl ?_
  refine rx_w_if (c := (hi 90 6) ≤ x3) ⟨fun c9 => ?_, fun c9 => ?_⟩
  · have k := k.1 c9
    show rx_aw 223 181 [.ref 90, .int x1, .int x2, .int x3] [] (rx_hp L t hi hl v) Q
    refine rx_aw_s 1 (pc := 181) rfl ?_
    show rx_aw 223 182 [.ref 90, .int x1, .int x2, .int x3] [.int x2] (rx_hp L t hi hl v) Q
    exact rx_aw_ret (pc := 182) rfl k
  · have k := k.2 c9
    show rx_aw 223 64 [.ref 90, .int x1, .int x2, .int x3] [] (rx_hp L t hi hl v) Q
    refine rx_aw_s 4 (pc := 64) rfl ?_
    refine rx_w_ifn (c := x1 = (2 : Int32)) ⟨fun c10 => ?_, fun c10 => ?_⟩
    · have k := k.1 c10
      show rx_aw 223 70 [.ref 90, .int x1, .int x2, .int x3] [.int x2] (rx_hp L t hi hl v) Q
      refine rx_aw_s 3 (pc := 70) rfl ?_
      show rx_aw 223 75 [.ref 90, .int x1, .int x2, .int x3] [.int x3, .ref 96, .int x2] (rx_hp L t hi hl v) Q
      obtain ⟨j11, ej11, hj11, k⟩ := k
      refine rx_aw_bald (pc := 75) (n := 6) j11 ej11 rfl (Or.inr rfl) (by decide) rfl hj11 (by decide) ?_
      show rx_aw 223 76 [.ref 90, .int x1, .int x2, .int x3] [.int (hi 96 j11), .int x2] (rx_hp L t hi hl v) Q
      refine rx_aw_s 1 (pc := 76) rfl ?_
      refine rx_w_ifn (c := (hi 96 j11) = 0) ⟨fun c12 => ?_, fun c12 => ?_⟩
      · have k := k.1 c12
        show rx_aw 223 79 [.ref 90, .int x1, .int x2, .int x3] [.int x2] (rx_hp L t hi hl v) Q
        refine rx_aw_s 3 (pc := 79) rfl ?_
        refine rx_w_ifn (c := x1 = (3 : Int32)) ⟨fun c13 => ?_, fun c13 => ?_⟩
        · have k := k.1 c13
          show rx_aw 223 84 [.ref 90, .int x1, .int x2, .int x3] [.int x2] (rx_hp L t hi hl v) Q
          refine rx_aw_s 2 (pc := 84) rfl ?_
          show rx_aw 223 86 [.ref 90, .int x1, .int x2, .int x3] [.int x3, .ref 90, .int x2] (rx_hp L t hi hl v) Q
          refine rx_w_callI (j := 162) (pc := 86) rfl rfl rfl rfl rfl ?_
          refine rx_aw.mono k (fun r h2 k => ?_)
          obtain ⟨z14, rfl, hi14, hl14, v14, rfl, k⟩ := k
          refine ⟨z14, rfl, ?_⟩
          show rx_aw 223 89 [.ref 90, .int x1, .int x2, .int x3] [.int z14, .int x2] (rx_hp L t hi14 hl14 v14) Q
          refine rx_aw_s 1 (pc := 89) rfl ?_
          refine rx_w_ifn (c := z14 = 0) ⟨fun c15 => ?_, fun c15 => ?_⟩
          · have k := k.1 c15
            show rx_aw 223 92 [.ref 90, .int x1, .int x2, .int x3] [.int x2] (rx_hp L t hi14 hl14 v14) Q
            refine rx_aw_s 3 (pc := 92) rfl ?_
            refine rx_w_ifn (c := x1 = (4 : Int32)) ⟨fun c16 => ?_, fun c16 => ?_⟩
            · have k := k.1 c16
              show rx_aw 223 97 [.ref 90, .int x1, .int x2, .int x3] [.int x2] (rx_hp L t hi14 hl14 v14) Q
              refine rx_aw_s 3 (pc := 97) rfl ?_
              show rx_aw 223 102 [.ref 90, .int x1, .int x2, .int x3] [.int x3, .ref 100, .int x2] (rx_hp L t hi14 hl14 v14) Q
              obtain ⟨j17, ej17, hj17, k⟩ := k
              refine rx_aw_iald (pc := 102) (n := 6) j17 ej17 rfl rfl rfl hj17 (by decide) ?_
              show rx_aw 223 103 [.ref 90, .int x1, .int x2, .int x3] [.int (hi14 100 j17), .int x2] (rx_hp L t hi14 hl14 v14) Q
              refine rx_aw_s 2 (pc := 103) rfl ?_
              refine rx_w_if (c := (hi14 100 j17) = (1 : Int32)) ⟨fun c18 => ?_, fun c18 => ?_⟩
              · have k := k.1 c18
                show rx_aw 223 122 [.ref 90, .int x1, .int x2, .int x3] [.int x2] (rx_hp L t hi14 hl14 v14) Q
                refine rx_aw_s 8 (pc := 122) rfl ?_
                refine rx_w_ifn (c := x1 = (6 : Int32)) ⟨fun c19 => ?_, fun c19 => ?_⟩
                · have k := k.1 c19
                  show rx_aw 223 136 [.ref 90, .int x1, .int (x2 + (1 : Int32)), .int x3] [.int (x2 + (1 : Int32))] (rx_hp L t hi14 hl14 v14) Q
                  refine rx_aw_s 3 (pc := 136) rfl ?_
                  show rx_aw 223 141 [.ref 90, .int x1, .int (x2 + (1 : Int32)), .int x3] [.int x3, .ref 94, .int (x2 + (1 : Int32))] (rx_hp L t hi14 hl14 v14) Q
                  obtain ⟨j20, ej20, hj20, k⟩ := k
                  refine rx_aw_iald (pc := 141) (n := 6) j20 ej20 rfl rfl rfl hj20 (by decide) ?_
                  show rx_aw 223 142 [.ref 90, .int x1, .int (x2 + (1 : Int32)), .int x3] [.int (hi14 94 j20), .int (x2 + (1 : Int32))] (rx_hp L t hi14 hl14 v14) Q
                  refine rx_aw_s 6 (pc := 142) rfl ?_
                  refine rx_w_ifn (c := x1 = (7 : Int32)) ⟨fun c21 => ?_, fun c21 => ?_⟩
                  · have k := k.1 c21
                    show rx_aw 223 154 [.ref 90, .int x1, .int ((x2 + (1 : Int32)) + (hi14 94 j20)), .int x3] [] (rx_hp L t hi14 hl14 v14) Q
                    refine rx_aw_s 3 (pc := 154) rfl ?_
                    show rx_aw 223 159 [.ref 90, .int x1, .int ((x2 + (1 : Int32)) + (hi14 94 j20)), .int x3] [.int x3, .ref 94] (rx_hp L t hi14 hl14 v14) Q
                    obtain ⟨j22, ej22, hj22, k⟩ := k
                    refine rx_aw_iald (pc := 159) (n := 6) j22 ej22 rfl rfl rfl hj22 (by decide) ?_
                    show rx_aw 223 160 [.ref 90, .int x1, .int ((x2 + (1 : Int32)) + (hi14 94 j20)), .int x3] [.int (hi14 94 j22)] (rx_hp L t hi14 hl14 v14) Q
                    refine rx_aw_s 2 (pc := 160) rfl ?_
                    refine rx_w_if (c := (hi14 94 j22) ≤ ((x2 + (1 : Int32)) + (hi14 94 j20))) ⟨fun c23 => ?_, fun c23 => ?_⟩
                    · have k := k.1 c23
                      show rx_aw 223 173 [.ref 90, .int x1, .int ((x2 + (1 : Int32)) + (hi14 94 j20)), .int x3] [] (rx_hp L t hi14 hl14 v14) Q
                      refine rx_aw_s 4 (pc := 173) rfl ?_
                      show rx_aw 223 56 [.ref 90, .int x1, .int ((x2 + (1 : Int32)) + (hi14 94 j20)), .int (x3 + (1 : Int32))] [] (rx_hp L t hi14 hl14 v14) Q
                      exact k
                    · have k := k.2 c23
                      show rx_aw 223 164 [.ref 90, .int x1, .int ((x2 + (1 : Int32)) + (hi14 94 j20)), .int x3] [] (rx_hp L t hi14 hl14 v14) Q
                      refine rx_aw_s 3 (pc := 164) rfl ?_
                      show rx_aw 223 169 [.ref 90, .int x1, .int ((x2 + (1 : Int32)) + (hi14 94 j20)), .int x3] [.int x3, .ref 94] (rx_hp L t hi14 hl14 v14) Q
                      obtain ⟨j24, ej24, hj24, k⟩ := k
                      refine rx_aw_iald (pc := 169) (n := 6) j24 ej24 rfl rfl rfl hj24 (by decide) ?_
                      show rx_aw 223 170 [.ref 90, .int x1, .int ((x2 + (1 : Int32)) + (hi14 94 j20)), .int x3] [.int (hi14 94 j24)] (rx_hp L t hi14 hl14 v14) Q
                      refine rx_aw_s 4 (pc := 170) rfl ?_
                      show rx_aw 223 56 [.ref 90, .int x1, .int (hi14 94 j24), .int (x3 + (1 : Int32))] [] (rx_hp L t hi14 hl14 v14) Q
                      exact k
                  · have k := k.2 c21
                    show rx_aw 223 173 [.ref 90, .int x1, .int ((x2 + (1 : Int32)) + (hi14 94 j20)), .int x3] [] (rx_hp L t hi14 hl14 v14) Q
                    refine rx_aw_s 4 (pc := 173) rfl ?_
                    show rx_aw 223 56 [.ref 90, .int x1, .int ((x2 + (1 : Int32)) + (hi14 94 j20)), .int (x3 + (1 : Int32))] [] (rx_hp L t hi14 hl14 v14) Q
                    exact k
                · have k := k.2 c19
                  show rx_aw 223 145 [.ref 90, .int x1, .int (x2 + (1 : Int32)), .int x3] [.int (x2 + (1 : Int32))] (rx_hp L t hi14 hl14 v14) Q
                  refine rx_aw_s 6 (pc := 145) rfl ?_
                  refine rx_w_ifn (c := x1 = (7 : Int32)) ⟨fun c25 => ?_, fun c25 => ?_⟩
                  · have k := k.1 c25
                    show rx_aw 223 154 [.ref 90, .int x1, .int ((x2 + (1 : Int32)) + (0 : Int32)), .int x3] [] (rx_hp L t hi14 hl14 v14) Q
                    refine rx_aw_s 3 (pc := 154) rfl ?_
                    show rx_aw 223 159 [.ref 90, .int x1, .int ((x2 + (1 : Int32)) + (0 : Int32)), .int x3] [.int x3, .ref 94] (rx_hp L t hi14 hl14 v14) Q
                    obtain ⟨j26, ej26, hj26, k⟩ := k
                    refine rx_aw_iald (pc := 159) (n := 6) j26 ej26 rfl rfl rfl hj26 (by decide) ?_
                    show rx_aw 223 160 [.ref 90, .int x1, .int ((x2 + (1 : Int32)) + (0 : Int32)), .int x3] [.int (hi14 94 j26)] (rx_hp L t hi14 hl14 v14) Q
                    refine rx_aw_s 2 (pc := 160) rfl ?_
                    refine rx_w_if (c := (hi14 94 j26) ≤ ((x2 + (1 : Int32)) + (0 : Int32))) ⟨fun c27 => ?_, fun c27 => ?_⟩
                    · have k := k.1 c27
                      show rx_aw 223 173 [.ref 90, .int x1, .int ((x2 + (1 : Int32)) + (0 : Int32)), .int x3] [] (rx_hp L t hi14 hl14 v14) Q
                      refine rx_aw_s 4 (pc := 173) rfl ?_
                      show rx_aw 223 56 [.ref 90, .int x1, .int ((x2 + (1 : Int32)) + (0 : Int32)), .int (x3 + (1 : Int32))] [] (rx_hp L t hi14 hl14 v14) Q
                      exact k
                    · have k := k.2 c27
                      show rx_aw 223 164 [.ref 90, .int x1, .int ((x2 + (1 : Int32)) + (0 : Int32)), .int x3] [] (rx_hp L t hi14 hl14 v14) Q
                      refine rx_aw_s 3 (pc := 164) rfl ?_
                      show rx_aw 223 169 [.ref 90, .int x1, .int ((x2 + (1 : Int32)) + (0 : Int32)), .int x3] [.int x3, .ref 94] (rx_hp L t hi14 hl14 v14) Q
                      obtain ⟨j28, ej28, hj28, k⟩ := k
                      refine rx_aw_iald (pc := 169) (n := 6) j28 ej28 rfl rfl rfl hj28 (by decide) ?_
                      show rx_aw 223 170 [.ref 90, .int x1, .int ((x2 + (1 : Int32)) + (0 : Int32)), .int x3] [.int (hi14 94 j28)] (rx_hp L t hi14 hl14 v14) Q
                      refine rx_aw_s 4 (pc := 170) rfl ?_
                      show rx_aw 223 56 [.ref 90, .int x1, .int (hi14 94 j28), .int (x3 + (1 : Int32))] [] (rx_hp L t hi14 hl14 v14) Q
                      exact k
                  · have k := k.2 c25
                    show rx_aw 223 173 [.ref 90, .int x1, .int ((x2 + (1 : Int32)) + (0 : Int32)), .int x3] [] (rx_hp L t hi14 hl14 v14) Q
                    refine rx_aw_s 4 (pc := 173) rfl ?_
                    show rx_aw 223 56 [.ref 90, .int x1, .int ((x2 + (1 : Int32)) + (0 : Int32)), .int (x3 + (1 : Int32))] [] (rx_hp L t hi14 hl14 v14) Q
                    exact k
              · have k := k.2 c18
                show rx_aw 223 107 [.ref 90, .int x1, .int x2, .int x3] [.int x2] (rx_hp L t hi14 hl14 v14) Q
                refine rx_aw_s 3 (pc := 107) rfl ?_
                refine rx_w_ifn (c := x1 = (5 : Int32)) ⟨fun c29 => ?_, fun c29 => ?_⟩
                · have k := k.1 c29
                  show rx_aw 223 112 [.ref 90, .int x1, .int x2, .int x3] [.int x2] (rx_hp L t hi14 hl14 v14) Q
                  refine rx_aw_s 3 (pc := 112) rfl ?_
                  show rx_aw 223 117 [.ref 90, .int x1, .int x2, .int x3] [.int x3, .ref 100, .int x2] (rx_hp L t hi14 hl14 v14) Q
                  obtain ⟨j30, ej30, hj30, k⟩ := k
                  refine rx_aw_iald (pc := 117) (n := 6) j30 ej30 rfl rfl rfl hj30 (by decide) ?_
                  show rx_aw 223 118 [.ref 90, .int x1, .int x2, .int x3] [.int (hi14 100 j30), .int x2] (rx_hp L t hi14 hl14 v14) Q
                  refine rx_aw_s 2 (pc := 118) rfl ?_
                  refine rx_w_ifn (c := (hi14 100 j30) = (2 : Int32)) ⟨fun c31 => ?_, fun c31 => ?_⟩
                  · have k := k.1 c31
                    show rx_aw 223 122 [.ref 90, .int x1, .int x2, .int x3] [.int x2] (rx_hp L t hi14 hl14 v14) Q
                    refine rx_aw_s 8 (pc := 122) rfl ?_
                    refine rx_w_ifn (c := x1 = (6 : Int32)) ⟨fun c32 => ?_, fun c32 => ?_⟩
                    · have k := k.1 c32
                      show rx_aw 223 136 [.ref 90, .int x1, .int (x2 + (1 : Int32)), .int x3] [.int (x2 + (1 : Int32))] (rx_hp L t hi14 hl14 v14) Q
                      refine rx_aw_s 3 (pc := 136) rfl ?_
                      show rx_aw 223 141 [.ref 90, .int x1, .int (x2 + (1 : Int32)), .int x3] [.int x3, .ref 94, .int (x2 + (1 : Int32))] (rx_hp L t hi14 hl14 v14) Q
                      obtain ⟨j33, ej33, hj33, k⟩ := k
                      refine rx_aw_iald (pc := 141) (n := 6) j33 ej33 rfl rfl rfl hj33 (by decide) ?_
                      show rx_aw 223 142 [.ref 90, .int x1, .int (x2 + (1 : Int32)), .int x3] [.int (hi14 94 j33), .int (x2 + (1 : Int32))] (rx_hp L t hi14 hl14 v14) Q
                      refine rx_aw_s 6 (pc := 142) rfl ?_
                      refine rx_w_ifn (c := x1 = (7 : Int32)) ⟨fun c34 => ?_, fun c34 => ?_⟩
                      · have k := k.1 c34
                        show rx_aw 223 154 [.ref 90, .int x1, .int ((x2 + (1 : Int32)) + (hi14 94 j33)), .int x3] [] (rx_hp L t hi14 hl14 v14) Q
                        refine rx_aw_s 3 (pc := 154) rfl ?_
                        show rx_aw 223 159 [.ref 90, .int x1, .int ((x2 + (1 : Int32)) + (hi14 94 j33)), .int x3] [.int x3, .ref 94] (rx_hp L t hi14 hl14 v14) Q
                        obtain ⟨j35, ej35, hj35, k⟩ := k
                        refine rx_aw_iald (pc := 159) (n := 6) j35 ej35 rfl rfl rfl hj35 (by decide) ?_
                        show rx_aw 223 160 [.ref 90, .int x1, .int ((x2 + (1 : Int32)) + (hi14 94 j33)), .int x3] [.int (hi14 94 j35)] (rx_hp L t hi14 hl14 v14) Q
                        refine rx_aw_s 2 (pc := 160) rfl ?_
                        refine rx_w_if (c := (hi14 94 j35) ≤ ((x2 + (1 : Int32)) + (hi14 94 j33))) ⟨fun c36 => ?_, fun c36 => ?_⟩
                        · have k := k.1 c36
                          show rx_aw 223 173 [.ref 90, .int x1, .int ((x2 + (1 : Int32)) + (hi14 94 j33)), .int x3] [] (rx_hp L t hi14 hl14 v14) Q
                          refine rx_aw_s 4 (pc := 173) rfl ?_
                          show rx_aw 223 56 [.ref 90, .int x1, .int ((x2 + (1 : Int32)) + (hi14 94 j33)), .int (x3 + (1 : Int32))] [] (rx_hp L t hi14 hl14 v14) Q
                          exact k
                        · have k := k.2 c36
                          show rx_aw 223 164 [.ref 90, .int x1, .int ((x2 + (1 : Int32)) + (hi14 94 j33)), .int x3] [] (rx_hp L t hi14 hl14 v14) Q
                          refine rx_aw_s 3 (pc := 164) rfl ?_
                          show rx_aw 223 169 [.ref 90, .int x1, .int ((x2 + (1 : Int32)) + (hi14 94 j33)), .int x3] [.int x3, .ref 94] (rx_hp L t hi14 hl14 v14) Q
                          obtain ⟨j37, ej37, hj37, k⟩ := k
                          refine rx_aw_iald (pc := 169) (n := 6) j37 ej37 rfl rfl rfl hj37 (by decide) ?_
                          show rx_aw 223 170 [.ref 90, .int x1, .int ((x2 + (1 : Int32)) + (hi14 94 j33)), .int x3] [.int (hi14 94 j37)] (rx_hp L t hi14 hl14 v14) Q
                          refine rx_aw_s 4 (pc := 170) rfl ?_
                          show rx_aw 223 56 [.ref 90, .int x1, .int (hi14 94 j37), .int (x3 + (1 : Int32))] [] (rx_hp L t hi14 hl14 v14) Q
                          exact k
                      · have k := k.2 c34
                        show rx_aw 223 173 [.ref 90, .int x1, .int ((x2 + (1 : Int32)) + (hi14 94 j33)), .int x3] [] (rx_hp L t hi14 hl14 v14) Q
                        refine rx_aw_s 4 (pc := 173) rfl ?_
                        show rx_aw 223 56 [.ref 90, .int x1, .int ((x2 + (1 : Int32)) + (hi14 94 j33)), .int (x3 + (1 : Int32))] [] (rx_hp L t hi14 hl14 v14) Q
                        exact k
                    · have k := k.2 c32
                      show rx_aw 223 145 [.ref 90, .int x1, .int (x2 + (1 : Int32)), .int x3] [.int (x2 + (1 : Int32))] (rx_hp L t hi14 hl14 v14) Q
                      refine rx_aw_s 6 (pc := 145) rfl ?_
                      refine rx_w_ifn (c := x1 = (7 : Int32)) ⟨fun c38 => ?_, fun c38 => ?_⟩
                      · have k := k.1 c38
                        show rx_aw 223 154 [.ref 90, .int x1, .int ((x2 + (1 : Int32)) + (0 : Int32)), .int x3] [] (rx_hp L t hi14 hl14 v14) Q
                        refine rx_aw_s 3 (pc := 154) rfl ?_
                        show rx_aw 223 159 [.ref 90, .int x1, .int ((x2 + (1 : Int32)) + (0 : Int32)), .int x3] [.int x3, .ref 94] (rx_hp L t hi14 hl14 v14) Q
                        obtain ⟨j39, ej39, hj39, k⟩ := k
                        refine rx_aw_iald (pc := 159) (n := 6) j39 ej39 rfl rfl rfl hj39 (by decide) ?_
                        show rx_aw 223 160 [.ref 90, .int x1, .int ((x2 + (1 : Int32)) + (0 : Int32)), .int x3] [.int (hi14 94 j39)] (rx_hp L t hi14 hl14 v14) Q
                        refine rx_aw_s 2 (pc := 160) rfl ?_
                        refine rx_w_if (c := (hi14 94 j39) ≤ ((x2 + (1 : Int32)) + (0 : Int32))) ⟨fun c40 => ?_, fun c40 => ?_⟩
                        · have k := k.1 c40
                          show rx_aw 223 173 [.ref 90, .int x1, .int ((x2 + (1 : Int32)) + (0 : Int32)), .int x3] [] (rx_hp L t hi14 hl14 v14) Q
                          refine rx_aw_s 4 (pc := 173) rfl ?_
                          show rx_aw 223 56 [.ref 90, .int x1, .int ((x2 + (1 : Int32)) + (0 : Int32)), .int (x3 + (1 : Int32))] [] (rx_hp L t hi14 hl14 v14) Q
                          exact k
                        · have k := k.2 c40
                          show rx_aw 223 164 [.ref 90, .int x1, .int ((x2 + (1 : Int32)) + (0 : Int32)), .int x3] [] (rx_hp L t hi14 hl14 v14) Q
                          refine rx_aw_s 3 (pc := 164) rfl ?_
                          show rx_aw 223 169 [.ref 90, .int x1, .int ((x2 + (1 : Int32)) + (0 : Int32)), .int x3] [.int x3, .ref 94] (rx_hp L t hi14 hl14 v14) Q
                          obtain ⟨j41, ej41, hj41, k⟩ := k
                          refine rx_aw_iald (pc := 169) (n := 6) j41 ej41 rfl rfl rfl hj41 (by decide) ?_
                          show rx_aw 223 170 [.ref 90, .int x1, .int ((x2 + (1 : Int32)) + (0 : Int32)), .int x3] [.int (hi14 94 j41)] (rx_hp L t hi14 hl14 v14) Q
                          refine rx_aw_s 4 (pc := 170) rfl ?_
                          show rx_aw 223 56 [.ref 90, .int x1, .int (hi14 94 j41), .int (x3 + (1 : Int32))] [] (rx_hp L t hi14 hl14 v14) Q
                          exact k
                      · have k := k.2 c38
                        show rx_aw 223 173 [.ref 90, .int x1, .int ((x2 + (1 : Int32)) + (0 : Int32)), .int x3] [] (rx_hp L t hi14 hl14 v14) Q
                        refine rx_aw_s 4 (pc := 173) rfl ?_
                        show rx_aw 223 56 [.ref 90, .int x1, .int ((x2 + (1 : Int32)) + (0 : Int32)), .int (x3 + (1 : Int32))] [] (rx_hp L t hi14 hl14 v14) Q
                        exact k
                  · have k := k.2 c31
                    show rx_aw 223 126 [.ref 90, .int x1, .int x2, .int x3] [.int x2] (rx_hp L t hi14 hl14 v14) Q
                    refine rx_aw_s 7 (pc := 126) rfl ?_
                    refine rx_w_ifn (c := x1 = (6 : Int32)) ⟨fun c42 => ?_, fun c42 => ?_⟩
                    · have k := k.1 c42
                      show rx_aw 223 136 [.ref 90, .int x1, .int (x2 + (0 : Int32)), .int x3] [.int (x2 + (0 : Int32))] (rx_hp L t hi14 hl14 v14) Q
                      refine rx_aw_s 3 (pc := 136) rfl ?_
                      show rx_aw 223 141 [.ref 90, .int x1, .int (x2 + (0 : Int32)), .int x3] [.int x3, .ref 94, .int (x2 + (0 : Int32))] (rx_hp L t hi14 hl14 v14) Q
                      obtain ⟨j43, ej43, hj43, k⟩ := k
                      refine rx_aw_iald (pc := 141) (n := 6) j43 ej43 rfl rfl rfl hj43 (by decide) ?_
                      show rx_aw 223 142 [.ref 90, .int x1, .int (x2 + (0 : Int32)), .int x3] [.int (hi14 94 j43), .int (x2 + (0 : Int32))] (rx_hp L t hi14 hl14 v14) Q
                      refine rx_aw_s 6 (pc := 142) rfl ?_
                      refine rx_w_ifn (c := x1 = (7 : Int32)) ⟨fun c44 => ?_, fun c44 => ?_⟩
                      · have k := k.1 c44
                        show rx_aw 223 154 [.ref 90, .int x1, .int ((x2 + (0 : Int32)) + (hi14 94 j43)), .int x3] [] (rx_hp L t hi14 hl14 v14) Q
                        refine rx_aw_s 3 (pc := 154) rfl ?_
                        show rx_aw 223 159 [.ref 90, .int x1, .int ((x2 + (0 : Int32)) + (hi14 94 j43)), .int x3] [.int x3, .ref 94] (rx_hp L t hi14 hl14 v14) Q
                        obtain ⟨j45, ej45, hj45, k⟩ := k
                        refine rx_aw_iald (pc := 159) (n := 6) j45 ej45 rfl rfl rfl hj45 (by decide) ?_
                        show rx_aw 223 160 [.ref 90, .int x1, .int ((x2 + (0 : Int32)) + (hi14 94 j43)), .int x3] [.int (hi14 94 j45)] (rx_hp L t hi14 hl14 v14) Q
                        refine rx_aw_s 2 (pc := 160) rfl ?_
                        refine rx_w_if (c := (hi14 94 j45) ≤ ((x2 + (0 : Int32)) + (hi14 94 j43))) ⟨fun c46 => ?_, fun c46 => ?_⟩
                        · have k := k.1 c46
                          show rx_aw 223 173 [.ref 90, .int x1, .int ((x2 + (0 : Int32)) + (hi14 94 j43)), .int x3] [] (rx_hp L t hi14 hl14 v14) Q
                          refine rx_aw_s 4 (pc := 173) rfl ?_
                          show rx_aw 223 56 [.ref 90, .int x1, .int ((x2 + (0 : Int32)) + (hi14 94 j43)), .int (x3 + (1 : Int32))] [] (rx_hp L t hi14 hl14 v14) Q
                          exact k
                        · have k := k.2 c46
                          show rx_aw 223 164 [.ref 90, .int x1, .int ((x2 + (0 : Int32)) + (hi14 94 j43)), .int x3] [] (rx_hp L t hi14 hl14 v14) Q
                          refine rx_aw_s 3 (pc := 164) rfl ?_
                          show rx_aw 223 169 [.ref 90, .int x1, .int ((x2 + (0 : Int32)) + (hi14 94 j43)), .int x3] [.int x3, .ref 94] (rx_hp L t hi14 hl14 v14) Q
                          obtain ⟨j47, ej47, hj47, k⟩ := k
                          refine rx_aw_iald (pc := 169) (n := 6) j47 ej47 rfl rfl rfl hj47 (by decide) ?_
                          show rx_aw 223 170 [.ref 90, .int x1, .int ((x2 + (0 : Int32)) + (hi14 94 j43)), .int x3] [.int (hi14 94 j47)] (rx_hp L t hi14 hl14 v14) Q
                          refine rx_aw_s 4 (pc := 170) rfl ?_
                          show rx_aw 223 56 [.ref 90, .int x1, .int (hi14 94 j47), .int (x3 + (1 : Int32))] [] (rx_hp L t hi14 hl14 v14) Q
                          exact k
                      · have k := k.2 c44
                        show rx_aw 223 173 [.ref 90, .int x1, .int ((x2 + (0 : Int32)) + (hi14 94 j43)), .int x3] [] (rx_hp L t hi14 hl14 v14) Q
                        refine rx_aw_s 4 (pc := 173) rfl ?_
                        show rx_aw 223 56 [.ref 90, .int x1, .int ((x2 + (0 : Int32)) + (hi14 94 j43)), .int (x3 + (1 : Int32))] [] (rx_hp L t hi14 hl14 v14) Q
                        exact k
                    · have k := k.2 c42
                      show rx_aw 223 145 [.ref 90, .int x1, .int (x2 + (0 : Int32)), .int x3] [.int (x2 + (0 : Int32))] (rx_hp L t hi14 hl14 v14) Q
                      refine rx_aw_s 6 (pc := 145) rfl ?_
                      refine rx_w_ifn (c := x1 = (7 : Int32)) ⟨fun c48 => ?_, fun c48 => ?_⟩
                      · have k := k.1 c48
                        show rx_aw 223 154 [.ref 90, .int x1, .int ((x2 + (0 : Int32)) + (0 : Int32)), .int x3] [] (rx_hp L t hi14 hl14 v14) Q
                        refine rx_aw_s 3 (pc := 154) rfl ?_
                        show rx_aw 223 159 [.ref 90, .int x1, .int ((x2 + (0 : Int32)) + (0 : Int32)), .int x3] [.int x3, .ref 94] (rx_hp L t hi14 hl14 v14) Q
                        obtain ⟨j49, ej49, hj49, k⟩ := k
                        refine rx_aw_iald (pc := 159) (n := 6) j49 ej49 rfl rfl rfl hj49 (by decide) ?_
                        show rx_aw 223 160 [.ref 90, .int x1, .int ((x2 + (0 : Int32)) + (0 : Int32)), .int x3] [.int (hi14 94 j49)] (rx_hp L t hi14 hl14 v14) Q
                        refine rx_aw_s 2 (pc := 160) rfl ?_
                        refine rx_w_if (c := (hi14 94 j49) ≤ ((x2 + (0 : Int32)) + (0 : Int32))) ⟨fun c50 => ?_, fun c50 => ?_⟩
                        · have k := k.1 c50
                          show rx_aw 223 173 [.ref 90, .int x1, .int ((x2 + (0 : Int32)) + (0 : Int32)), .int x3] [] (rx_hp L t hi14 hl14 v14) Q
                          refine rx_aw_s 4 (pc := 173) rfl ?_
                          show rx_aw 223 56 [.ref 90, .int x1, .int ((x2 + (0 : Int32)) + (0 : Int32)), .int (x3 + (1 : Int32))] [] (rx_hp L t hi14 hl14 v14) Q
                          exact k
                        · have k := k.2 c50
                          show rx_aw 223 164 [.ref 90, .int x1, .int ((x2 + (0 : Int32)) + (0 : Int32)), .int x3] [] (rx_hp L t hi14 hl14 v14) Q
                          refine rx_aw_s 3 (pc := 164) rfl ?_
                          show rx_aw 223 169 [.ref 90, .int x1, .int ((x2 + (0 : Int32)) + (0 : Int32)), .int x3] [.int x3, .ref 94] (rx_hp L t hi14 hl14 v14) Q
                          obtain ⟨j51, ej51, hj51, k⟩ := k
                          refine rx_aw_iald (pc := 169) (n := 6) j51 ej51 rfl rfl rfl hj51 (by decide) ?_
                          show rx_aw 223 170 [.ref 90, .int x1, .int ((x2 + (0 : Int32)) + (0 : Int32)), .int x3] [.int (hi14 94 j51)] (rx_hp L t hi14 hl14 v14) Q
                          refine rx_aw_s 4 (pc := 170) rfl ?_
                          show rx_aw 223 56 [.ref 90, .int x1, .int (hi14 94 j51), .int (x3 + (1 : Int32))] [] (rx_hp L t hi14 hl14 v14) Q
                          exact k
                      · have k := k.2 c48
                        show rx_aw 223 173 [.ref 90, .int x1, .int ((x2 + (0 : Int32)) + (0 : Int32)), .int x3] [] (rx_hp L t hi14 hl14 v14) Q
                        refine rx_aw_s 4 (pc := 173) rfl ?_
                        show rx_aw 223 56 [.ref 90, .int x1, .int ((x2 + (0 : Int32)) + (0 : Int32)), .int (x3 + (1 : Int32))] [] (rx_hp L t hi14 hl14 v14) Q
                        exact k
                · have k := k.2 c29
                  show rx_aw 223 126 [.ref 90, .int x1, .int x2, .int x3] [.int x2] (rx_hp L t hi14 hl14 v14) Q
                  refine rx_aw_s 7 (pc := 126) rfl ?_
                  refine rx_w_ifn (c := x1 = (6 : Int32)) ⟨fun c52 => ?_, fun c52 => ?_⟩
                  · have k := k.1 c52
                    show rx_aw 223 136 [.ref 90, .int x1, .int (x2 + (0 : Int32)), .int x3] [.int (x2 + (0 : Int32))] (rx_hp L t hi14 hl14 v14) Q
                    refine rx_aw_s 3 (pc := 136) rfl ?_
                    show rx_aw 223 141 [.ref 90, .int x1, .int (x2 + (0 : Int32)), .int x3] [.int x3, .ref 94, .int (x2 + (0 : Int32))] (rx_hp L t hi14 hl14 v14) Q
                    obtain ⟨j53, ej53, hj53, k⟩ := k
                    refine rx_aw_iald (pc := 141) (n := 6) j53 ej53 rfl rfl rfl hj53 (by decide) ?_
                    show rx_aw 223 142 [.ref 90, .int x1, .int (x2 + (0 : Int32)), .int x3] [.int (hi14 94 j53), .int (x2 + (0 : Int32))] (rx_hp L t hi14 hl14 v14) Q
                    refine rx_aw_s 6 (pc := 142) rfl ?_
                    refine rx_w_ifn (c := x1 = (7 : Int32)) ⟨fun c54 => ?_, fun c54 => ?_⟩
                    · have k := k.1 c54
                      show rx_aw 223 154 [.ref 90, .int x1, .int ((x2 + (0 : Int32)) + (hi14 94 j53)), .int x3] [] (rx_hp L t hi14 hl14 v14) Q
                      refine rx_aw_s 3 (pc := 154) rfl ?_
                      show rx_aw 223 159 [.ref 90, .int x1, .int ((x2 + (0 : Int32)) + (hi14 94 j53)), .int x3] [.int x3, .ref 94] (rx_hp L t hi14 hl14 v14) Q
                      obtain ⟨j55, ej55, hj55, k⟩ := k
                      refine rx_aw_iald (pc := 159) (n := 6) j55 ej55 rfl rfl rfl hj55 (by decide) ?_
                      show rx_aw 223 160 [.ref 90, .int x1, .int ((x2 + (0 : Int32)) + (hi14 94 j53)), .int x3] [.int (hi14 94 j55)] (rx_hp L t hi14 hl14 v14) Q
                      refine rx_aw_s 2 (pc := 160) rfl ?_
                      refine rx_w_if (c := (hi14 94 j55) ≤ ((x2 + (0 : Int32)) + (hi14 94 j53))) ⟨fun c56 => ?_, fun c56 => ?_⟩
                      · have k := k.1 c56
                        show rx_aw 223 173 [.ref 90, .int x1, .int ((x2 + (0 : Int32)) + (hi14 94 j53)), .int x3] [] (rx_hp L t hi14 hl14 v14) Q
                        refine rx_aw_s 4 (pc := 173) rfl ?_
                        show rx_aw 223 56 [.ref 90, .int x1, .int ((x2 + (0 : Int32)) + (hi14 94 j53)), .int (x3 + (1 : Int32))] [] (rx_hp L t hi14 hl14 v14) Q
                        exact k
                      · have k := k.2 c56
                        show rx_aw 223 164 [.ref 90, .int x1, .int ((x2 + (0 : Int32)) + (hi14 94 j53)), .int x3] [] (rx_hp L t hi14 hl14 v14) Q
                        refine rx_aw_s 3 (pc := 164) rfl ?_
                        show rx_aw 223 169 [.ref 90, .int x1, .int ((x2 + (0 : Int32)) + (hi14 94 j53)), .int x3] [.int x3, .ref 94] (rx_hp L t hi14 hl14 v14) Q
                        obtain ⟨j57, ej57, hj57, k⟩ := k
                        refine rx_aw_iald (pc := 169) (n := 6) j57 ej57 rfl rfl rfl hj57 (by decide) ?_
                        show rx_aw 223 170 [.ref 90, .int x1, .int ((x2 + (0 : Int32)) + (hi14 94 j53)), .int x3] [.int (hi14 94 j57)] (rx_hp L t hi14 hl14 v14) Q
                        refine rx_aw_s 4 (pc := 170) rfl ?_
                        show rx_aw 223 56 [.ref 90, .int x1, .int (hi14 94 j57), .int (x3 + (1 : Int32))] [] (rx_hp L t hi14 hl14 v14) Q
                        exact k
                    · have k := k.2 c54
                      show rx_aw 223 173 [.ref 90, .int x1, .int ((x2 + (0 : Int32)) + (hi14 94 j53)), .int x3] [] (rx_hp L t hi14 hl14 v14) Q
                      refine rx_aw_s 4 (pc := 173) rfl ?_
                      show rx_aw 223 56 [.ref 90, .int x1, .int ((x2 + (0 : Int32)) + (hi14 94 j53)), .int (x3 + (1 : Int32))] [] (rx_hp L t hi14 hl14 v14) Q
                      exact k
                  · have k := k.2 c52
                    show rx_aw 223 145 [.ref 90, .int x1, .int (x2 + (0 : Int32)), .int x3] [.int (x2 + (0 : Int32))] (rx_hp L t hi14 hl14 v14) Q
                    refine rx_aw_s 6 (pc := 145) rfl ?_
                    refine rx_w_ifn (c := x1 = (7 : Int32)) ⟨fun c58 => ?_, fun c58 => ?_⟩
                    · have k := k.1 c58
                      show rx_aw 223 154 [.ref 90, .int x1, .int ((x2 + (0 : Int32)) + (0 : Int32)), .int x3] [] (rx_hp L t hi14 hl14 v14) Q
                      refine rx_aw_s 3 (pc := 154) rfl ?_
                      show rx_aw 223 159 [.ref 90, .int x1, .int ((x2 + (0 : Int32)) + (0 : Int32)), .int x3] [.int x3, .ref 94] (rx_hp L t hi14 hl14 v14) Q
                      obtain ⟨j59, ej59, hj59, k⟩ := k
                      refine rx_aw_iald (pc := 159) (n := 6) j59 ej59 rfl rfl rfl hj59 (by decide) ?_
                      show rx_aw 223 160 [.ref 90, .int x1, .int ((x2 + (0 : Int32)) + (0 : Int32)), .int x3] [.int (hi14 94 j59)] (rx_hp L t hi14 hl14 v14) Q
                      refine rx_aw_s 2 (pc := 160) rfl ?_
                      refine rx_w_if (c := (hi14 94 j59) ≤ ((x2 + (0 : Int32)) + (0 : Int32))) ⟨fun c60 => ?_, fun c60 => ?_⟩
                      · have k := k.1 c60
                        show rx_aw 223 173 [.ref 90, .int x1, .int ((x2 + (0 : Int32)) + (0 : Int32)), .int x3] [] (rx_hp L t hi14 hl14 v14) Q
                        refine rx_aw_s 4 (pc := 173) rfl ?_
                        show rx_aw 223 56 [.ref 90, .int x1, .int ((x2 + (0 : Int32)) + (0 : Int32)), .int (x3 + (1 : Int32))] [] (rx_hp L t hi14 hl14 v14) Q
                        exact k
                      · have k := k.2 c60
                        show rx_aw 223 164 [.ref 90, .int x1, .int ((x2 + (0 : Int32)) + (0 : Int32)), .int x3] [] (rx_hp L t hi14 hl14 v14) Q
                        refine rx_aw_s 3 (pc := 164) rfl ?_
                        show rx_aw 223 169 [.ref 90, .int x1, .int ((x2 + (0 : Int32)) + (0 : Int32)), .int x3] [.int x3, .ref 94] (rx_hp L t hi14 hl14 v14) Q
                        obtain ⟨j61, ej61, hj61, k⟩ := k
                        refine rx_aw_iald (pc := 169) (n := 6) j61 ej61 rfl rfl rfl hj61 (by decide) ?_
                        show rx_aw 223 170 [.ref 90, .int x1, .int ((x2 + (0 : Int32)) + (0 : Int32)), .int x3] [.int (hi14 94 j61)] (rx_hp L t hi14 hl14 v14) Q
                        refine rx_aw_s 4 (pc := 170) rfl ?_
                        show rx_aw 223 56 [.ref 90, .int x1, .int (hi14 94 j61), .int (x3 + (1 : Int32))] [] (rx_hp L t hi14 hl14 v14) Q
                        exact k
                    · have k := k.2 c58
                      show rx_aw 223 173 [.ref 90, .int x1, .int ((x2 + (0 : Int32)) + (0 : Int32)), .int x3] [] (rx_hp L t hi14 hl14 v14) Q
                      refine rx_aw_s 4 (pc := 173) rfl ?_
                      show rx_aw 223 56 [.ref 90, .int x1, .int ((x2 + (0 : Int32)) + (0 : Int32)), .int (x3 + (1 : Int32))] [] (rx_hp L t hi14 hl14 v14) Q
                      exact k
            · have k := k.2 c16
              show rx_aw 223 107 [.ref 90, .int x1, .int x2, .int x3] [.int x2] (rx_hp L t hi14 hl14 v14) Q
              refine rx_aw_s 3 (pc := 107) rfl ?_
              refine rx_w_ifn (c := x1 = (5 : Int32)) ⟨fun c62 => ?_, fun c62 => ?_⟩
              · have k := k.1 c62
                show rx_aw 223 112 [.ref 90, .int x1, .int x2, .int x3] [.int x2] (rx_hp L t hi14 hl14 v14) Q
                refine rx_aw_s 3 (pc := 112) rfl ?_
                show rx_aw 223 117 [.ref 90, .int x1, .int x2, .int x3] [.int x3, .ref 100, .int x2] (rx_hp L t hi14 hl14 v14) Q
                obtain ⟨j63, ej63, hj63, k⟩ := k
                refine rx_aw_iald (pc := 117) (n := 6) j63 ej63 rfl rfl rfl hj63 (by decide) ?_
                show rx_aw 223 118 [.ref 90, .int x1, .int x2, .int x3] [.int (hi14 100 j63), .int x2] (rx_hp L t hi14 hl14 v14) Q
                refine rx_aw_s 2 (pc := 118) rfl ?_
                refine rx_w_ifn (c := (hi14 100 j63) = (2 : Int32)) ⟨fun c64 => ?_, fun c64 => ?_⟩
                · have k := k.1 c64
                  show rx_aw 223 122 [.ref 90, .int x1, .int x2, .int x3] [.int x2] (rx_hp L t hi14 hl14 v14) Q
                  refine rx_aw_s 8 (pc := 122) rfl ?_
                  refine rx_w_ifn (c := x1 = (6 : Int32)) ⟨fun c65 => ?_, fun c65 => ?_⟩
                  · have k := k.1 c65
                    show rx_aw 223 136 [.ref 90, .int x1, .int (x2 + (1 : Int32)), .int x3] [.int (x2 + (1 : Int32))] (rx_hp L t hi14 hl14 v14) Q
                    refine rx_aw_s 3 (pc := 136) rfl ?_
                    show rx_aw 223 141 [.ref 90, .int x1, .int (x2 + (1 : Int32)), .int x3] [.int x3, .ref 94, .int (x2 + (1 : Int32))] (rx_hp L t hi14 hl14 v14) Q
                    obtain ⟨j66, ej66, hj66, k⟩ := k
                    refine rx_aw_iald (pc := 141) (n := 6) j66 ej66 rfl rfl rfl hj66 (by decide) ?_
                    show rx_aw 223 142 [.ref 90, .int x1, .int (x2 + (1 : Int32)), .int x3] [.int (hi14 94 j66), .int (x2 + (1 : Int32))] (rx_hp L t hi14 hl14 v14) Q
                    refine rx_aw_s 6 (pc := 142) rfl ?_
                    refine rx_w_ifn (c := x1 = (7 : Int32)) ⟨fun c67 => ?_, fun c67 => ?_⟩
                    · have k := k.1 c67
                      show rx_aw 223 154 [.ref 90, .int x1, .int ((x2 + (1 : Int32)) + (hi14 94 j66)), .int x3] [] (rx_hp L t hi14 hl14 v14) Q
                      refine rx_aw_s 3 (pc := 154) rfl ?_
                      show rx_aw 223 159 [.ref 90, .int x1, .int ((x2 + (1 : Int32)) + (hi14 94 j66)), .int x3] [.int x3, .ref 94] (rx_hp L t hi14 hl14 v14) Q
                      obtain ⟨j68, ej68, hj68, k⟩ := k
                      refine rx_aw_iald (pc := 159) (n := 6) j68 ej68 rfl rfl rfl hj68 (by decide) ?_
                      show rx_aw 223 160 [.ref 90, .int x1, .int ((x2 + (1 : Int32)) + (hi14 94 j66)), .int x3] [.int (hi14 94 j68)] (rx_hp L t hi14 hl14 v14) Q
                      refine rx_aw_s 2 (pc := 160) rfl ?_
                      refine rx_w_if (c := (hi14 94 j68) ≤ ((x2 + (1 : Int32)) + (hi14 94 j66))) ⟨fun c69 => ?_, fun c69 => ?_⟩
                      · have k := k.1 c69
                        show rx_aw 223 173 [.ref 90, .int x1, .int ((x2 + (1 : Int32)) + (hi14 94 j66)), .int x3] [] (rx_hp L t hi14 hl14 v14) Q
                        refine rx_aw_s 4 (pc := 173) rfl ?_
                        show rx_aw 223 56 [.ref 90, .int x1, .int ((x2 + (1 : Int32)) + (hi14 94 j66)), .int (x3 + (1 : Int32))] [] (rx_hp L t hi14 hl14 v14) Q
                        exact k
                      · have k := k.2 c69
                        show rx_aw 223 164 [.ref 90, .int x1, .int ((x2 + (1 : Int32)) + (hi14 94 j66)), .int x3] [] (rx_hp L t hi14 hl14 v14) Q
                        refine rx_aw_s 3 (pc := 164) rfl ?_
                        show rx_aw 223 169 [.ref 90, .int x1, .int ((x2 + (1 : Int32)) + (hi14 94 j66)), .int x3] [.int x3, .ref 94] (rx_hp L t hi14 hl14 v14) Q
                        obtain ⟨j70, ej70, hj70, k⟩ := k
                        refine rx_aw_iald (pc := 169) (n := 6) j70 ej70 rfl rfl rfl hj70 (by decide) ?_
                        show rx_aw 223 170 [.ref 90, .int x1, .int ((x2 + (1 : Int32)) + (hi14 94 j66)), .int x3] [.int (hi14 94 j70)] (rx_hp L t hi14 hl14 v14) Q
                        refine rx_aw_s 4 (pc := 170) rfl ?_
                        show rx_aw 223 56 [.ref 90, .int x1, .int (hi14 94 j70), .int (x3 + (1 : Int32))] [] (rx_hp L t hi14 hl14 v14) Q
                        exact k
                    · have k := k.2 c67
                      show rx_aw 223 173 [.ref 90, .int x1, .int ((x2 + (1 : Int32)) + (hi14 94 j66)), .int x3] [] (rx_hp L t hi14 hl14 v14) Q
                      refine rx_aw_s 4 (pc := 173) rfl ?_
                      show rx_aw 223 56 [.ref 90, .int x1, .int ((x2 + (1 : Int32)) + (hi14 94 j66)), .int (x3 + (1 : Int32))] [] (rx_hp L t hi14 hl14 v14) Q
                      exact k
                  · have k := k.2 c65
                    show rx_aw 223 145 [.ref 90, .int x1, .int (x2 + (1 : Int32)), .int x3] [.int (x2 + (1 : Int32))] (rx_hp L t hi14 hl14 v14) Q
                    refine rx_aw_s 6 (pc := 145) rfl ?_
                    refine rx_w_ifn (c := x1 = (7 : Int32)) ⟨fun c71 => ?_, fun c71 => ?_⟩
                    · have k := k.1 c71
                      show rx_aw 223 154 [.ref 90, .int x1, .int ((x2 + (1 : Int32)) + (0 : Int32)), .int x3] [] (rx_hp L t hi14 hl14 v14) Q
                      refine rx_aw_s 3 (pc := 154) rfl ?_
                      show rx_aw 223 159 [.ref 90, .int x1, .int ((x2 + (1 : Int32)) + (0 : Int32)), .int x3] [.int x3, .ref 94] (rx_hp L t hi14 hl14 v14) Q
                      obtain ⟨j72, ej72, hj72, k⟩ := k
                      refine rx_aw_iald (pc := 159) (n := 6) j72 ej72 rfl rfl rfl hj72 (by decide) ?_
                      show rx_aw 223 160 [.ref 90, .int x1, .int ((x2 + (1 : Int32)) + (0 : Int32)), .int x3] [.int (hi14 94 j72)] (rx_hp L t hi14 hl14 v14) Q
                      refine rx_aw_s 2 (pc := 160) rfl ?_
                      refine rx_w_if (c := (hi14 94 j72) ≤ ((x2 + (1 : Int32)) + (0 : Int32))) ⟨fun c73 => ?_, fun c73 => ?_⟩
                      · have k := k.1 c73
                        show rx_aw 223 173 [.ref 90, .int x1, .int ((x2 + (1 : Int32)) + (0 : Int32)), .int x3] [] (rx_hp L t hi14 hl14 v14) Q
                        refine rx_aw_s 4 (pc := 173) rfl ?_
                        show rx_aw 223 56 [.ref 90, .int x1, .int ((x2 + (1 : Int32)) + (0 : Int32)), .int (x3 + (1 : Int32))] [] (rx_hp L t hi14 hl14 v14) Q
                        exact k
                      · have k := k.2 c73
                        show rx_aw 223 164 [.ref 90, .int x1, .int ((x2 + (1 : Int32)) + (0 : Int32)), .int x3] [] (rx_hp L t hi14 hl14 v14) Q
                        refine rx_aw_s 3 (pc := 164) rfl ?_
                        show rx_aw 223 169 [.ref 90, .int x1, .int ((x2 + (1 : Int32)) + (0 : Int32)), .int x3] [.int x3, .ref 94] (rx_hp L t hi14 hl14 v14) Q
                        obtain ⟨j74, ej74, hj74, k⟩ := k
                        refine rx_aw_iald (pc := 169) (n := 6) j74 ej74 rfl rfl rfl hj74 (by decide) ?_
                        show rx_aw 223 170 [.ref 90, .int x1, .int ((x2 + (1 : Int32)) + (0 : Int32)), .int x3] [.int (hi14 94 j74)] (rx_hp L t hi14 hl14 v14) Q
                        refine rx_aw_s 4 (pc := 170) rfl ?_
                        show rx_aw 223 56 [.ref 90, .int x1, .int (hi14 94 j74), .int (x3 + (1 : Int32))] [] (rx_hp L t hi14 hl14 v14) Q
                        exact k
                    · have k := k.2 c71
                      show rx_aw 223 173 [.ref 90, .int x1, .int ((x2 + (1 : Int32)) + (0 : Int32)), .int x3] [] (rx_hp L t hi14 hl14 v14) Q
                      refine rx_aw_s 4 (pc := 173) rfl ?_
                      show rx_aw 223 56 [.ref 90, .int x1, .int ((x2 + (1 : Int32)) + (0 : Int32)), .int (x3 + (1 : Int32))] [] (rx_hp L t hi14 hl14 v14) Q
                      exact k
                · have k := k.2 c64
                  show rx_aw 223 126 [.ref 90, .int x1, .int x2, .int x3] [.int x2] (rx_hp L t hi14 hl14 v14) Q
                  refine rx_aw_s 7 (pc := 126) rfl ?_
                  refine rx_w_ifn (c := x1 = (6 : Int32)) ⟨fun c75 => ?_, fun c75 => ?_⟩
                  · have k := k.1 c75
                    show rx_aw 223 136 [.ref 90, .int x1, .int (x2 + (0 : Int32)), .int x3] [.int (x2 + (0 : Int32))] (rx_hp L t hi14 hl14 v14) Q
                    refine rx_aw_s 3 (pc := 136) rfl ?_
                    show rx_aw 223 141 [.ref 90, .int x1, .int (x2 + (0 : Int32)), .int x3] [.int x3, .ref 94, .int (x2 + (0 : Int32))] (rx_hp L t hi14 hl14 v14) Q
                    obtain ⟨j76, ej76, hj76, k⟩ := k
                    refine rx_aw_iald (pc := 141) (n := 6) j76 ej76 rfl rfl rfl hj76 (by decide) ?_
                    show rx_aw 223 142 [.ref 90, .int x1, .int (x2 + (0 : Int32)), .int x3] [.int (hi14 94 j76), .int (x2 + (0 : Int32))] (rx_hp L t hi14 hl14 v14) Q
                    refine rx_aw_s 6 (pc := 142) rfl ?_
                    refine rx_w_ifn (c := x1 = (7 : Int32)) ⟨fun c77 => ?_, fun c77 => ?_⟩
                    · have k := k.1 c77
                      show rx_aw 223 154 [.ref 90, .int x1, .int ((x2 + (0 : Int32)) + (hi14 94 j76)), .int x3] [] (rx_hp L t hi14 hl14 v14) Q
                      refine rx_aw_s 3 (pc := 154) rfl ?_
                      show rx_aw 223 159 [.ref 90, .int x1, .int ((x2 + (0 : Int32)) + (hi14 94 j76)), .int x3] [.int x3, .ref 94] (rx_hp L t hi14 hl14 v14) Q
                      obtain ⟨j78, ej78, hj78, k⟩ := k
                      refine rx_aw_iald (pc := 159) (n := 6) j78 ej78 rfl rfl rfl hj78 (by decide) ?_
                      show rx_aw 223 160 [.ref 90, .int x1, .int ((x2 + (0 : Int32)) + (hi14 94 j76)), .int x3] [.int (hi14 94 j78)] (rx_hp L t hi14 hl14 v14) Q
                      refine rx_aw_s 2 (pc := 160) rfl ?_
                      refine rx_w_if (c := (hi14 94 j78) ≤ ((x2 + (0 : Int32)) + (hi14 94 j76))) ⟨fun c79 => ?_, fun c79 => ?_⟩
                      · have k := k.1 c79
                        show rx_aw 223 173 [.ref 90, .int x1, .int ((x2 + (0 : Int32)) + (hi14 94 j76)), .int x3] [] (rx_hp L t hi14 hl14 v14) Q
                        refine rx_aw_s 4 (pc := 173) rfl ?_
                        show rx_aw 223 56 [.ref 90, .int x1, .int ((x2 + (0 : Int32)) + (hi14 94 j76)), .int (x3 + (1 : Int32))] [] (rx_hp L t hi14 hl14 v14) Q
                        exact k
                      · have k := k.2 c79
                        show rx_aw 223 164 [.ref 90, .int x1, .int ((x2 + (0 : Int32)) + (hi14 94 j76)), .int x3] [] (rx_hp L t hi14 hl14 v14) Q
                        refine rx_aw_s 3 (pc := 164) rfl ?_
                        show rx_aw 223 169 [.ref 90, .int x1, .int ((x2 + (0 : Int32)) + (hi14 94 j76)), .int x3] [.int x3, .ref 94] (rx_hp L t hi14 hl14 v14) Q
                        obtain ⟨j80, ej80, hj80, k⟩ := k
                        refine rx_aw_iald (pc := 169) (n := 6) j80 ej80 rfl rfl rfl hj80 (by decide) ?_
                        show rx_aw 223 170 [.ref 90, .int x1, .int ((x2 + (0 : Int32)) + (hi14 94 j76)), .int x3] [.int (hi14 94 j80)] (rx_hp L t hi14 hl14 v14) Q
                        refine rx_aw_s 4 (pc := 170) rfl ?_
                        show rx_aw 223 56 [.ref 90, .int x1, .int (hi14 94 j80), .int (x3 + (1 : Int32))] [] (rx_hp L t hi14 hl14 v14) Q
                        exact k
                    · have k := k.2 c77
                      show rx_aw 223 173 [.ref 90, .int x1, .int ((x2 + (0 : Int32)) + (hi14 94 j76)), .int x3] [] (rx_hp L t hi14 hl14 v14) Q
                      refine rx_aw_s 4 (pc := 173) rfl ?_
                      show rx_aw 223 56 [.ref 90, .int x1, .int ((x2 + (0 : Int32)) + (hi14 94 j76)), .int (x3 + (1 : Int32))] [] (rx_hp L t hi14 hl14 v14) Q
                      exact k
                  · have k := k.2 c75
                    show rx_aw 223 145 [.ref 90, .int x1, .int (x2 + (0 : Int32)), .int x3] [.int (x2 + (0 : Int32))] (rx_hp L t hi14 hl14 v14) Q
                    refine rx_aw_s 6 (pc := 145) rfl ?_
                    refine rx_w_ifn (c := x1 = (7 : Int32)) ⟨fun c81 => ?_, fun c81 => ?_⟩
                    · have k := k.1 c81
                      show rx_aw 223 154 [.ref 90, .int x1, .int ((x2 + (0 : Int32)) + (0 : Int32)), .int x3] [] (rx_hp L t hi14 hl14 v14) Q
                      refine rx_aw_s 3 (pc := 154) rfl ?_
                      show rx_aw 223 159 [.ref 90, .int x1, .int ((x2 + (0 : Int32)) + (0 : Int32)), .int x3] [.int x3, .ref 94] (rx_hp L t hi14 hl14 v14) Q
                      obtain ⟨j82, ej82, hj82, k⟩ := k
                      refine rx_aw_iald (pc := 159) (n := 6) j82 ej82 rfl rfl rfl hj82 (by decide) ?_
                      show rx_aw 223 160 [.ref 90, .int x1, .int ((x2 + (0 : Int32)) + (0 : Int32)), .int x3] [.int (hi14 94 j82)] (rx_hp L t hi14 hl14 v14) Q
                      refine rx_aw_s 2 (pc := 160) rfl ?_
                      refine rx_w_if (c := (hi14 94 j82) ≤ ((x2 + (0 : Int32)) + (0 : Int32))) ⟨fun c83 => ?_, fun c83 => ?_⟩
                      · have k := k.1 c83
                        show rx_aw 223 173 [.ref 90, .int x1, .int ((x2 + (0 : Int32)) + (0 : Int32)), .int x3] [] (rx_hp L t hi14 hl14 v14) Q
                        refine rx_aw_s 4 (pc := 173) rfl ?_
                        show rx_aw 223 56 [.ref 90, .int x1, .int ((x2 + (0 : Int32)) + (0 : Int32)), .int (x3 + (1 : Int32))] [] (rx_hp L t hi14 hl14 v14) Q
                        exact k
                      · have k := k.2 c83
                        show rx_aw 223 164 [.ref 90, .int x1, .int ((x2 + (0 : Int32)) + (0 : Int32)), .int x3] [] (rx_hp L t hi14 hl14 v14) Q
                        refine rx_aw_s 3 (pc := 164) rfl ?_
                        show rx_aw 223 169 [.ref 90, .int x1, .int ((x2 + (0 : Int32)) + (0 : Int32)), .int x3] [.int x3, .ref 94] (rx_hp L t hi14 hl14 v14) Q
                        obtain ⟨j84, ej84, hj84, k⟩ := k
                        refine rx_aw_iald (pc := 169) (n := 6) j84 ej84 rfl rfl rfl hj84 (by decide) ?_
                        show rx_aw 223 170 [.ref 90, .int x1, .int ((x2 + (0 : Int32)) + (0 : Int32)), .int x3] [.int (hi14 94 j84)] (rx_hp L t hi14 hl14 v14) Q
                        refine rx_aw_s 4 (pc := 170) rfl ?_
                        show rx_aw 223 56 [.ref 90, .int x1, .int (hi14 94 j84), .int (x3 + (1 : Int32))] [] (rx_hp L t hi14 hl14 v14) Q
                        exact k
                    · have k := k.2 c81
                      show rx_aw 223 173 [.ref 90, .int x1, .int ((x2 + (0 : Int32)) + (0 : Int32)), .int x3] [] (rx_hp L t hi14 hl14 v14) Q
                      refine rx_aw_s 4 (pc := 173) rfl ?_
                      show rx_aw 223 56 [.ref 90, .int x1, .int ((x2 + (0 : Int32)) + (0 : Int32)), .int (x3 + (1 : Int32))] [] (rx_hp L t hi14 hl14 v14) Q
                      exact k
              · have k := k.2 c62
                show rx_aw 223 126 [.ref 90, .int x1, .int x2, .int x3] [.int x2] (rx_hp L t hi14 hl14 v14) Q
                refine rx_aw_s 7 (pc := 126) rfl ?_
                refine rx_w_ifn (c := x1 = (6 : Int32)) ⟨fun c85 => ?_, fun c85 => ?_⟩
                · have k := k.1 c85
                  show rx_aw 223 136 [.ref 90, .int x1, .int (x2 + (0 : Int32)), .int x3] [.int (x2 + (0 : Int32))] (rx_hp L t hi14 hl14 v14) Q
                  refine rx_aw_s 3 (pc := 136) rfl ?_
                  show rx_aw 223 141 [.ref 90, .int x1, .int (x2 + (0 : Int32)), .int x3] [.int x3, .ref 94, .int (x2 + (0 : Int32))] (rx_hp L t hi14 hl14 v14) Q
                  obtain ⟨j86, ej86, hj86, k⟩ := k
                  refine rx_aw_iald (pc := 141) (n := 6) j86 ej86 rfl rfl rfl hj86 (by decide) ?_
                  show rx_aw 223 142 [.ref 90, .int x1, .int (x2 + (0 : Int32)), .int x3] [.int (hi14 94 j86), .int (x2 + (0 : Int32))] (rx_hp L t hi14 hl14 v14) Q
                  refine rx_aw_s 6 (pc := 142) rfl ?_
                  refine rx_w_ifn (c := x1 = (7 : Int32)) ⟨fun c87 => ?_, fun c87 => ?_⟩
                  · have k := k.1 c87
                    show rx_aw 223 154 [.ref 90, .int x1, .int ((x2 + (0 : Int32)) + (hi14 94 j86)), .int x3] [] (rx_hp L t hi14 hl14 v14) Q
                    refine rx_aw_s 3 (pc := 154) rfl ?_
                    show rx_aw 223 159 [.ref 90, .int x1, .int ((x2 + (0 : Int32)) + (hi14 94 j86)), .int x3] [.int x3, .ref 94] (rx_hp L t hi14 hl14 v14) Q
                    obtain ⟨j88, ej88, hj88, k⟩ := k
                    refine rx_aw_iald (pc := 159) (n := 6) j88 ej88 rfl rfl rfl hj88 (by decide) ?_
                    show rx_aw 223 160 [.ref 90, .int x1, .int ((x2 + (0 : Int32)) + (hi14 94 j86)), .int x3] [.int (hi14 94 j88)] (rx_hp L t hi14 hl14 v14) Q
                    refine rx_aw_s 2 (pc := 160) rfl ?_
                    refine rx_w_if (c := (hi14 94 j88) ≤ ((x2 + (0 : Int32)) + (hi14 94 j86))) ⟨fun c89 => ?_, fun c89 => ?_⟩
                    · have k := k.1 c89
                      show rx_aw 223 173 [.ref 90, .int x1, .int ((x2 + (0 : Int32)) + (hi14 94 j86)), .int x3] [] (rx_hp L t hi14 hl14 v14) Q
                      refine rx_aw_s 4 (pc := 173) rfl ?_
                      show rx_aw 223 56 [.ref 90, .int x1, .int ((x2 + (0 : Int32)) + (hi14 94 j86)), .int (x3 + (1 : Int32))] [] (rx_hp L t hi14 hl14 v14) Q
                      exact k
                    · have k := k.2 c89
                      show rx_aw 223 164 [.ref 90, .int x1, .int ((x2 + (0 : Int32)) + (hi14 94 j86)), .int x3] [] (rx_hp L t hi14 hl14 v14) Q
                      refine rx_aw_s 3 (pc := 164) rfl ?_
                      show rx_aw 223 169 [.ref 90, .int x1, .int ((x2 + (0 : Int32)) + (hi14 94 j86)), .int x3] [.int x3, .ref 94] (rx_hp L t hi14 hl14 v14) Q
                      obtain ⟨j90, ej90, hj90, k⟩ := k
                      refine rx_aw_iald (pc := 169) (n := 6) j90 ej90 rfl rfl rfl hj90 (by decide) ?_
                      show rx_aw 223 170 [.ref 90, .int x1, .int ((x2 + (0 : Int32)) + (hi14 94 j86)), .int x3] [.int (hi14 94 j90)] (rx_hp L t hi14 hl14 v14) Q
                      refine rx_aw_s 4 (pc := 170) rfl ?_
                      show rx_aw 223 56 [.ref 90, .int x1, .int (hi14 94 j90), .int (x3 + (1 : Int32))] [] (rx_hp L t hi14 hl14 v14) Q
                      exact k
                  · have k := k.2 c87
                    show rx_aw 223 173 [.ref 90, .int x1, .int ((x2 + (0 : Int32)) + (hi14 94 j86)), .int x3] [] (rx_hp L t hi14 hl14 v14) Q
                    refine rx_aw_s 4 (pc := 173) rfl ?_
                    show rx_aw 223 56 [.ref 90, .int x1, .int ((x2 + (0 : Int32)) + (hi14 94 j86)), .int (x3 + (1 : Int32))] [] (rx_hp L t hi14 hl14 v14) Q
                    exact k
                · have k := k.2 c85
                  show rx_aw 223 145 [.ref 90, .int x1, .int (x2 + (0 : Int32)), .int x3] [.int (x2 + (0 : Int32))] (rx_hp L t hi14 hl14 v14) Q
                  refine rx_aw_s 6 (pc := 145) rfl ?_
                  refine rx_w_ifn (c := x1 = (7 : Int32)) ⟨fun c91 => ?_, fun c91 => ?_⟩
                  · have k := k.1 c91
                    show rx_aw 223 154 [.ref 90, .int x1, .int ((x2 + (0 : Int32)) + (0 : Int32)), .int x3] [] (rx_hp L t hi14 hl14 v14) Q
                    refine rx_aw_s 3 (pc := 154) rfl ?_
                    show rx_aw 223 159 [.ref 90, .int x1, .int ((x2 + (0 : Int32)) + (0 : Int32)), .int x3] [.int x3, .ref 94] (rx_hp L t hi14 hl14 v14) Q
                    obtain ⟨j92, ej92, hj92, k⟩ := k
                    refine rx_aw_iald (pc := 159) (n := 6) j92 ej92 rfl rfl rfl hj92 (by decide) ?_
                    show rx_aw 223 160 [.ref 90, .int x1, .int ((x2 + (0 : Int32)) + (0 : Int32)), .int x3] [.int (hi14 94 j92)] (rx_hp L t hi14 hl14 v14) Q
                    refine rx_aw_s 2 (pc := 160) rfl ?_
                    refine rx_w_if (c := (hi14 94 j92) ≤ ((x2 + (0 : Int32)) + (0 : Int32))) ⟨fun c93 => ?_, fun c93 => ?_⟩
                    · have k := k.1 c93
                      show rx_aw 223 173 [.ref 90, .int x1, .int ((x2 + (0 : Int32)) + (0 : Int32)), .int x3] [] (rx_hp L t hi14 hl14 v14) Q
                      refine rx_aw_s 4 (pc := 173) rfl ?_
                      show rx_aw 223 56 [.ref 90, .int x1, .int ((x2 + (0 : Int32)) + (0 : Int32)), .int (x3 + (1 : Int32))] [] (rx_hp L t hi14 hl14 v14) Q
                      exact k
                    · have k := k.2 c93
                      show rx_aw 223 164 [.ref 90, .int x1, .int ((x2 + (0 : Int32)) + (0 : Int32)), .int x3] [] (rx_hp L t hi14 hl14 v14) Q
                      refine rx_aw_s 3 (pc := 164) rfl ?_
                      show rx_aw 223 169 [.ref 90, .int x1, .int ((x2 + (0 : Int32)) + (0 : Int32)), .int x3] [.int x3, .ref 94] (rx_hp L t hi14 hl14 v14) Q
                      obtain ⟨j94, ej94, hj94, k⟩ := k
                      refine rx_aw_iald (pc := 169) (n := 6) j94 ej94 rfl rfl rfl hj94 (by decide) ?_
                      show rx_aw 223 170 [.ref 90, .int x1, .int ((x2 + (0 : Int32)) + (0 : Int32)), .int x3] [.int (hi14 94 j94)] (rx_hp L t hi14 hl14 v14) Q
                      refine rx_aw_s 4 (pc := 170) rfl ?_
                      show rx_aw 223 56 [.ref 90, .int x1, .int (hi14 94 j94), .int (x3 + (1 : Int32))] [] (rx_hp L t hi14 hl14 v14) Q
                      exact k
                  · have k := k.2 c91
                    show rx_aw 223 173 [.ref 90, .int x1, .int ((x2 + (0 : Int32)) + (0 : Int32)), .int x3] [] (rx_hp L t hi14 hl14 v14) Q
                    refine rx_aw_s 4 (pc := 173) rfl ?_
                    show rx_aw 223 56 [.ref 90, .int x1, .int ((x2 + (0 : Int32)) + (0 : Int32)), .int (x3 + (1 : Int32))] [] (rx_hp L t hi14 hl14 v14) Q
                    exact k
          · have k := k.2 c15
            show rx_aw 223 122 [.ref 90, .int x1, .int x2, .int x3] [.int x2] (rx_hp L t hi14 hl14 v14) Q
            refine rx_aw_s 8 (pc := 122) rfl ?_
            refine rx_w_ifn (c := x1 = (6 : Int32)) ⟨fun c95 => ?_, fun c95 => ?_⟩
            · have k := k.1 c95
              show rx_aw 223 136 [.ref 90, .int x1, .int (x2 + (1 : Int32)), .int x3] [.int (x2 + (1 : Int32))] (rx_hp L t hi14 hl14 v14) Q
              refine rx_aw_s 3 (pc := 136) rfl ?_
              show rx_aw 223 141 [.ref 90, .int x1, .int (x2 + (1 : Int32)), .int x3] [.int x3, .ref 94, .int (x2 + (1 : Int32))] (rx_hp L t hi14 hl14 v14) Q
              obtain ⟨j96, ej96, hj96, k⟩ := k
              refine rx_aw_iald (pc := 141) (n := 6) j96 ej96 rfl rfl rfl hj96 (by decide) ?_
              show rx_aw 223 142 [.ref 90, .int x1, .int (x2 + (1 : Int32)), .int x3] [.int (hi14 94 j96), .int (x2 + (1 : Int32))] (rx_hp L t hi14 hl14 v14) Q
              refine rx_aw_s 6 (pc := 142) rfl ?_
              refine rx_w_ifn (c := x1 = (7 : Int32)) ⟨fun c97 => ?_, fun c97 => ?_⟩
              · have k := k.1 c97
                show rx_aw 223 154 [.ref 90, .int x1, .int ((x2 + (1 : Int32)) + (hi14 94 j96)), .int x3] [] (rx_hp L t hi14 hl14 v14) Q
                refine rx_aw_s 3 (pc := 154) rfl ?_
                show rx_aw 223 159 [.ref 90, .int x1, .int ((x2 + (1 : Int32)) + (hi14 94 j96)), .int x3] [.int x3, .ref 94] (rx_hp L t hi14 hl14 v14) Q
                obtain ⟨j98, ej98, hj98, k⟩ := k
                refine rx_aw_iald (pc := 159) (n := 6) j98 ej98 rfl rfl rfl hj98 (by decide) ?_
                show rx_aw 223 160 [.ref 90, .int x1, .int ((x2 + (1 : Int32)) + (hi14 94 j96)), .int x3] [.int (hi14 94 j98)] (rx_hp L t hi14 hl14 v14) Q
                refine rx_aw_s 2 (pc := 160) rfl ?_
                refine rx_w_if (c := (hi14 94 j98) ≤ ((x2 + (1 : Int32)) + (hi14 94 j96))) ⟨fun c99 => ?_, fun c99 => ?_⟩
                · have k := k.1 c99
                  show rx_aw 223 173 [.ref 90, .int x1, .int ((x2 + (1 : Int32)) + (hi14 94 j96)), .int x3] [] (rx_hp L t hi14 hl14 v14) Q
                  refine rx_aw_s 4 (pc := 173) rfl ?_
                  show rx_aw 223 56 [.ref 90, .int x1, .int ((x2 + (1 : Int32)) + (hi14 94 j96)), .int (x3 + (1 : Int32))] [] (rx_hp L t hi14 hl14 v14) Q
                  exact k
                · have k := k.2 c99
                  show rx_aw 223 164 [.ref 90, .int x1, .int ((x2 + (1 : Int32)) + (hi14 94 j96)), .int x3] [] (rx_hp L t hi14 hl14 v14) Q
                  refine rx_aw_s 3 (pc := 164) rfl ?_
                  show rx_aw 223 169 [.ref 90, .int x1, .int ((x2 + (1 : Int32)) + (hi14 94 j96)), .int x3] [.int x3, .ref 94] (rx_hp L t hi14 hl14 v14) Q
                  obtain ⟨j100, ej100, hj100, k⟩ := k
                  refine rx_aw_iald (pc := 169) (n := 6) j100 ej100 rfl rfl rfl hj100 (by decide) ?_
                  show rx_aw 223 170 [.ref 90, .int x1, .int ((x2 + (1 : Int32)) + (hi14 94 j96)), .int x3] [.int (hi14 94 j100)] (rx_hp L t hi14 hl14 v14) Q
                  refine rx_aw_s 4 (pc := 170) rfl ?_
                  show rx_aw 223 56 [.ref 90, .int x1, .int (hi14 94 j100), .int (x3 + (1 : Int32))] [] (rx_hp L t hi14 hl14 v14) Q
                  exact k
              · have k := k.2 c97
                show rx_aw 223 173 [.ref 90, .int x1, .int ((x2 + (1 : Int32)) + (hi14 94 j96)), .int x3] [] (rx_hp L t hi14 hl14 v14) Q
                refine rx_aw_s 4 (pc := 173) rfl ?_
                show rx_aw 223 56 [.ref 90, .int x1, .int ((x2 + (1 : Int32)) + (hi14 94 j96)), .int (x3 + (1 : Int32))] [] (rx_hp L t hi14 hl14 v14) Q
                exact k
            · have k := k.2 c95
              show rx_aw 223 145 [.ref 90, .int x1, .int (x2 + (1 : Int32)), .int x3] [.int (x2 + (1 : Int32))] (rx_hp L t hi14 hl14 v14) Q
              refine rx_aw_s 6 (pc := 145) rfl ?_
              refine rx_w_ifn (c := x1 = (7 : Int32)) ⟨fun c101 => ?_, fun c101 => ?_⟩
              · have k := k.1 c101
                show rx_aw 223 154 [.ref 90, .int x1, .int ((x2 + (1 : Int32)) + (0 : Int32)), .int x3] [] (rx_hp L t hi14 hl14 v14) Q
                refine rx_aw_s 3 (pc := 154) rfl ?_
                show rx_aw 223 159 [.ref 90, .int x1, .int ((x2 + (1 : Int32)) + (0 : Int32)), .int x3] [.int x3, .ref 94] (rx_hp L t hi14 hl14 v14) Q
                obtain ⟨j102, ej102, hj102, k⟩ := k
                refine rx_aw_iald (pc := 159) (n := 6) j102 ej102 rfl rfl rfl hj102 (by decide) ?_
                show rx_aw 223 160 [.ref 90, .int x1, .int ((x2 + (1 : Int32)) + (0 : Int32)), .int x3] [.int (hi14 94 j102)] (rx_hp L t hi14 hl14 v14) Q
                refine rx_aw_s 2 (pc := 160) rfl ?_
                refine rx_w_if (c := (hi14 94 j102) ≤ ((x2 + (1 : Int32)) + (0 : Int32))) ⟨fun c103 => ?_, fun c103 => ?_⟩
                · have k := k.1 c103
                  show rx_aw 223 173 [.ref 90, .int x1, .int ((x2 + (1 : Int32)) + (0 : Int32)), .int x3] [] (rx_hp L t hi14 hl14 v14) Q
                  refine rx_aw_s 4 (pc := 173) rfl ?_
                  show rx_aw 223 56 [.ref 90, .int x1, .int ((x2 + (1 : Int32)) + (0 : Int32)), .int (x3 + (1 : Int32))] [] (rx_hp L t hi14 hl14 v14) Q
                  exact k
                · have k := k.2 c103
                  show rx_aw 223 164 [.ref 90, .int x1, .int ((x2 + (1 : Int32)) + (0 : Int32)), .int x3] [] (rx_hp L t hi14 hl14 v14) Q
                  refine rx_aw_s 3 (pc := 164) rfl ?_
                  show rx_aw 223 169 [.ref 90, .int x1, .int ((x2 + (1 : Int32)) + (0 : Int32)), .int x3] [.int x3, .ref 94] (rx_hp L t hi14 hl14 v14) Q
                  obtain ⟨j104, ej104, hj104, k⟩ := k
                  refine rx_aw_iald (pc := 169) (n := 6) j104 ej104 rfl rfl rfl hj104 (by decide) ?_
                  show rx_aw 223 170 [.ref 90, .int x1, .int ((x2 + (1 : Int32)) + (0 : Int32)), .int x3] [.int (hi14 94 j104)] (rx_hp L t hi14 hl14 v14) Q
                  refine rx_aw_s 4 (pc := 170) rfl ?_
                  show rx_aw 223 56 [.ref 90, .int x1, .int (hi14 94 j104), .int (x3 + (1 : Int32))] [] (rx_hp L t hi14 hl14 v14) Q
                  exact k
              · have k := k.2 c101
                show rx_aw 223 173 [.ref 90, .int x1, .int ((x2 + (1 : Int32)) + (0 : Int32)), .int x3] [] (rx_hp L t hi14 hl14 v14) Q
                refine rx_aw_s 4 (pc := 173) rfl ?_
                show rx_aw 223 56 [.ref 90, .int x1, .int ((x2 + (1 : Int32)) + (0 : Int32)), .int (x3 + (1 : Int32))] [] (rx_hp L t hi14 hl14 v14) Q
                exact k
        · have k := k.2 c13
          show rx_aw 223 92 [.ref 90, .int x1, .int x2, .int x3] [.int x2] (rx_hp L t hi hl v) Q
          refine rx_aw_s 3 (pc := 92) rfl ?_
          refine rx_w_ifn (c := x1 = (4 : Int32)) ⟨fun c105 => ?_, fun c105 => ?_⟩
          · have k := k.1 c105
            show rx_aw 223 97 [.ref 90, .int x1, .int x2, .int x3] [.int x2] (rx_hp L t hi hl v) Q
            refine rx_aw_s 3 (pc := 97) rfl ?_
            show rx_aw 223 102 [.ref 90, .int x1, .int x2, .int x3] [.int x3, .ref 100, .int x2] (rx_hp L t hi hl v) Q
            obtain ⟨j106, ej106, hj106, k⟩ := k
            refine rx_aw_iald (pc := 102) (n := 6) j106 ej106 rfl rfl rfl hj106 (by decide) ?_
            show rx_aw 223 103 [.ref 90, .int x1, .int x2, .int x3] [.int (hi 100 j106), .int x2] (rx_hp L t hi hl v) Q
            refine rx_aw_s 2 (pc := 103) rfl ?_
            refine rx_w_if (c := (hi 100 j106) = (1 : Int32)) ⟨fun c107 => ?_, fun c107 => ?_⟩
            · have k := k.1 c107
              show rx_aw 223 122 [.ref 90, .int x1, .int x2, .int x3] [.int x2] (rx_hp L t hi hl v) Q
              refine rx_aw_s 8 (pc := 122) rfl ?_
              refine rx_w_ifn (c := x1 = (6 : Int32)) ⟨fun c108 => ?_, fun c108 => ?_⟩
              · have k := k.1 c108
                show rx_aw 223 136 [.ref 90, .int x1, .int (x2 + (1 : Int32)), .int x3] [.int (x2 + (1 : Int32))] (rx_hp L t hi hl v) Q
                refine rx_aw_s 3 (pc := 136) rfl ?_
                show rx_aw 223 141 [.ref 90, .int x1, .int (x2 + (1 : Int32)), .int x3] [.int x3, .ref 94, .int (x2 + (1 : Int32))] (rx_hp L t hi hl v) Q
                obtain ⟨j109, ej109, hj109, k⟩ := k
                refine rx_aw_iald (pc := 141) (n := 6) j109 ej109 rfl rfl rfl hj109 (by decide) ?_
                show rx_aw 223 142 [.ref 90, .int x1, .int (x2 + (1 : Int32)), .int x3] [.int (hi 94 j109), .int (x2 + (1 : Int32))] (rx_hp L t hi hl v) Q
                refine rx_aw_s 6 (pc := 142) rfl ?_
                refine rx_w_ifn (c := x1 = (7 : Int32)) ⟨fun c110 => ?_, fun c110 => ?_⟩
                · have k := k.1 c110
                  show rx_aw 223 154 [.ref 90, .int x1, .int ((x2 + (1 : Int32)) + (hi 94 j109)), .int x3] [] (rx_hp L t hi hl v) Q
                  refine rx_aw_s 3 (pc := 154) rfl ?_
                  show rx_aw 223 159 [.ref 90, .int x1, .int ((x2 + (1 : Int32)) + (hi 94 j109)), .int x3] [.int x3, .ref 94] (rx_hp L t hi hl v) Q
                  obtain ⟨j111, ej111, hj111, k⟩ := k
                  refine rx_aw_iald (pc := 159) (n := 6) j111 ej111 rfl rfl rfl hj111 (by decide) ?_
                  show rx_aw 223 160 [.ref 90, .int x1, .int ((x2 + (1 : Int32)) + (hi 94 j109)), .int x3] [.int (hi 94 j111)] (rx_hp L t hi hl v) Q
                  refine rx_aw_s 2 (pc := 160) rfl ?_
                  refine rx_w_if (c := (hi 94 j111) ≤ ((x2 + (1 : Int32)) + (hi 94 j109))) ⟨fun c112 => ?_, fun c112 => ?_⟩
                  · have k := k.1 c112
                    show rx_aw 223 173 [.ref 90, .int x1, .int ((x2 + (1 : Int32)) + (hi 94 j109)), .int x3] [] (rx_hp L t hi hl v) Q
                    refine rx_aw_s 4 (pc := 173) rfl ?_
                    show rx_aw 223 56 [.ref 90, .int x1, .int ((x2 + (1 : Int32)) + (hi 94 j109)), .int (x3 + (1 : Int32))] [] (rx_hp L t hi hl v) Q
                    exact k
                  · have k := k.2 c112
                    show rx_aw 223 164 [.ref 90, .int x1, .int ((x2 + (1 : Int32)) + (hi 94 j109)), .int x3] [] (rx_hp L t hi hl v) Q
                    refine rx_aw_s 3 (pc := 164) rfl ?_
                    show rx_aw 223 169 [.ref 90, .int x1, .int ((x2 + (1 : Int32)) + (hi 94 j109)), .int x3] [.int x3, .ref 94] (rx_hp L t hi hl v) Q
                    obtain ⟨j113, ej113, hj113, k⟩ := k
                    refine rx_aw_iald (pc := 169) (n := 6) j113 ej113 rfl rfl rfl hj113 (by decide) ?_
                    show rx_aw 223 170 [.ref 90, .int x1, .int ((x2 + (1 : Int32)) + (hi 94 j109)), .int x3] [.int (hi 94 j113)] (rx_hp L t hi hl v) Q
                    refine rx_aw_s 4 (pc := 170) rfl ?_
                    show rx_aw 223 56 [.ref 90, .int x1, .int (hi 94 j113), .int (x3 + (1 : Int32))] [] (rx_hp L t hi hl v) Q
                    exact k
                · have k := k.2 c110
                  show rx_aw 223 173 [.ref 90, .int x1, .int ((x2 + (1 : Int32)) + (hi 94 j109)), .int x3] [] (rx_hp L t hi hl v) Q
                  refine rx_aw_s 4 (pc := 173) rfl ?_
                  show rx_aw 223 56 [.ref 90, .int x1, .int ((x2 + (1 : Int32)) + (hi 94 j109)), .int (x3 + (1 : Int32))] [] (rx_hp L t hi hl v) Q
                  exact k
              · have k := k.2 c108
                show rx_aw 223 145 [.ref 90, .int x1, .int (x2 + (1 : Int32)), .int x3] [.int (x2 + (1 : Int32))] (rx_hp L t hi hl v) Q
                refine rx_aw_s 6 (pc := 145) rfl ?_
                refine rx_w_ifn (c := x1 = (7 : Int32)) ⟨fun c114 => ?_, fun c114 => ?_⟩
                · have k := k.1 c114
                  show rx_aw 223 154 [.ref 90, .int x1, .int ((x2 + (1 : Int32)) + (0 : Int32)), .int x3] [] (rx_hp L t hi hl v) Q
                  refine rx_aw_s 3 (pc := 154) rfl ?_
                  show rx_aw 223 159 [.ref 90, .int x1, .int ((x2 + (1 : Int32)) + (0 : Int32)), .int x3] [.int x3, .ref 94] (rx_hp L t hi hl v) Q
                  obtain ⟨j115, ej115, hj115, k⟩ := k
                  refine rx_aw_iald (pc := 159) (n := 6) j115 ej115 rfl rfl rfl hj115 (by decide) ?_
                  show rx_aw 223 160 [.ref 90, .int x1, .int ((x2 + (1 : Int32)) + (0 : Int32)), .int x3] [.int (hi 94 j115)] (rx_hp L t hi hl v) Q
                  refine rx_aw_s 2 (pc := 160) rfl ?_
                  refine rx_w_if (c := (hi 94 j115) ≤ ((x2 + (1 : Int32)) + (0 : Int32))) ⟨fun c116 => ?_, fun c116 => ?_⟩
                  · have k := k.1 c116
                    show rx_aw 223 173 [.ref 90, .int x1, .int ((x2 + (1 : Int32)) + (0 : Int32)), .int x3] [] (rx_hp L t hi hl v) Q
                    refine rx_aw_s 4 (pc := 173) rfl ?_
                    show rx_aw 223 56 [.ref 90, .int x1, .int ((x2 + (1 : Int32)) + (0 : Int32)), .int (x3 + (1 : Int32))] [] (rx_hp L t hi hl v) Q
                    exact k
                  · have k := k.2 c116
                    show rx_aw 223 164 [.ref 90, .int x1, .int ((x2 + (1 : Int32)) + (0 : Int32)), .int x3] [] (rx_hp L t hi hl v) Q
                    refine rx_aw_s 3 (pc := 164) rfl ?_
                    show rx_aw 223 169 [.ref 90, .int x1, .int ((x2 + (1 : Int32)) + (0 : Int32)), .int x3] [.int x3, .ref 94] (rx_hp L t hi hl v) Q
                    obtain ⟨j117, ej117, hj117, k⟩ := k
                    refine rx_aw_iald (pc := 169) (n := 6) j117 ej117 rfl rfl rfl hj117 (by decide) ?_
                    show rx_aw 223 170 [.ref 90, .int x1, .int ((x2 + (1 : Int32)) + (0 : Int32)), .int x3] [.int (hi 94 j117)] (rx_hp L t hi hl v) Q
                    refine rx_aw_s 4 (pc := 170) rfl ?_
                    show rx_aw 223 56 [.ref 90, .int x1, .int (hi 94 j117), .int (x3 + (1 : Int32))] [] (rx_hp L t hi hl v) Q
                    exact k
                · have k := k.2 c114
                  show rx_aw 223 173 [.ref 90, .int x1, .int ((x2 + (1 : Int32)) + (0 : Int32)), .int x3] [] (rx_hp L t hi hl v) Q
                  refine rx_aw_s 4 (pc := 173) rfl ?_
                  show rx_aw 223 56 [.ref 90, .int x1, .int ((x2 + (1 : Int32)) + (0 : Int32)), .int (x3 + (1 : Int32))] [] (rx_hp L t hi hl v) Q
                  exact k
            · have k := k.2 c107
              show rx_aw 223 107 [.ref 90, .int x1, .int x2, .int x3] [.int x2] (rx_hp L t hi hl v) Q
              refine rx_aw_s 3 (pc := 107) rfl ?_
              refine rx_w_ifn (c := x1 = (5 : Int32)) ⟨fun c118 => ?_, fun c118 => ?_⟩
              · have k := k.1 c118
                show rx_aw 223 112 [.ref 90, .int x1, .int x2, .int x3] [.int x2] (rx_hp L t hi hl v) Q
                refine rx_aw_s 3 (pc := 112) rfl ?_
                show rx_aw 223 117 [.ref 90, .int x1, .int x2, .int x3] [.int x3, .ref 100, .int x2] (rx_hp L t hi hl v) Q
                obtain ⟨j119, ej119, hj119, k⟩ := k
                refine rx_aw_iald (pc := 117) (n := 6) j119 ej119 rfl rfl rfl hj119 (by decide) ?_
                show rx_aw 223 118 [.ref 90, .int x1, .int x2, .int x3] [.int (hi 100 j119), .int x2] (rx_hp L t hi hl v) Q
                refine rx_aw_s 2 (pc := 118) rfl ?_
                refine rx_w_ifn (c := (hi 100 j119) = (2 : Int32)) ⟨fun c120 => ?_, fun c120 => ?_⟩
                · have k := k.1 c120
                  show rx_aw 223 122 [.ref 90, .int x1, .int x2, .int x3] [.int x2] (rx_hp L t hi hl v) Q
                  refine rx_aw_s 8 (pc := 122) rfl ?_
                  refine rx_w_ifn (c := x1 = (6 : Int32)) ⟨fun c121 => ?_, fun c121 => ?_⟩
                  · have k := k.1 c121
                    show rx_aw 223 136 [.ref 90, .int x1, .int (x2 + (1 : Int32)), .int x3] [.int (x2 + (1 : Int32))] (rx_hp L t hi hl v) Q
                    refine rx_aw_s 3 (pc := 136) rfl ?_
                    show rx_aw 223 141 [.ref 90, .int x1, .int (x2 + (1 : Int32)), .int x3] [.int x3, .ref 94, .int (x2 + (1 : Int32))] (rx_hp L t hi hl v) Q
                    obtain ⟨j122, ej122, hj122, k⟩ := k
                    refine rx_aw_iald (pc := 141) (n := 6) j122 ej122 rfl rfl rfl hj122 (by decide) ?_
                    show rx_aw 223 142 [.ref 90, .int x1, .int (x2 + (1 : Int32)), .int x3] [.int (hi 94 j122), .int (x2 + (1 : Int32))] (rx_hp L t hi hl v) Q
                    refine rx_aw_s 6 (pc := 142) rfl ?_
                    refine rx_w_ifn (c := x1 = (7 : Int32)) ⟨fun c123 => ?_, fun c123 => ?_⟩
                    · have k := k.1 c123
                      show rx_aw 223 154 [.ref 90, .int x1, .int ((x2 + (1 : Int32)) + (hi 94 j122)), .int x3] [] (rx_hp L t hi hl v) Q
                      refine rx_aw_s 3 (pc := 154) rfl ?_
                      show rx_aw 223 159 [.ref 90, .int x1, .int ((x2 + (1 : Int32)) + (hi 94 j122)), .int x3] [.int x3, .ref 94] (rx_hp L t hi hl v) Q
                      obtain ⟨j124, ej124, hj124, k⟩ := k
                      refine rx_aw_iald (pc := 159) (n := 6) j124 ej124 rfl rfl rfl hj124 (by decide) ?_
                      show rx_aw 223 160 [.ref 90, .int x1, .int ((x2 + (1 : Int32)) + (hi 94 j122)), .int x3] [.int (hi 94 j124)] (rx_hp L t hi hl v) Q
                      refine rx_aw_s 2 (pc := 160) rfl ?_
                      refine rx_w_if (c := (hi 94 j124) ≤ ((x2 + (1 : Int32)) + (hi 94 j122))) ⟨fun c125 => ?_, fun c125 => ?_⟩
                      · have k := k.1 c125
                        show rx_aw 223 173 [.ref 90, .int x1, .int ((x2 + (1 : Int32)) + (hi 94 j122)), .int x3] [] (rx_hp L t hi hl v) Q
                        refine rx_aw_s 4 (pc := 173) rfl ?_
                        show rx_aw 223 56 [.ref 90, .int x1, .int ((x2 + (1 : Int32)) + (hi 94 j122)), .int (x3 + (1 : Int32))] [] (rx_hp L t hi hl v) Q
                        exact k
                      · have k := k.2 c125
                        show rx_aw 223 164 [.ref 90, .int x1, .int ((x2 + (1 : Int32)) + (hi 94 j122)), .int x3] [] (rx_hp L t hi hl v) Q
                        refine rx_aw_s 3 (pc := 164) rfl ?_
                        show rx_aw 223 169 [.ref 90, .int x1, .int ((x2 + (1 : Int32)) + (hi 94 j122)), .int x3] [.int x3, .ref 94] (rx_hp L t hi hl v) Q
                        obtain ⟨j126, ej126, hj126, k⟩ := k
                        refine rx_aw_iald (pc := 169) (n := 6) j126 ej126 rfl rfl rfl hj126 (by decide) ?_
                        show rx_aw 223 170 [.ref 90, .int x1, .int ((x2 + (1 : Int32)) + (hi 94 j122)), .int x3] [.int (hi 94 j126)] (rx_hp L t hi hl v) Q
                        refine rx_aw_s 4 (pc := 170) rfl ?_
                        show rx_aw 223 56 [.ref 90, .int x1, .int (hi 94 j126), .int (x3 + (1 : Int32))] [] (rx_hp L t hi hl v) Q
                        exact k
                    · have k := k.2 c123
                      show rx_aw 223 173 [.ref 90, .int x1, .int ((x2 + (1 : Int32)) + (hi 94 j122)), .int x3] [] (rx_hp L t hi hl v) Q
                      refine rx_aw_s 4 (pc := 173) rfl ?_
                      show rx_aw 223 56 [.ref 90, .int x1, .int ((x2 + (1 : Int32)) + (hi 94 j122)), .int (x3 + (1 : Int32))] [] (rx_hp L t hi hl v) Q
                      exact k
                  · have k := k.2 c121
                    show rx_aw 223 145 [.ref 90, .int x1, .int (x2 + (1 : Int32)), .int x3] [.int (x2 + (1 : Int32))] (rx_hp L t hi hl v) Q
                    refine rx_aw_s 6 (pc := 145) rfl ?_
                    refine rx_w_ifn (c := x1 = (7 : Int32)) ⟨fun c127 => ?_, fun c127 => ?_⟩
                    · have k := k.1 c127
                      show rx_aw 223 154 [.ref 90, .int x1, .int ((x2 + (1 : Int32)) + (0 : Int32)), .int x3] [] (rx_hp L t hi hl v) Q
                      refine rx_aw_s 3 (pc := 154) rfl ?_
                      show rx_aw 223 159 [.ref 90, .int x1, .int ((x2 + (1 : Int32)) + (0 : Int32)), .int x3] [.int x3, .ref 94] (rx_hp L t hi hl v) Q
                      obtain ⟨j128, ej128, hj128, k⟩ := k
                      refine rx_aw_iald (pc := 159) (n := 6) j128 ej128 rfl rfl rfl hj128 (by decide) ?_
                      show rx_aw 223 160 [.ref 90, .int x1, .int ((x2 + (1 : Int32)) + (0 : Int32)), .int x3] [.int (hi 94 j128)] (rx_hp L t hi hl v) Q
                      refine rx_aw_s 2 (pc := 160) rfl ?_
                      refine rx_w_if (c := (hi 94 j128) ≤ ((x2 + (1 : Int32)) + (0 : Int32))) ⟨fun c129 => ?_, fun c129 => ?_⟩
                      · have k := k.1 c129
                        show rx_aw 223 173 [.ref 90, .int x1, .int ((x2 + (1 : Int32)) + (0 : Int32)), .int x3] [] (rx_hp L t hi hl v) Q
                        refine rx_aw_s 4 (pc := 173) rfl ?_
                        show rx_aw 223 56 [.ref 90, .int x1, .int ((x2 + (1 : Int32)) + (0 : Int32)), .int (x3 + (1 : Int32))] [] (rx_hp L t hi hl v) Q
                        exact k
                      · have k := k.2 c129
                        show rx_aw 223 164 [.ref 90, .int x1, .int ((x2 + (1 : Int32)) + (0 : Int32)), .int x3] [] (rx_hp L t hi hl v) Q
                        refine rx_aw_s 3 (pc := 164) rfl ?_
                        show rx_aw 223 169 [.ref 90, .int x1, .int ((x2 + (1 : Int32)) + (0 : Int32)), .int x3] [.int x3, .ref 94] (rx_hp L t hi hl v) Q
                        obtain ⟨j130, ej130, hj130, k⟩ := k
                        refine rx_aw_iald (pc := 169) (n := 6) j130 ej130 rfl rfl rfl hj130 (by decide) ?_
                        show rx_aw 223 170 [.ref 90, .int x1, .int ((x2 + (1 : Int32)) + (0 : Int32)), .int x3] [.int (hi 94 j130)] (rx_hp L t hi hl v) Q
                        refine rx_aw_s 4 (pc := 170) rfl ?_
                        show rx_aw 223 56 [.ref 90, .int x1, .int (hi 94 j130), .int (x3 + (1 : Int32))] [] (rx_hp L t hi hl v) Q
                        exact k
                    · have k := k.2 c127
                      show rx_aw 223 173 [.ref 90, .int x1, .int ((x2 + (1 : Int32)) + (0 : Int32)), .int x3] [] (rx_hp L t hi hl v) Q
                      refine rx_aw_s 4 (pc := 173) rfl ?_
                      show rx_aw 223 56 [.ref 90, .int x1, .int ((x2 + (1 : Int32)) + (0 : Int32)), .int (x3 + (1 : Int32))] [] (rx_hp L t hi hl v) Q
                      exact k
                · have k := k.2 c120
                  show rx_aw 223 126 [.ref 90, .int x1, .int x2, .int x3] [.int x2] (rx_hp L t hi hl v) Q
                  refine rx_aw_s 7 (pc := 126) rfl ?_
                  refine rx_w_ifn (c := x1 = (6 : Int32)) ⟨fun c131 => ?_, fun c131 => ?_⟩
                  · have k := k.1 c131
                    show rx_aw 223 136 [.ref 90, .int x1, .int (x2 + (0 : Int32)), .int x3] [.int (x2 + (0 : Int32))] (rx_hp L t hi hl v) Q
                    refine rx_aw_s 3 (pc := 136) rfl ?_
                    show rx_aw 223 141 [.ref 90, .int x1, .int (x2 + (0 : Int32)), .int x3] [.int x3, .ref 94, .int (x2 + (0 : Int32))] (rx_hp L t hi hl v) Q
                    obtain ⟨j132, ej132, hj132, k⟩ := k
                    refine rx_aw_iald (pc := 141) (n := 6) j132 ej132 rfl rfl rfl hj132 (by decide) ?_
                    show rx_aw 223 142 [.ref 90, .int x1, .int (x2 + (0 : Int32)), .int x3] [.int (hi 94 j132), .int (x2 + (0 : Int32))] (rx_hp L t hi hl v) Q
                    refine rx_aw_s 6 (pc := 142) rfl ?_
                    refine rx_w_ifn (c := x1 = (7 : Int32)) ⟨fun c133 => ?_, fun c133 => ?_⟩
                    · have k := k.1 c133
                      show rx_aw 223 154 [.ref 90, .int x1, .int ((x2 + (0 : Int32)) + (hi 94 j132)), .int x3] [] (rx_hp L t hi hl v) Q
                      refine rx_aw_s 3 (pc := 154) rfl ?_
                      show rx_aw 223 159 [.ref 90, .int x1, .int ((x2 + (0 : Int32)) + (hi 94 j132)), .int x3] [.int x3, .ref 94] (rx_hp L t hi hl v) Q
                      obtain ⟨j134, ej134, hj134, k⟩ := k
                      refine rx_aw_iald (pc := 159) (n := 6) j134 ej134 rfl rfl rfl hj134 (by decide) ?_
                      show rx_aw 223 160 [.ref 90, .int x1, .int ((x2 + (0 : Int32)) + (hi 94 j132)), .int x3] [.int (hi 94 j134)] (rx_hp L t hi hl v) Q
                      refine rx_aw_s 2 (pc := 160) rfl ?_
                      refine rx_w_if (c := (hi 94 j134) ≤ ((x2 + (0 : Int32)) + (hi 94 j132))) ⟨fun c135 => ?_, fun c135 => ?_⟩
                      · have k := k.1 c135
                        show rx_aw 223 173 [.ref 90, .int x1, .int ((x2 + (0 : Int32)) + (hi 94 j132)), .int x3] [] (rx_hp L t hi hl v) Q
                        refine rx_aw_s 4 (pc := 173) rfl ?_
                        show rx_aw 223 56 [.ref 90, .int x1, .int ((x2 + (0 : Int32)) + (hi 94 j132)), .int (x3 + (1 : Int32))] [] (rx_hp L t hi hl v) Q
                        exact k
                      · have k := k.2 c135
                        show rx_aw 223 164 [.ref 90, .int x1, .int ((x2 + (0 : Int32)) + (hi 94 j132)), .int x3] [] (rx_hp L t hi hl v) Q
                        refine rx_aw_s 3 (pc := 164) rfl ?_
                        show rx_aw 223 169 [.ref 90, .int x1, .int ((x2 + (0 : Int32)) + (hi 94 j132)), .int x3] [.int x3, .ref 94] (rx_hp L t hi hl v) Q
                        obtain ⟨j136, ej136, hj136, k⟩ := k
                        refine rx_aw_iald (pc := 169) (n := 6) j136 ej136 rfl rfl rfl hj136 (by decide) ?_
                        show rx_aw 223 170 [.ref 90, .int x1, .int ((x2 + (0 : Int32)) + (hi 94 j132)), .int x3] [.int (hi 94 j136)] (rx_hp L t hi hl v) Q
                        refine rx_aw_s 4 (pc := 170) rfl ?_
                        show rx_aw 223 56 [.ref 90, .int x1, .int (hi 94 j136), .int (x3 + (1 : Int32))] [] (rx_hp L t hi hl v) Q
                        exact k
                    · have k := k.2 c133
                      show rx_aw 223 173 [.ref 90, .int x1, .int ((x2 + (0 : Int32)) + (hi 94 j132)), .int x3] [] (rx_hp L t hi hl v) Q
                      refine rx_aw_s 4 (pc := 173) rfl ?_
                      show rx_aw 223 56 [.ref 90, .int x1, .int ((x2 + (0 : Int32)) + (hi 94 j132)), .int (x3 + (1 : Int32))] [] (rx_hp L t hi hl v) Q
                      exact k
                  · have k := k.2 c131
                    show rx_aw 223 145 [.ref 90, .int x1, .int (x2 + (0 : Int32)), .int x3] [.int (x2 + (0 : Int32))] (rx_hp L t hi hl v) Q
                    refine rx_aw_s 6 (pc := 145) rfl ?_
                    refine rx_w_ifn (c := x1 = (7 : Int32)) ⟨fun c137 => ?_, fun c137 => ?_⟩
                    · have k := k.1 c137
                      show rx_aw 223 154 [.ref 90, .int x1, .int ((x2 + (0 : Int32)) + (0 : Int32)), .int x3] [] (rx_hp L t hi hl v) Q
                      refine rx_aw_s 3 (pc := 154) rfl ?_
                      show rx_aw 223 159 [.ref 90, .int x1, .int ((x2 + (0 : Int32)) + (0 : Int32)), .int x3] [.int x3, .ref 94] (rx_hp L t hi hl v) Q
                      obtain ⟨j138, ej138, hj138, k⟩ := k
                      refine rx_aw_iald (pc := 159) (n := 6) j138 ej138 rfl rfl rfl hj138 (by decide) ?_
                      show rx_aw 223 160 [.ref 90, .int x1, .int ((x2 + (0 : Int32)) + (0 : Int32)), .int x3] [.int (hi 94 j138)] (rx_hp L t hi hl v) Q
                      refine rx_aw_s 2 (pc := 160) rfl ?_
                      refine rx_w_if (c := (hi 94 j138) ≤ ((x2 + (0 : Int32)) + (0 : Int32))) ⟨fun c139 => ?_, fun c139 => ?_⟩
                      · have k := k.1 c139
                        show rx_aw 223 173 [.ref 90, .int x1, .int ((x2 + (0 : Int32)) + (0 : Int32)), .int x3] [] (rx_hp L t hi hl v) Q
                        refine rx_aw_s 4 (pc := 173) rfl ?_
                        show rx_aw 223 56 [.ref 90, .int x1, .int ((x2 + (0 : Int32)) + (0 : Int32)), .int (x3 + (1 : Int32))] [] (rx_hp L t hi hl v) Q
                        exact k
                      · have k := k.2 c139
                        show rx_aw 223 164 [.ref 90, .int x1, .int ((x2 + (0 : Int32)) + (0 : Int32)), .int x3] [] (rx_hp L t hi hl v) Q
                        refine rx_aw_s 3 (pc := 164) rfl ?_
                        show rx_aw 223 169 [.ref 90, .int x1, .int ((x2 + (0 : Int32)) + (0 : Int32)), .int x3] [.int x3, .ref 94] (rx_hp L t hi hl v) Q
                        obtain ⟨j140, ej140, hj140, k⟩ := k
                        refine rx_aw_iald (pc := 169) (n := 6) j140 ej140 rfl rfl rfl hj140 (by decide) ?_
                        show rx_aw 223 170 [.ref 90, .int x1, .int ((x2 + (0 : Int32)) + (0 : Int32)), .int x3] [.int (hi 94 j140)] (rx_hp L t hi hl v) Q
                        refine rx_aw_s 4 (pc := 170) rfl ?_
                        show rx_aw 223 56 [.ref 90, .int x1, .int (hi 94 j140), .int (x3 + (1 : Int32))] [] (rx_hp L t hi hl v) Q
                        exact k
                    · have k := k.2 c137
                      show rx_aw 223 173 [.ref 90, .int x1, .int ((x2 + (0 : Int32)) + (0 : Int32)), .int x3] [] (rx_hp L t hi hl v) Q
                      refine rx_aw_s 4 (pc := 173) rfl ?_
                      show rx_aw 223 56 [.ref 90, .int x1, .int ((x2 + (0 : Int32)) + (0 : Int32)), .int (x3 + (1 : Int32))] [] (rx_hp L t hi hl v) Q
                      exact k
              · have k := k.2 c118
                show rx_aw 223 126 [.ref 90, .int x1, .int x2, .int x3] [.int x2] (rx_hp L t hi hl v) Q
                refine rx_aw_s 7 (pc := 126) rfl ?_
                refine rx_w_ifn (c := x1 = (6 : Int32)) ⟨fun c141 => ?_, fun c141 => ?_⟩
                · have k := k.1 c141
                  show rx_aw 223 136 [.ref 90, .int x1, .int (x2 + (0 : Int32)), .int x3] [.int (x2 + (0 : Int32))] (rx_hp L t hi hl v) Q
                  refine rx_aw_s 3 (pc := 136) rfl ?_
                  show rx_aw 223 141 [.ref 90, .int x1, .int (x2 + (0 : Int32)), .int x3] [.int x3, .ref 94, .int (x2 + (0 : Int32))] (rx_hp L t hi hl v) Q
                  obtain ⟨j142, ej142, hj142, k⟩ := k
                  refine rx_aw_iald (pc := 141) (n := 6) j142 ej142 rfl rfl rfl hj142 (by decide) ?_
                  show rx_aw 223 142 [.ref 90, .int x1, .int (x2 + (0 : Int32)), .int x3] [.int (hi 94 j142), .int (x2 + (0 : Int32))] (rx_hp L t hi hl v) Q
                  refine rx_aw_s 6 (pc := 142) rfl ?_
                  refine rx_w_ifn (c := x1 = (7 : Int32)) ⟨fun c143 => ?_, fun c143 => ?_⟩
                  · have k := k.1 c143
                    show rx_aw 223 154 [.ref 90, .int x1, .int ((x2 + (0 : Int32)) + (hi 94 j142)), .int x3] [] (rx_hp L t hi hl v) Q
                    refine rx_aw_s 3 (pc := 154) rfl ?_
                    show rx_aw 223 159 [.ref 90, .int x1, .int ((x2 + (0 : Int32)) + (hi 94 j142)), .int x3] [.int x3, .ref 94] (rx_hp L t hi hl v) Q
                    obtain ⟨j144, ej144, hj144, k⟩ := k
                    refine rx_aw_iald (pc := 159) (n := 6) j144 ej144 rfl rfl rfl hj144 (by decide) ?_
                    show rx_aw 223 160 [.ref 90, .int x1, .int ((x2 + (0 : Int32)) + (hi 94 j142)), .int x3] [.int (hi 94 j144)] (rx_hp L t hi hl v) Q
                    refine rx_aw_s 2 (pc := 160) rfl ?_
                    refine rx_w_if (c := (hi 94 j144) ≤ ((x2 + (0 : Int32)) + (hi 94 j142))) ⟨fun c145 => ?_, fun c145 => ?_⟩
                    · have k := k.1 c145
                      show rx_aw 223 173 [.ref 90, .int x1, .int ((x2 + (0 : Int32)) + (hi 94 j142)), .int x3] [] (rx_hp L t hi hl v) Q
                      refine rx_aw_s 4 (pc := 173) rfl ?_
                      show rx_aw 223 56 [.ref 90, .int x1, .int ((x2 + (0 : Int32)) + (hi 94 j142)), .int (x3 + (1 : Int32))] [] (rx_hp L t hi hl v) Q
                      exact k
                    · have k := k.2 c145
                      show rx_aw 223 164 [.ref 90, .int x1, .int ((x2 + (0 : Int32)) + (hi 94 j142)), .int x3] [] (rx_hp L t hi hl v) Q
                      refine rx_aw_s 3 (pc := 164) rfl ?_
                      show rx_aw 223 169 [.ref 90, .int x1, .int ((x2 + (0 : Int32)) + (hi 94 j142)), .int x3] [.int x3, .ref 94] (rx_hp L t hi hl v) Q
                      obtain ⟨j146, ej146, hj146, k⟩ := k
                      refine rx_aw_iald (pc := 169) (n := 6) j146 ej146 rfl rfl rfl hj146 (by decide) ?_
                      show rx_aw 223 170 [.ref 90, .int x1, .int ((x2 + (0 : Int32)) + (hi 94 j142)), .int x3] [.int (hi 94 j146)] (rx_hp L t hi hl v) Q
                      refine rx_aw_s 4 (pc := 170) rfl ?_
                      show rx_aw 223 56 [.ref 90, .int x1, .int (hi 94 j146), .int (x3 + (1 : Int32))] [] (rx_hp L t hi hl v) Q
                      exact k
                  · have k := k.2 c143
                    show rx_aw 223 173 [.ref 90, .int x1, .int ((x2 + (0 : Int32)) + (hi 94 j142)), .int x3] [] (rx_hp L t hi hl v) Q
                    refine rx_aw_s 4 (pc := 173) rfl ?_
                    show rx_aw 223 56 [.ref 90, .int x1, .int ((x2 + (0 : Int32)) + (hi 94 j142)), .int (x3 + (1 : Int32))] [] (rx_hp L t hi hl v) Q
                    exact k
                · have k := k.2 c141
                  show rx_aw 223 145 [.ref 90, .int x1, .int (x2 + (0 : Int32)), .int x3] [.int (x2 + (0 : Int32))] (rx_hp L t hi hl v) Q
                  refine rx_aw_s 6 (pc := 145) rfl ?_
                  refine rx_w_ifn (c := x1 = (7 : Int32)) ⟨fun c147 => ?_, fun c147 => ?_⟩
                  · have k := k.1 c147
                    show rx_aw 223 154 [.ref 90, .int x1, .int ((x2 + (0 : Int32)) + (0 : Int32)), .int x3] [] (rx_hp L t hi hl v) Q
                    refine rx_aw_s 3 (pc := 154) rfl ?_
                    show rx_aw 223 159 [.ref 90, .int x1, .int ((x2 + (0 : Int32)) + (0 : Int32)), .int x3] [.int x3, .ref 94] (rx_hp L t hi hl v) Q
                    obtain ⟨j148, ej148, hj148, k⟩ := k
                    refine rx_aw_iald (pc := 159) (n := 6) j148 ej148 rfl rfl rfl hj148 (by decide) ?_
                    show rx_aw 223 160 [.ref 90, .int x1, .int ((x2 + (0 : Int32)) + (0 : Int32)), .int x3] [.int (hi 94 j148)] (rx_hp L t hi hl v) Q
                    refine rx_aw_s 2 (pc := 160) rfl ?_
                    refine rx_w_if (c := (hi 94 j148) ≤ ((x2 + (0 : Int32)) + (0 : Int32))) ⟨fun c149 => ?_, fun c149 => ?_⟩
                    · have k := k.1 c149
                      show rx_aw 223 173 [.ref 90, .int x1, .int ((x2 + (0 : Int32)) + (0 : Int32)), .int x3] [] (rx_hp L t hi hl v) Q
                      refine rx_aw_s 4 (pc := 173) rfl ?_
                      show rx_aw 223 56 [.ref 90, .int x1, .int ((x2 + (0 : Int32)) + (0 : Int32)), .int (x3 + (1 : Int32))] [] (rx_hp L t hi hl v) Q
                      exact k
                    · have k := k.2 c149
                      show rx_aw 223 164 [.ref 90, .int x1, .int ((x2 + (0 : Int32)) + (0 : Int32)), .int x3] [] (rx_hp L t hi hl v) Q
                      refine rx_aw_s 3 (pc := 164) rfl ?_
                      show rx_aw 223 169 [.ref 90, .int x1, .int ((x2 + (0 : Int32)) + (0 : Int32)), .int x3] [.int x3, .ref 94] (rx_hp L t hi hl v) Q
                      obtain ⟨j150, ej150, hj150, k⟩ := k
                      refine rx_aw_iald (pc := 169) (n := 6) j150 ej150 rfl rfl rfl hj150 (by decide) ?_
                      show rx_aw 223 170 [.ref 90, .int x1, .int ((x2 + (0 : Int32)) + (0 : Int32)), .int x3] [.int (hi 94 j150)] (rx_hp L t hi hl v) Q
                      refine rx_aw_s 4 (pc := 170) rfl ?_
                      show rx_aw 223 56 [.ref 90, .int x1, .int (hi 94 j150), .int (x3 + (1 : Int32))] [] (rx_hp L t hi hl v) Q
                      exact k
                  · have k := k.2 c147
                    show rx_aw 223 173 [.ref 90, .int x1, .int ((x2 + (0 : Int32)) + (0 : Int32)), .int x3] [] (rx_hp L t hi hl v) Q
                    refine rx_aw_s 4 (pc := 173) rfl ?_
                    show rx_aw 223 56 [.ref 90, .int x1, .int ((x2 + (0 : Int32)) + (0 : Int32)), .int (x3 + (1 : Int32))] [] (rx_hp L t hi hl v) Q
                    exact k
          · have k := k.2 c105
            show rx_aw 223 107 [.ref 90, .int x1, .int x2, .int x3] [.int x2] (rx_hp L t hi hl v) Q
            refine rx_aw_s 3 (pc := 107) rfl ?_
            refine rx_w_ifn (c := x1 = (5 : Int32)) ⟨fun c151 => ?_, fun c151 => ?_⟩
            · have k := k.1 c151
              show rx_aw 223 112 [.ref 90, .int x1, .int x2, .int x3] [.int x2] (rx_hp L t hi hl v) Q
              refine rx_aw_s 3 (pc := 112) rfl ?_
              show rx_aw 223 117 [.ref 90, .int x1, .int x2, .int x3] [.int x3, .ref 100, .int x2] (rx_hp L t hi hl v) Q
              obtain ⟨j152, ej152, hj152, k⟩ := k
              refine rx_aw_iald (pc := 117) (n := 6) j152 ej152 rfl rfl rfl hj152 (by decide) ?_
              show rx_aw 223 118 [.ref 90, .int x1, .int x2, .int x3] [.int (hi 100 j152), .int x2] (rx_hp L t hi hl v) Q
              refine rx_aw_s 2 (pc := 118) rfl ?_
              refine rx_w_ifn (c := (hi 100 j152) = (2 : Int32)) ⟨fun c153 => ?_, fun c153 => ?_⟩
              · have k := k.1 c153
                show rx_aw 223 122 [.ref 90, .int x1, .int x2, .int x3] [.int x2] (rx_hp L t hi hl v) Q
                refine rx_aw_s 8 (pc := 122) rfl ?_
                refine rx_w_ifn (c := x1 = (6 : Int32)) ⟨fun c154 => ?_, fun c154 => ?_⟩
                · have k := k.1 c154
                  show rx_aw 223 136 [.ref 90, .int x1, .int (x2 + (1 : Int32)), .int x3] [.int (x2 + (1 : Int32))] (rx_hp L t hi hl v) Q
                  refine rx_aw_s 3 (pc := 136) rfl ?_
                  show rx_aw 223 141 [.ref 90, .int x1, .int (x2 + (1 : Int32)), .int x3] [.int x3, .ref 94, .int (x2 + (1 : Int32))] (rx_hp L t hi hl v) Q
                  obtain ⟨j155, ej155, hj155, k⟩ := k
                  refine rx_aw_iald (pc := 141) (n := 6) j155 ej155 rfl rfl rfl hj155 (by decide) ?_
                  show rx_aw 223 142 [.ref 90, .int x1, .int (x2 + (1 : Int32)), .int x3] [.int (hi 94 j155), .int (x2 + (1 : Int32))] (rx_hp L t hi hl v) Q
                  refine rx_aw_s 6 (pc := 142) rfl ?_
                  refine rx_w_ifn (c := x1 = (7 : Int32)) ⟨fun c156 => ?_, fun c156 => ?_⟩
                  · have k := k.1 c156
                    show rx_aw 223 154 [.ref 90, .int x1, .int ((x2 + (1 : Int32)) + (hi 94 j155)), .int x3] [] (rx_hp L t hi hl v) Q
                    refine rx_aw_s 3 (pc := 154) rfl ?_
                    show rx_aw 223 159 [.ref 90, .int x1, .int ((x2 + (1 : Int32)) + (hi 94 j155)), .int x3] [.int x3, .ref 94] (rx_hp L t hi hl v) Q
                    obtain ⟨j157, ej157, hj157, k⟩ := k
                    refine rx_aw_iald (pc := 159) (n := 6) j157 ej157 rfl rfl rfl hj157 (by decide) ?_
                    show rx_aw 223 160 [.ref 90, .int x1, .int ((x2 + (1 : Int32)) + (hi 94 j155)), .int x3] [.int (hi 94 j157)] (rx_hp L t hi hl v) Q
                    refine rx_aw_s 2 (pc := 160) rfl ?_
                    refine rx_w_if (c := (hi 94 j157) ≤ ((x2 + (1 : Int32)) + (hi 94 j155))) ⟨fun c158 => ?_, fun c158 => ?_⟩
                    · have k := k.1 c158
                      show rx_aw 223 173 [.ref 90, .int x1, .int ((x2 + (1 : Int32)) + (hi 94 j155)), .int x3] [] (rx_hp L t hi hl v) Q
                      refine rx_aw_s 4 (pc := 173) rfl ?_
                      show rx_aw 223 56 [.ref 90, .int x1, .int ((x2 + (1 : Int32)) + (hi 94 j155)), .int (x3 + (1 : Int32))] [] (rx_hp L t hi hl v) Q
                      exact k
                    · have k := k.2 c158
                      show rx_aw 223 164 [.ref 90, .int x1, .int ((x2 + (1 : Int32)) + (hi 94 j155)), .int x3] [] (rx_hp L t hi hl v) Q
                      refine rx_aw_s 3 (pc := 164) rfl ?_
                      show rx_aw 223 169 [.ref 90, .int x1, .int ((x2 + (1 : Int32)) + (hi 94 j155)), .int x3] [.int x3, .ref 94] (rx_hp L t hi hl v) Q
                      obtain ⟨j159, ej159, hj159, k⟩ := k
                      refine rx_aw_iald (pc := 169) (n := 6) j159 ej159 rfl rfl rfl hj159 (by decide) ?_
                      show rx_aw 223 170 [.ref 90, .int x1, .int ((x2 + (1 : Int32)) + (hi 94 j155)), .int x3] [.int (hi 94 j159)] (rx_hp L t hi hl v) Q
                      refine rx_aw_s 4 (pc := 170) rfl ?_
                      show rx_aw 223 56 [.ref 90, .int x1, .int (hi 94 j159), .int (x3 + (1 : Int32))] [] (rx_hp L t hi hl v) Q
                      exact k
                  · have k := k.2 c156
                    show rx_aw 223 173 [.ref 90, .int x1, .int ((x2 + (1 : Int32)) + (hi 94 j155)), .int x3] [] (rx_hp L t hi hl v) Q
                    refine rx_aw_s 4 (pc := 173) rfl ?_
                    show rx_aw 223 56 [.ref 90, .int x1, .int ((x2 + (1 : Int32)) + (hi 94 j155)), .int (x3 + (1 : Int32))] [] (rx_hp L t hi hl v) Q
                    exact k
                · have k := k.2 c154
                  show rx_aw 223 145 [.ref 90, .int x1, .int (x2 + (1 : Int32)), .int x3] [.int (x2 + (1 : Int32))] (rx_hp L t hi hl v) Q
                  refine rx_aw_s 6 (pc := 145) rfl ?_
                  refine rx_w_ifn (c := x1 = (7 : Int32)) ⟨fun c160 => ?_, fun c160 => ?_⟩
                  · have k := k.1 c160
                    show rx_aw 223 154 [.ref 90, .int x1, .int ((x2 + (1 : Int32)) + (0 : Int32)), .int x3] [] (rx_hp L t hi hl v) Q
                    refine rx_aw_s 3 (pc := 154) rfl ?_
                    show rx_aw 223 159 [.ref 90, .int x1, .int ((x2 + (1 : Int32)) + (0 : Int32)), .int x3] [.int x3, .ref 94] (rx_hp L t hi hl v) Q
                    obtain ⟨j161, ej161, hj161, k⟩ := k
                    refine rx_aw_iald (pc := 159) (n := 6) j161 ej161 rfl rfl rfl hj161 (by decide) ?_
                    show rx_aw 223 160 [.ref 90, .int x1, .int ((x2 + (1 : Int32)) + (0 : Int32)), .int x3] [.int (hi 94 j161)] (rx_hp L t hi hl v) Q
                    refine rx_aw_s 2 (pc := 160) rfl ?_
                    refine rx_w_if (c := (hi 94 j161) ≤ ((x2 + (1 : Int32)) + (0 : Int32))) ⟨fun c162 => ?_, fun c162 => ?_⟩
                    · have k := k.1 c162
                      show rx_aw 223 173 [.ref 90, .int x1, .int ((x2 + (1 : Int32)) + (0 : Int32)), .int x3] [] (rx_hp L t hi hl v) Q
                      refine rx_aw_s 4 (pc := 173) rfl ?_
                      show rx_aw 223 56 [.ref 90, .int x1, .int ((x2 + (1 : Int32)) + (0 : Int32)), .int (x3 + (1 : Int32))] [] (rx_hp L t hi hl v) Q
                      exact k
                    · have k := k.2 c162
                      show rx_aw 223 164 [.ref 90, .int x1, .int ((x2 + (1 : Int32)) + (0 : Int32)), .int x3] [] (rx_hp L t hi hl v) Q
                      refine rx_aw_s 3 (pc := 164) rfl ?_
                      show rx_aw 223 169 [.ref 90, .int x1, .int ((x2 + (1 : Int32)) + (0 : Int32)), .int x3] [.int x3, .ref 94] (rx_hp L t hi hl v) Q
                      obtain ⟨j163, ej163, hj163, k⟩ := k
                      refine rx_aw_iald (pc := 169) (n := 6) j163 ej163 rfl rfl rfl hj163 (by decide) ?_
                      show rx_aw 223 170 [.ref 90, .int x1, .int ((x2 + (1 : Int32)) + (0 : Int32)), .int x3] [.int (hi 94 j163)] (rx_hp L t hi hl v) Q
                      refine rx_aw_s 4 (pc := 170) rfl ?_
                      show rx_aw 223 56 [.ref 90, .int x1, .int (hi 94 j163), .int (x3 + (1 : Int32))] [] (rx_hp L t hi hl v) Q
                      exact k
                  · have k := k.2 c160
                    show rx_aw 223 173 [.ref 90, .int x1, .int ((x2 + (1 : Int32)) + (0 : Int32)), .int x3] [] (rx_hp L t hi hl v) Q
                    refine rx_aw_s 4 (pc := 173) rfl ?_
                    show rx_aw 223 56 [.ref 90, .int x1, .int ((x2 + (1 : Int32)) + (0 : Int32)), .int (x3 + (1 : Int32))] [] (rx_hp L t hi hl v) Q
                    exact k
              · have k := k.2 c153
                show rx_aw 223 126 [.ref 90, .int x1, .int x2, .int x3] [.int x2] (rx_hp L t hi hl v) Q
                refine rx_aw_s 7 (pc := 126) rfl ?_
                refine rx_w_ifn (c := x1 = (6 : Int32)) ⟨fun c164 => ?_, fun c164 => ?_⟩
                · have k := k.1 c164
                  show rx_aw 223 136 [.ref 90, .int x1, .int (x2 + (0 : Int32)), .int x3] [.int (x2 + (0 : Int32))] (rx_hp L t hi hl v) Q
                  refine rx_aw_s 3 (pc := 136) rfl ?_
                  show rx_aw 223 141 [.ref 90, .int x1, .int (x2 + (0 : Int32)), .int x3] [.int x3, .ref 94, .int (x2 + (0 : Int32))] (rx_hp L t hi hl v) Q
                  obtain ⟨j165, ej165, hj165, k⟩ := k
                  refine rx_aw_iald (pc := 141) (n := 6) j165 ej165 rfl rfl rfl hj165 (by decide) ?_
                  show rx_aw 223 142 [.ref 90, .int x1, .int (x2 + (0 : Int32)), .int x3] [.int (hi 94 j165), .int (x2 + (0 : Int32))] (rx_hp L t hi hl v) Q
                  refine rx_aw_s 6 (pc := 142) rfl ?_
                  refine rx_w_ifn (c := x1 = (7 : Int32)) ⟨fun c166 => ?_, fun c166 => ?_⟩
                  · have k := k.1 c166
                    show rx_aw 223 154 [.ref 90, .int x1, .int ((x2 + (0 : Int32)) + (hi 94 j165)), .int x3] [] (rx_hp L t hi hl v) Q
                    refine rx_aw_s 3 (pc := 154) rfl ?_
                    show rx_aw 223 159 [.ref 90, .int x1, .int ((x2 + (0 : Int32)) + (hi 94 j165)), .int x3] [.int x3, .ref 94] (rx_hp L t hi hl v) Q
                    obtain ⟨j167, ej167, hj167, k⟩ := k
                    refine rx_aw_iald (pc := 159) (n := 6) j167 ej167 rfl rfl rfl hj167 (by decide) ?_
                    show rx_aw 223 160 [.ref 90, .int x1, .int ((x2 + (0 : Int32)) + (hi 94 j165)), .int x3] [.int (hi 94 j167)] (rx_hp L t hi hl v) Q
                    refine rx_aw_s 2 (pc := 160) rfl ?_
                    refine rx_w_if (c := (hi 94 j167) ≤ ((x2 + (0 : Int32)) + (hi 94 j165))) ⟨fun c168 => ?_, fun c168 => ?_⟩
                    · have k := k.1 c168
                      show rx_aw 223 173 [.ref 90, .int x1, .int ((x2 + (0 : Int32)) + (hi 94 j165)), .int x3] [] (rx_hp L t hi hl v) Q
                      refine rx_aw_s 4 (pc := 173) rfl ?_
                      show rx_aw 223 56 [.ref 90, .int x1, .int ((x2 + (0 : Int32)) + (hi 94 j165)), .int (x3 + (1 : Int32))] [] (rx_hp L t hi hl v) Q
                      exact k
                    · have k := k.2 c168
                      show rx_aw 223 164 [.ref 90, .int x1, .int ((x2 + (0 : Int32)) + (hi 94 j165)), .int x3] [] (rx_hp L t hi hl v) Q
                      refine rx_aw_s 3 (pc := 164) rfl ?_
                      show rx_aw 223 169 [.ref 90, .int x1, .int ((x2 + (0 : Int32)) + (hi 94 j165)), .int x3] [.int x3, .ref 94] (rx_hp L t hi hl v) Q
                      obtain ⟨j169, ej169, hj169, k⟩ := k
                      refine rx_aw_iald (pc := 169) (n := 6) j169 ej169 rfl rfl rfl hj169 (by decide) ?_
                      show rx_aw 223 170 [.ref 90, .int x1, .int ((x2 + (0 : Int32)) + (hi 94 j165)), .int x3] [.int (hi 94 j169)] (rx_hp L t hi hl v) Q
                      refine rx_aw_s 4 (pc := 170) rfl ?_
                      show rx_aw 223 56 [.ref 90, .int x1, .int (hi 94 j169), .int (x3 + (1 : Int32))] [] (rx_hp L t hi hl v) Q
                      exact k
                  · have k := k.2 c166
                    show rx_aw 223 173 [.ref 90, .int x1, .int ((x2 + (0 : Int32)) + (hi 94 j165)), .int x3] [] (rx_hp L t hi hl v) Q
                    refine rx_aw_s 4 (pc := 173) rfl ?_
                    show rx_aw 223 56 [.ref 90, .int x1, .int ((x2 + (0 : Int32)) + (hi 94 j165)), .int (x3 + (1 : Int32))] [] (rx_hp L t hi hl v) Q
                    exact k
                · have k := k.2 c164
                  show rx_aw 223 145 [.ref 90, .int x1, .int (x2 + (0 : Int32)), .int x3] [.int (x2 + (0 : Int32))] (rx_hp L t hi hl v) Q
                  refine rx_aw_s 6 (pc := 145) rfl ?_
                  refine rx_w_ifn (c := x1 = (7 : Int32)) ⟨fun c170 => ?_, fun c170 => ?_⟩
                  · have k := k.1 c170
                    show rx_aw 223 154 [.ref 90, .int x1, .int ((x2 + (0 : Int32)) + (0 : Int32)), .int x3] [] (rx_hp L t hi hl v) Q
                    refine rx_aw_s 3 (pc := 154) rfl ?_
                    show rx_aw 223 159 [.ref 90, .int x1, .int ((x2 + (0 : Int32)) + (0 : Int32)), .int x3] [.int x3, .ref 94] (rx_hp L t hi hl v) Q
                    obtain ⟨j171, ej171, hj171, k⟩ := k
                    refine rx_aw_iald (pc := 159) (n := 6) j171 ej171 rfl rfl rfl hj171 (by decide) ?_
                    show rx_aw 223 160 [.ref 90, .int x1, .int ((x2 + (0 : Int32)) + (0 : Int32)), .int x3] [.int (hi 94 j171)] (rx_hp L t hi hl v) Q
                    refine rx_aw_s 2 (pc := 160) rfl ?_
                    refine rx_w_if (c := (hi 94 j171) ≤ ((x2 + (0 : Int32)) + (0 : Int32))) ⟨fun c172 => ?_, fun c172 => ?_⟩
                    · have k := k.1 c172
                      show rx_aw 223 173 [.ref 90, .int x1, .int ((x2 + (0 : Int32)) + (0 : Int32)), .int x3] [] (rx_hp L t hi hl v) Q
                      refine rx_aw_s 4 (pc := 173) rfl ?_
                      show rx_aw 223 56 [.ref 90, .int x1, .int ((x2 + (0 : Int32)) + (0 : Int32)), .int (x3 + (1 : Int32))] [] (rx_hp L t hi hl v) Q
                      exact k
                    · have k := k.2 c172
                      show rx_aw 223 164 [.ref 90, .int x1, .int ((x2 + (0 : Int32)) + (0 : Int32)), .int x3] [] (rx_hp L t hi hl v) Q
                      refine rx_aw_s 3 (pc := 164) rfl ?_
                      show rx_aw 223 169 [.ref 90, .int x1, .int ((x2 + (0 : Int32)) + (0 : Int32)), .int x3] [.int x3, .ref 94] (rx_hp L t hi hl v) Q
                      obtain ⟨j173, ej173, hj173, k⟩ := k
                      refine rx_aw_iald (pc := 169) (n := 6) j173 ej173 rfl rfl rfl hj173 (by decide) ?_
                      show rx_aw 223 170 [.ref 90, .int x1, .int ((x2 + (0 : Int32)) + (0 : Int32)), .int x3] [.int (hi 94 j173)] (rx_hp L t hi hl v) Q
                      refine rx_aw_s 4 (pc := 170) rfl ?_
                      show rx_aw 223 56 [.ref 90, .int x1, .int (hi 94 j173), .int (x3 + (1 : Int32))] [] (rx_hp L t hi hl v) Q
                      exact k
                  · have k := k.2 c170
                    show rx_aw 223 173 [.ref 90, .int x1, .int ((x2 + (0 : Int32)) + (0 : Int32)), .int x3] [] (rx_hp L t hi hl v) Q
                    refine rx_aw_s 4 (pc := 173) rfl ?_
                    show rx_aw 223 56 [.ref 90, .int x1, .int ((x2 + (0 : Int32)) + (0 : Int32)), .int (x3 + (1 : Int32))] [] (rx_hp L t hi hl v) Q
                    exact k
            · have k := k.2 c151
              show rx_aw 223 126 [.ref 90, .int x1, .int x2, .int x3] [.int x2] (rx_hp L t hi hl v) Q
              refine rx_aw_s 7 (pc := 126) rfl ?_
              refine rx_w_ifn (c := x1 = (6 : Int32)) ⟨fun c174 => ?_, fun c174 => ?_⟩
              · have k := k.1 c174
                show rx_aw 223 136 [.ref 90, .int x1, .int (x2 + (0 : Int32)), .int x3] [.int (x2 + (0 : Int32))] (rx_hp L t hi hl v) Q
                refine rx_aw_s 3 (pc := 136) rfl ?_
                show rx_aw 223 141 [.ref 90, .int x1, .int (x2 + (0 : Int32)), .int x3] [.int x3, .ref 94, .int (x2 + (0 : Int32))] (rx_hp L t hi hl v) Q
                obtain ⟨j175, ej175, hj175, k⟩ := k
                refine rx_aw_iald (pc := 141) (n := 6) j175 ej175 rfl rfl rfl hj175 (by decide) ?_
                show rx_aw 223 142 [.ref 90, .int x1, .int (x2 + (0 : Int32)), .int x3] [.int (hi 94 j175), .int (x2 + (0 : Int32))] (rx_hp L t hi hl v) Q
                refine rx_aw_s 6 (pc := 142) rfl ?_
                refine rx_w_ifn (c := x1 = (7 : Int32)) ⟨fun c176 => ?_, fun c176 => ?_⟩
                · have k := k.1 c176
                  show rx_aw 223 154 [.ref 90, .int x1, .int ((x2 + (0 : Int32)) + (hi 94 j175)), .int x3] [] (rx_hp L t hi hl v) Q
                  refine rx_aw_s 3 (pc := 154) rfl ?_
                  show rx_aw 223 159 [.ref 90, .int x1, .int ((x2 + (0 : Int32)) + (hi 94 j175)), .int x3] [.int x3, .ref 94] (rx_hp L t hi hl v) Q
                  obtain ⟨j177, ej177, hj177, k⟩ := k
                  refine rx_aw_iald (pc := 159) (n := 6) j177 ej177 rfl rfl rfl hj177 (by decide) ?_
                  show rx_aw 223 160 [.ref 90, .int x1, .int ((x2 + (0 : Int32)) + (hi 94 j175)), .int x3] [.int (hi 94 j177)] (rx_hp L t hi hl v) Q
                  refine rx_aw_s 2 (pc := 160) rfl ?_
                  refine rx_w_if (c := (hi 94 j177) ≤ ((x2 + (0 : Int32)) + (hi 94 j175))) ⟨fun c178 => ?_, fun c178 => ?_⟩
                  · have k := k.1 c178
                    show rx_aw 223 173 [.ref 90, .int x1, .int ((x2 + (0 : Int32)) + (hi 94 j175)), .int x3] [] (rx_hp L t hi hl v) Q
                    refine rx_aw_s 4 (pc := 173) rfl ?_
                    show rx_aw 223 56 [.ref 90, .int x1, .int ((x2 + (0 : Int32)) + (hi 94 j175)), .int (x3 + (1 : Int32))] [] (rx_hp L t hi hl v) Q
                    exact k
                  · have k := k.2 c178
                    show rx_aw 223 164 [.ref 90, .int x1, .int ((x2 + (0 : Int32)) + (hi 94 j175)), .int x3] [] (rx_hp L t hi hl v) Q
                    refine rx_aw_s 3 (pc := 164) rfl ?_
                    show rx_aw 223 169 [.ref 90, .int x1, .int ((x2 + (0 : Int32)) + (hi 94 j175)), .int x3] [.int x3, .ref 94] (rx_hp L t hi hl v) Q
                    obtain ⟨j179, ej179, hj179, k⟩ := k
                    refine rx_aw_iald (pc := 169) (n := 6) j179 ej179 rfl rfl rfl hj179 (by decide) ?_
                    show rx_aw 223 170 [.ref 90, .int x1, .int ((x2 + (0 : Int32)) + (hi 94 j175)), .int x3] [.int (hi 94 j179)] (rx_hp L t hi hl v) Q
                    refine rx_aw_s 4 (pc := 170) rfl ?_
                    show rx_aw 223 56 [.ref 90, .int x1, .int (hi 94 j179), .int (x3 + (1 : Int32))] [] (rx_hp L t hi hl v) Q
                    exact k
                · have k := k.2 c176
                  show rx_aw 223 173 [.ref 90, .int x1, .int ((x2 + (0 : Int32)) + (hi 94 j175)), .int x3] [] (rx_hp L t hi hl v) Q
                  refine rx_aw_s 4 (pc := 173) rfl ?_
                  show rx_aw 223 56 [.ref 90, .int x1, .int ((x2 + (0 : Int32)) + (hi 94 j175)), .int (x3 + (1 : Int32))] [] (rx_hp L t hi hl v) Q
                  exact k
              · have k := k.2 c174
                show rx_aw 223 145 [.ref 90, .int x1, .int (x2 + (0 : Int32)), .int x3] [.int (x2 + (0 : Int32))] (rx_hp L t hi hl v) Q
                refine rx_aw_s 6 (pc := 145) rfl ?_
                refine rx_w_ifn (c := x1 = (7 : Int32)) ⟨fun c180 => ?_, fun c180 => ?_⟩
                · have k := k.1 c180
                  show rx_aw 223 154 [.ref 90, .int x1, .int ((x2 + (0 : Int32)) + (0 : Int32)), .int x3] [] (rx_hp L t hi hl v) Q
                  refine rx_aw_s 3 (pc := 154) rfl ?_
                  show rx_aw 223 159 [.ref 90, .int x1, .int ((x2 + (0 : Int32)) + (0 : Int32)), .int x3] [.int x3, .ref 94] (rx_hp L t hi hl v) Q
                  obtain ⟨j181, ej181, hj181, k⟩ := k
                  refine rx_aw_iald (pc := 159) (n := 6) j181 ej181 rfl rfl rfl hj181 (by decide) ?_
                  show rx_aw 223 160 [.ref 90, .int x1, .int ((x2 + (0 : Int32)) + (0 : Int32)), .int x3] [.int (hi 94 j181)] (rx_hp L t hi hl v) Q
                  refine rx_aw_s 2 (pc := 160) rfl ?_
                  refine rx_w_if (c := (hi 94 j181) ≤ ((x2 + (0 : Int32)) + (0 : Int32))) ⟨fun c182 => ?_, fun c182 => ?_⟩
                  · have k := k.1 c182
                    show rx_aw 223 173 [.ref 90, .int x1, .int ((x2 + (0 : Int32)) + (0 : Int32)), .int x3] [] (rx_hp L t hi hl v) Q
                    refine rx_aw_s 4 (pc := 173) rfl ?_
                    show rx_aw 223 56 [.ref 90, .int x1, .int ((x2 + (0 : Int32)) + (0 : Int32)), .int (x3 + (1 : Int32))] [] (rx_hp L t hi hl v) Q
                    exact k
                  · have k := k.2 c182
                    show rx_aw 223 164 [.ref 90, .int x1, .int ((x2 + (0 : Int32)) + (0 : Int32)), .int x3] [] (rx_hp L t hi hl v) Q
                    refine rx_aw_s 3 (pc := 164) rfl ?_
                    show rx_aw 223 169 [.ref 90, .int x1, .int ((x2 + (0 : Int32)) + (0 : Int32)), .int x3] [.int x3, .ref 94] (rx_hp L t hi hl v) Q
                    obtain ⟨j183, ej183, hj183, k⟩ := k
                    refine rx_aw_iald (pc := 169) (n := 6) j183 ej183 rfl rfl rfl hj183 (by decide) ?_
                    show rx_aw 223 170 [.ref 90, .int x1, .int ((x2 + (0 : Int32)) + (0 : Int32)), .int x3] [.int (hi 94 j183)] (rx_hp L t hi hl v) Q
                    refine rx_aw_s 4 (pc := 170) rfl ?_
                    show rx_aw 223 56 [.ref 90, .int x1, .int (hi 94 j183), .int (x3 + (1 : Int32))] [] (rx_hp L t hi hl v) Q
                    exact k
                · have k := k.2 c180
                  show rx_aw 223 173 [.ref 90, .int x1, .int ((x2 + (0 : Int32)) + (0 : Int32)), .int x3] [] (rx_hp L t hi hl v) Q
                  refine rx_aw_s 4 (pc := 173) rfl ?_
                  show rx_aw 223 56 [.ref 90, .int x1, .int ((x2 + (0 : Int32)) + (0 : Int32)), .int (x3 + (1 : Int32))] [] (rx_hp L t hi hl v) Q
                  exact k
      · have k := k.2 c12
        show rx_aw 223 122 [.ref 90, .int x1, .int x2, .int x3] [.int x2] (rx_hp L t hi hl v) Q
        refine rx_aw_s 8 (pc := 122) rfl ?_
        refine rx_w_ifn (c := x1 = (6 : Int32)) ⟨fun c184 => ?_, fun c184 => ?_⟩
        · have k := k.1 c184
          show rx_aw 223 136 [.ref 90, .int x1, .int (x2 + (1 : Int32)), .int x3] [.int (x2 + (1 : Int32))] (rx_hp L t hi hl v) Q
          refine rx_aw_s 3 (pc := 136) rfl ?_
          show rx_aw 223 141 [.ref 90, .int x1, .int (x2 + (1 : Int32)), .int x3] [.int x3, .ref 94, .int (x2 + (1 : Int32))] (rx_hp L t hi hl v) Q
          obtain ⟨j185, ej185, hj185, k⟩ := k
          refine rx_aw_iald (pc := 141) (n := 6) j185 ej185 rfl rfl rfl hj185 (by decide) ?_
          show rx_aw 223 142 [.ref 90, .int x1, .int (x2 + (1 : Int32)), .int x3] [.int (hi 94 j185), .int (x2 + (1 : Int32))] (rx_hp L t hi hl v) Q
          refine rx_aw_s 6 (pc := 142) rfl ?_
          refine rx_w_ifn (c := x1 = (7 : Int32)) ⟨fun c186 => ?_, fun c186 => ?_⟩
          · have k := k.1 c186
            show rx_aw 223 154 [.ref 90, .int x1, .int ((x2 + (1 : Int32)) + (hi 94 j185)), .int x3] [] (rx_hp L t hi hl v) Q
            refine rx_aw_s 3 (pc := 154) rfl ?_
            show rx_aw 223 159 [.ref 90, .int x1, .int ((x2 + (1 : Int32)) + (hi 94 j185)), .int x3] [.int x3, .ref 94] (rx_hp L t hi hl v) Q
            obtain ⟨j187, ej187, hj187, k⟩ := k
            refine rx_aw_iald (pc := 159) (n := 6) j187 ej187 rfl rfl rfl hj187 (by decide) ?_
            show rx_aw 223 160 [.ref 90, .int x1, .int ((x2 + (1 : Int32)) + (hi 94 j185)), .int x3] [.int (hi 94 j187)] (rx_hp L t hi hl v) Q
            refine rx_aw_s 2 (pc := 160) rfl ?_
            refine rx_w_if (c := (hi 94 j187) ≤ ((x2 + (1 : Int32)) + (hi 94 j185))) ⟨fun c188 => ?_, fun c188 => ?_⟩
            · have k := k.1 c188
              show rx_aw 223 173 [.ref 90, .int x1, .int ((x2 + (1 : Int32)) + (hi 94 j185)), .int x3] [] (rx_hp L t hi hl v) Q
              refine rx_aw_s 4 (pc := 173) rfl ?_
              show rx_aw 223 56 [.ref 90, .int x1, .int ((x2 + (1 : Int32)) + (hi 94 j185)), .int (x3 + (1 : Int32))] [] (rx_hp L t hi hl v) Q
              exact k
            · have k := k.2 c188
              show rx_aw 223 164 [.ref 90, .int x1, .int ((x2 + (1 : Int32)) + (hi 94 j185)), .int x3] [] (rx_hp L t hi hl v) Q
              refine rx_aw_s 3 (pc := 164) rfl ?_
              show rx_aw 223 169 [.ref 90, .int x1, .int ((x2 + (1 : Int32)) + (hi 94 j185)), .int x3] [.int x3, .ref 94] (rx_hp L t hi hl v) Q
              obtain ⟨j189, ej189, hj189, k⟩ := k
              refine rx_aw_iald (pc := 169) (n := 6) j189 ej189 rfl rfl rfl hj189 (by decide) ?_
              show rx_aw 223 170 [.ref 90, .int x1, .int ((x2 + (1 : Int32)) + (hi 94 j185)), .int x3] [.int (hi 94 j189)] (rx_hp L t hi hl v) Q
              refine rx_aw_s 4 (pc := 170) rfl ?_
              show rx_aw 223 56 [.ref 90, .int x1, .int (hi 94 j189), .int (x3 + (1 : Int32))] [] (rx_hp L t hi hl v) Q
              exact k
          · have k := k.2 c186
            show rx_aw 223 173 [.ref 90, .int x1, .int ((x2 + (1 : Int32)) + (hi 94 j185)), .int x3] [] (rx_hp L t hi hl v) Q
            refine rx_aw_s 4 (pc := 173) rfl ?_
            show rx_aw 223 56 [.ref 90, .int x1, .int ((x2 + (1 : Int32)) + (hi 94 j185)), .int (x3 + (1 : Int32))] [] (rx_hp L t hi hl v) Q
            exact k
        · have k := k.2 c184
          show rx_aw 223 145 [.ref 90, .int x1, .int (x2 + (1 : Int32)), .int x3] [.int (x2 + (1 : Int32))] (rx_hp L t hi hl v) Q
          refine rx_aw_s 6 (pc := 145) rfl ?_
          refine rx_w_ifn (c := x1 = (7 : Int32)) ⟨fun c190 => ?_, fun c190 => ?_⟩
          · have k := k.1 c190
            show rx_aw 223 154 [.ref 90, .int x1, .int ((x2 + (1 : Int32)) + (0 : Int32)), .int x3] [] (rx_hp L t hi hl v) Q
            refine rx_aw_s 3 (pc := 154) rfl ?_
            show rx_aw 223 159 [.ref 90, .int x1, .int ((x2 + (1 : Int32)) + (0 : Int32)), .int x3] [.int x3, .ref 94] (rx_hp L t hi hl v) Q
            obtain ⟨j191, ej191, hj191, k⟩ := k
            refine rx_aw_iald (pc := 159) (n := 6) j191 ej191 rfl rfl rfl hj191 (by decide) ?_
            show rx_aw 223 160 [.ref 90, .int x1, .int ((x2 + (1 : Int32)) + (0 : Int32)), .int x3] [.int (hi 94 j191)] (rx_hp L t hi hl v) Q
            refine rx_aw_s 2 (pc := 160) rfl ?_
            refine rx_w_if (c := (hi 94 j191) ≤ ((x2 + (1 : Int32)) + (0 : Int32))) ⟨fun c192 => ?_, fun c192 => ?_⟩
            · have k := k.1 c192
              show rx_aw 223 173 [.ref 90, .int x1, .int ((x2 + (1 : Int32)) + (0 : Int32)), .int x3] [] (rx_hp L t hi hl v) Q
              refine rx_aw_s 4 (pc := 173) rfl ?_
              show rx_aw 223 56 [.ref 90, .int x1, .int ((x2 + (1 : Int32)) + (0 : Int32)), .int (x3 + (1 : Int32))] [] (rx_hp L t hi hl v) Q
              exact k
            · have k := k.2 c192
              show rx_aw 223 164 [.ref 90, .int x1, .int ((x2 + (1 : Int32)) + (0 : Int32)), .int x3] [] (rx_hp L t hi hl v) Q
              refine rx_aw_s 3 (pc := 164) rfl ?_
              show rx_aw 223 169 [.ref 90, .int x1, .int ((x2 + (1 : Int32)) + (0 : Int32)), .int x3] [.int x3, .ref 94] (rx_hp L t hi hl v) Q
              obtain ⟨j193, ej193, hj193, k⟩ := k
              refine rx_aw_iald (pc := 169) (n := 6) j193 ej193 rfl rfl rfl hj193 (by decide) ?_
              show rx_aw 223 170 [.ref 90, .int x1, .int ((x2 + (1 : Int32)) + (0 : Int32)), .int x3] [.int (hi 94 j193)] (rx_hp L t hi hl v) Q
              refine rx_aw_s 4 (pc := 170) rfl ?_
              show rx_aw 223 56 [.ref 90, .int x1, .int (hi 94 j193), .int (x3 + (1 : Int32))] [] (rx_hp L t hi hl v) Q
              exact k
          · have k := k.2 c190
            show rx_aw 223 173 [.ref 90, .int x1, .int ((x2 + (1 : Int32)) + (0 : Int32)), .int x3] [] (rx_hp L t hi hl v) Q
            refine rx_aw_s 4 (pc := 173) rfl ?_
            show rx_aw 223 56 [.ref 90, .int x1, .int ((x2 + (1 : Int32)) + (0 : Int32)), .int (x3 + (1 : Int32))] [] (rx_hp L t hi hl v) Q
            exact k
    · have k := k.2 c10
      show rx_aw 223 79 [.ref 90, .int x1, .int x2, .int x3] [.int x2] (rx_hp L t hi hl v) Q
      refine rx_aw_s 3 (pc := 79) rfl ?_
      refine rx_w_ifn (c := x1 = (3 : Int32)) ⟨fun c194 => ?_, fun c194 => ?_⟩
      · have k := k.1 c194
        show rx_aw 223 84 [.ref 90, .int x1, .int x2, .int x3] [.int x2] (rx_hp L t hi hl v) Q
        refine rx_aw_s 2 (pc := 84) rfl ?_
        show rx_aw 223 86 [.ref 90, .int x1, .int x2, .int x3] [.int x3, .ref 90, .int x2] (rx_hp L t hi hl v) Q
        refine rx_w_callI (j := 162) (pc := 86) rfl rfl rfl rfl rfl ?_
        refine rx_aw.mono k (fun r h2 k => ?_)
        obtain ⟨z195, rfl, hi195, hl195, v195, rfl, k⟩ := k
        refine ⟨z195, rfl, ?_⟩
        show rx_aw 223 89 [.ref 90, .int x1, .int x2, .int x3] [.int z195, .int x2] (rx_hp L t hi195 hl195 v195) Q
        refine rx_aw_s 1 (pc := 89) rfl ?_
        refine rx_w_ifn (c := z195 = 0) ⟨fun c196 => ?_, fun c196 => ?_⟩
        · have k := k.1 c196
          show rx_aw 223 92 [.ref 90, .int x1, .int x2, .int x3] [.int x2] (rx_hp L t hi195 hl195 v195) Q
          refine rx_aw_s 3 (pc := 92) rfl ?_
          refine rx_w_ifn (c := x1 = (4 : Int32)) ⟨fun c197 => ?_, fun c197 => ?_⟩
          · have k := k.1 c197
            show rx_aw 223 97 [.ref 90, .int x1, .int x2, .int x3] [.int x2] (rx_hp L t hi195 hl195 v195) Q
            refine rx_aw_s 3 (pc := 97) rfl ?_
            show rx_aw 223 102 [.ref 90, .int x1, .int x2, .int x3] [.int x3, .ref 100, .int x2] (rx_hp L t hi195 hl195 v195) Q
            obtain ⟨j198, ej198, hj198, k⟩ := k
            refine rx_aw_iald (pc := 102) (n := 6) j198 ej198 rfl rfl rfl hj198 (by decide) ?_
            show rx_aw 223 103 [.ref 90, .int x1, .int x2, .int x3] [.int (hi195 100 j198), .int x2] (rx_hp L t hi195 hl195 v195) Q
            refine rx_aw_s 2 (pc := 103) rfl ?_
            refine rx_w_if (c := (hi195 100 j198) = (1 : Int32)) ⟨fun c199 => ?_, fun c199 => ?_⟩
            · have k := k.1 c199
              show rx_aw 223 122 [.ref 90, .int x1, .int x2, .int x3] [.int x2] (rx_hp L t hi195 hl195 v195) Q
              refine rx_aw_s 8 (pc := 122) rfl ?_
              refine rx_w_ifn (c := x1 = (6 : Int32)) ⟨fun c200 => ?_, fun c200 => ?_⟩
              · have k := k.1 c200
                show rx_aw 223 136 [.ref 90, .int x1, .int (x2 + (1 : Int32)), .int x3] [.int (x2 + (1 : Int32))] (rx_hp L t hi195 hl195 v195) Q
                refine rx_aw_s 3 (pc := 136) rfl ?_
                show rx_aw 223 141 [.ref 90, .int x1, .int (x2 + (1 : Int32)), .int x3] [.int x3, .ref 94, .int (x2 + (1 : Int32))] (rx_hp L t hi195 hl195 v195) Q
                obtain ⟨j201, ej201, hj201, k⟩ := k
                refine rx_aw_iald (pc := 141) (n := 6) j201 ej201 rfl rfl rfl hj201 (by decide) ?_
                show rx_aw 223 142 [.ref 90, .int x1, .int (x2 + (1 : Int32)), .int x3] [.int (hi195 94 j201), .int (x2 + (1 : Int32))] (rx_hp L t hi195 hl195 v195) Q
                refine rx_aw_s 6 (pc := 142) rfl ?_
                refine rx_w_ifn (c := x1 = (7 : Int32)) ⟨fun c202 => ?_, fun c202 => ?_⟩
                · have k := k.1 c202
                  show rx_aw 223 154 [.ref 90, .int x1, .int ((x2 + (1 : Int32)) + (hi195 94 j201)), .int x3] [] (rx_hp L t hi195 hl195 v195) Q
                  refine rx_aw_s 3 (pc := 154) rfl ?_
                  show rx_aw 223 159 [.ref 90, .int x1, .int ((x2 + (1 : Int32)) + (hi195 94 j201)), .int x3] [.int x3, .ref 94] (rx_hp L t hi195 hl195 v195) Q
                  obtain ⟨j203, ej203, hj203, k⟩ := k
                  refine rx_aw_iald (pc := 159) (n := 6) j203 ej203 rfl rfl rfl hj203 (by decide) ?_
                  show rx_aw 223 160 [.ref 90, .int x1, .int ((x2 + (1 : Int32)) + (hi195 94 j201)), .int x3] [.int (hi195 94 j203)] (rx_hp L t hi195 hl195 v195) Q
                  refine rx_aw_s 2 (pc := 160) rfl ?_
                  refine rx_w_if (c := (hi195 94 j203) ≤ ((x2 + (1 : Int32)) + (hi195 94 j201))) ⟨fun c204 => ?_, fun c204 => ?_⟩
                  · have k := k.1 c204
                    show rx_aw 223 173 [.ref 90, .int x1, .int ((x2 + (1 : Int32)) + (hi195 94 j201)), .int x3] [] (rx_hp L t hi195 hl195 v195) Q
                    refine rx_aw_s 4 (pc := 173) rfl ?_
                    show rx_aw 223 56 [.ref 90, .int x1, .int ((x2 + (1 : Int32)) + (hi195 94 j201)), .int (x3 + (1 : Int32))] [] (rx_hp L t hi195 hl195 v195) Q
                    exact k
                  · have k := k.2 c204
                    show rx_aw 223 164 [.ref 90, .int x1, .int ((x2 + (1 : Int32)) + (hi195 94 j201)), .int x3] [] (rx_hp L t hi195 hl195 v195) Q
                    refine rx_aw_s 3 (pc := 164) rfl ?_
                    show rx_aw 223 169 [.ref 90, .int x1, .int ((x2 + (1 : Int32)) + (hi195 94 j201)), .int x3] [.int x3, .ref 94] (rx_hp L t hi195 hl195 v195) Q
                    obtain ⟨j205, ej205, hj205, k⟩ := k
                    refine rx_aw_iald (pc := 169) (n := 6) j205 ej205 rfl rfl rfl hj205 (by decide) ?_
                    show rx_aw 223 170 [.ref 90, .int x1, .int ((x2 + (1 : Int32)) + (hi195 94 j201)), .int x3] [.int (hi195 94 j205)] (rx_hp L t hi195 hl195 v195) Q
                    refine rx_aw_s 4 (pc := 170) rfl ?_
                    show rx_aw 223 56 [.ref 90, .int x1, .int (hi195 94 j205), .int (x3 + (1 : Int32))] [] (rx_hp L t hi195 hl195 v195) Q
                    exact k
                · have k := k.2 c202
                  show rx_aw 223 173 [.ref 90, .int x1, .int ((x2 + (1 : Int32)) + (hi195 94 j201)), .int x3] [] (rx_hp L t hi195 hl195 v195) Q
                  refine rx_aw_s 4 (pc := 173) rfl ?_
                  show rx_aw 223 56 [.ref 90, .int x1, .int ((x2 + (1 : Int32)) + (hi195 94 j201)), .int (x3 + (1 : Int32))] [] (rx_hp L t hi195 hl195 v195) Q
                  exact k
              · have k := k.2 c200
                show rx_aw 223 145 [.ref 90, .int x1, .int (x2 + (1 : Int32)), .int x3] [.int (x2 + (1 : Int32))] (rx_hp L t hi195 hl195 v195) Q
                refine rx_aw_s 6 (pc := 145) rfl ?_
                refine rx_w_ifn (c := x1 = (7 : Int32)) ⟨fun c206 => ?_, fun c206 => ?_⟩
                · have k := k.1 c206
                  show rx_aw 223 154 [.ref 90, .int x1, .int ((x2 + (1 : Int32)) + (0 : Int32)), .int x3] [] (rx_hp L t hi195 hl195 v195) Q
                  refine rx_aw_s 3 (pc := 154) rfl ?_
                  show rx_aw 223 159 [.ref 90, .int x1, .int ((x2 + (1 : Int32)) + (0 : Int32)), .int x3] [.int x3, .ref 94] (rx_hp L t hi195 hl195 v195) Q
                  obtain ⟨j207, ej207, hj207, k⟩ := k
                  refine rx_aw_iald (pc := 159) (n := 6) j207 ej207 rfl rfl rfl hj207 (by decide) ?_
                  show rx_aw 223 160 [.ref 90, .int x1, .int ((x2 + (1 : Int32)) + (0 : Int32)), .int x3] [.int (hi195 94 j207)] (rx_hp L t hi195 hl195 v195) Q
                  refine rx_aw_s 2 (pc := 160) rfl ?_
                  refine rx_w_if (c := (hi195 94 j207) ≤ ((x2 + (1 : Int32)) + (0 : Int32))) ⟨fun c208 => ?_, fun c208 => ?_⟩
                  · have k := k.1 c208
                    show rx_aw 223 173 [.ref 90, .int x1, .int ((x2 + (1 : Int32)) + (0 : Int32)), .int x3] [] (rx_hp L t hi195 hl195 v195) Q
                    refine rx_aw_s 4 (pc := 173) rfl ?_
                    show rx_aw 223 56 [.ref 90, .int x1, .int ((x2 + (1 : Int32)) + (0 : Int32)), .int (x3 + (1 : Int32))] [] (rx_hp L t hi195 hl195 v195) Q
                    exact k
                  · have k := k.2 c208
                    show rx_aw 223 164 [.ref 90, .int x1, .int ((x2 + (1 : Int32)) + (0 : Int32)), .int x3] [] (rx_hp L t hi195 hl195 v195) Q
                    refine rx_aw_s 3 (pc := 164) rfl ?_
                    show rx_aw 223 169 [.ref 90, .int x1, .int ((x2 + (1 : Int32)) + (0 : Int32)), .int x3] [.int x3, .ref 94] (rx_hp L t hi195 hl195 v195) Q
                    obtain ⟨j209, ej209, hj209, k⟩ := k
                    refine rx_aw_iald (pc := 169) (n := 6) j209 ej209 rfl rfl rfl hj209 (by decide) ?_
                    show rx_aw 223 170 [.ref 90, .int x1, .int ((x2 + (1 : Int32)) + (0 : Int32)), .int x3] [.int (hi195 94 j209)] (rx_hp L t hi195 hl195 v195) Q
                    refine rx_aw_s 4 (pc := 170) rfl ?_
                    show rx_aw 223 56 [.ref 90, .int x1, .int (hi195 94 j209), .int (x3 + (1 : Int32))] [] (rx_hp L t hi195 hl195 v195) Q
                    exact k
                · have k := k.2 c206
                  show rx_aw 223 173 [.ref 90, .int x1, .int ((x2 + (1 : Int32)) + (0 : Int32)), .int x3] [] (rx_hp L t hi195 hl195 v195) Q
                  refine rx_aw_s 4 (pc := 173) rfl ?_
                  show rx_aw 223 56 [.ref 90, .int x1, .int ((x2 + (1 : Int32)) + (0 : Int32)), .int (x3 + (1 : Int32))] [] (rx_hp L t hi195 hl195 v195) Q
                  exact k
            · have k := k.2 c199
              show rx_aw 223 107 [.ref 90, .int x1, .int x2, .int x3] [.int x2] (rx_hp L t hi195 hl195 v195) Q
              refine rx_aw_s 3 (pc := 107) rfl ?_
              refine rx_w_ifn (c := x1 = (5 : Int32)) ⟨fun c210 => ?_, fun c210 => ?_⟩
              · have k := k.1 c210
                show rx_aw 223 112 [.ref 90, .int x1, .int x2, .int x3] [.int x2] (rx_hp L t hi195 hl195 v195) Q
                refine rx_aw_s 3 (pc := 112) rfl ?_
                show rx_aw 223 117 [.ref 90, .int x1, .int x2, .int x3] [.int x3, .ref 100, .int x2] (rx_hp L t hi195 hl195 v195) Q
                obtain ⟨j211, ej211, hj211, k⟩ := k
                refine rx_aw_iald (pc := 117) (n := 6) j211 ej211 rfl rfl rfl hj211 (by decide) ?_
                show rx_aw 223 118 [.ref 90, .int x1, .int x2, .int x3] [.int (hi195 100 j211), .int x2] (rx_hp L t hi195 hl195 v195) Q
                refine rx_aw_s 2 (pc := 118) rfl ?_
                refine rx_w_ifn (c := (hi195 100 j211) = (2 : Int32)) ⟨fun c212 => ?_, fun c212 => ?_⟩
                · have k := k.1 c212
                  show rx_aw 223 122 [.ref 90, .int x1, .int x2, .int x3] [.int x2] (rx_hp L t hi195 hl195 v195) Q
                  refine rx_aw_s 8 (pc := 122) rfl ?_
                  refine rx_w_ifn (c := x1 = (6 : Int32)) ⟨fun c213 => ?_, fun c213 => ?_⟩
                  · have k := k.1 c213
                    show rx_aw 223 136 [.ref 90, .int x1, .int (x2 + (1 : Int32)), .int x3] [.int (x2 + (1 : Int32))] (rx_hp L t hi195 hl195 v195) Q
                    refine rx_aw_s 3 (pc := 136) rfl ?_
                    show rx_aw 223 141 [.ref 90, .int x1, .int (x2 + (1 : Int32)), .int x3] [.int x3, .ref 94, .int (x2 + (1 : Int32))] (rx_hp L t hi195 hl195 v195) Q
                    obtain ⟨j214, ej214, hj214, k⟩ := k
                    refine rx_aw_iald (pc := 141) (n := 6) j214 ej214 rfl rfl rfl hj214 (by decide) ?_
                    show rx_aw 223 142 [.ref 90, .int x1, .int (x2 + (1 : Int32)), .int x3] [.int (hi195 94 j214), .int (x2 + (1 : Int32))] (rx_hp L t hi195 hl195 v195) Q
                    refine rx_aw_s 6 (pc := 142) rfl ?_
                    refine rx_w_ifn (c := x1 = (7 : Int32)) ⟨fun c215 => ?_, fun c215 => ?_⟩
                    · have k := k.1 c215
                      show rx_aw 223 154 [.ref 90, .int x1, .int ((x2 + (1 : Int32)) + (hi195 94 j214)), .int x3] [] (rx_hp L t hi195 hl195 v195) Q
                      refine rx_aw_s 3 (pc := 154) rfl ?_
                      show rx_aw 223 159 [.ref 90, .int x1, .int ((x2 + (1 : Int32)) + (hi195 94 j214)), .int x3] [.int x3, .ref 94] (rx_hp L t hi195 hl195 v195) Q
                      obtain ⟨j216, ej216, hj216, k⟩ := k
                      refine rx_aw_iald (pc := 159) (n := 6) j216 ej216 rfl rfl rfl hj216 (by decide) ?_
                      show rx_aw 223 160 [.ref 90, .int x1, .int ((x2 + (1 : Int32)) + (hi195 94 j214)), .int x3] [.int (hi195 94 j216)] (rx_hp L t hi195 hl195 v195) Q
                      refine rx_aw_s 2 (pc := 160) rfl ?_
                      refine rx_w_if (c := (hi195 94 j216) ≤ ((x2 + (1 : Int32)) + (hi195 94 j214))) ⟨fun c217 => ?_, fun c217 => ?_⟩
                      · have k := k.1 c217
                        show rx_aw 223 173 [.ref 90, .int x1, .int ((x2 + (1 : Int32)) + (hi195 94 j214)), .int x3] [] (rx_hp L t hi195 hl195 v195) Q
                        refine rx_aw_s 4 (pc := 173) rfl ?_
                        show rx_aw 223 56 [.ref 90, .int x1, .int ((x2 + (1 : Int32)) + (hi195 94 j214)), .int (x3 + (1 : Int32))] [] (rx_hp L t hi195 hl195 v195) Q
                        exact k
                      · have k := k.2 c217
                        show rx_aw 223 164 [.ref 90, .int x1, .int ((x2 + (1 : Int32)) + (hi195 94 j214)), .int x3] [] (rx_hp L t hi195 hl195 v195) Q
                        refine rx_aw_s 3 (pc := 164) rfl ?_
                        show rx_aw 223 169 [.ref 90, .int x1, .int ((x2 + (1 : Int32)) + (hi195 94 j214)), .int x3] [.int x3, .ref 94] (rx_hp L t hi195 hl195 v195) Q
                        obtain ⟨j218, ej218, hj218, k⟩ := k
                        refine rx_aw_iald (pc := 169) (n := 6) j218 ej218 rfl rfl rfl hj218 (by decide) ?_
                        show rx_aw 223 170 [.ref 90, .int x1, .int ((x2 + (1 : Int32)) + (hi195 94 j214)), .int x3] [.int (hi195 94 j218)] (rx_hp L t hi195 hl195 v195) Q
                        refine rx_aw_s 4 (pc := 170) rfl ?_
                        show rx_aw 223 56 [.ref 90, .int x1, .int (hi195 94 j218), .int (x3 + (1 : Int32))] [] (rx_hp L t hi195 hl195 v195) Q
                        exact k
                    · have k := k.2 c215
                      show rx_aw 223 173 [.ref 90, .int x1, .int ((x2 + (1 : Int32)) + (hi195 94 j214)), .int x3] [] (rx_hp L t hi195 hl195 v195) Q
                      refine rx_aw_s 4 (pc := 173) rfl ?_
                      show rx_aw 223 56 [.ref 90, .int x1, .int ((x2 + (1 : Int32)) + (hi195 94 j214)), .int (x3 + (1 : Int32))] [] (rx_hp L t hi195 hl195 v195) Q
                      exact k
                  · have k := k.2 c213
                    show rx_aw 223 145 [.ref 90, .int x1, .int (x2 + (1 : Int32)), .int x3] [.int (x2 + (1 : Int32))] (rx_hp L t hi195 hl195 v195) Q
                    refine rx_aw_s 6 (pc := 145) rfl ?_
                    refine rx_w_ifn (c := x1 = (7 : Int32)) ⟨fun c219 => ?_, fun c219 => ?_⟩
                    · have k := k.1 c219
                      show rx_aw 223 154 [.ref 90, .int x1, .int ((x2 + (1 : Int32)) + (0 : Int32)), .int x3] [] (rx_hp L t hi195 hl195 v195) Q
                      refine rx_aw_s 3 (pc := 154) rfl ?_
                      show rx_aw 223 159 [.ref 90, .int x1, .int ((x2 + (1 : Int32)) + (0 : Int32)), .int x3] [.int x3, .ref 94] (rx_hp L t hi195 hl195 v195) Q
                      obtain ⟨j220, ej220, hj220, k⟩ := k
                      refine rx_aw_iald (pc := 159) (n := 6) j220 ej220 rfl rfl rfl hj220 (by decide) ?_
                      show rx_aw 223 160 [.ref 90, .int x1, .int ((x2 + (1 : Int32)) + (0 : Int32)), .int x3] [.int (hi195 94 j220)] (rx_hp L t hi195 hl195 v195) Q
                      refine rx_aw_s 2 (pc := 160) rfl ?_
                      refine rx_w_if (c := (hi195 94 j220) ≤ ((x2 + (1 : Int32)) + (0 : Int32))) ⟨fun c221 => ?_, fun c221 => ?_⟩
                      · have k := k.1 c221
                        show rx_aw 223 173 [.ref 90, .int x1, .int ((x2 + (1 : Int32)) + (0 : Int32)), .int x3] [] (rx_hp L t hi195 hl195 v195) Q
                        refine rx_aw_s 4 (pc := 173) rfl ?_
                        show rx_aw 223 56 [.ref 90, .int x1, .int ((x2 + (1 : Int32)) + (0 : Int32)), .int (x3 + (1 : Int32))] [] (rx_hp L t hi195 hl195 v195) Q
                        exact k
                      · have k := k.2 c221
                        show rx_aw 223 164 [.ref 90, .int x1, .int ((x2 + (1 : Int32)) + (0 : Int32)), .int x3] [] (rx_hp L t hi195 hl195 v195) Q
                        refine rx_aw_s 3 (pc := 164) rfl ?_
                        show rx_aw 223 169 [.ref 90, .int x1, .int ((x2 + (1 : Int32)) + (0 : Int32)), .int x3] [.int x3, .ref 94] (rx_hp L t hi195 hl195 v195) Q
                        obtain ⟨j222, ej222, hj222, k⟩ := k
                        refine rx_aw_iald (pc := 169) (n := 6) j222 ej222 rfl rfl rfl hj222 (by decide) ?_
                        show rx_aw 223 170 [.ref 90, .int x1, .int ((x2 + (1 : Int32)) + (0 : Int32)), .int x3] [.int (hi195 94 j222)] (rx_hp L t hi195 hl195 v195) Q
                        refine rx_aw_s 4 (pc := 170) rfl ?_
                        show rx_aw 223 56 [.ref 90, .int x1, .int (hi195 94 j222), .int (x3 + (1 : Int32))] [] (rx_hp L t hi195 hl195 v195) Q
                        exact k
                    · have k := k.2 c219
                      show rx_aw 223 173 [.ref 90, .int x1, .int ((x2 + (1 : Int32)) + (0 : Int32)), .int x3] [] (rx_hp L t hi195 hl195 v195) Q
                      refine rx_aw_s 4 (pc := 173) rfl ?_
                      show rx_aw 223 56 [.ref 90, .int x1, .int ((x2 + (1 : Int32)) + (0 : Int32)), .int (x3 + (1 : Int32))] [] (rx_hp L t hi195 hl195 v195) Q
                      exact k
                · have k := k.2 c212
                  show rx_aw 223 126 [.ref 90, .int x1, .int x2, .int x3] [.int x2] (rx_hp L t hi195 hl195 v195) Q
                  refine rx_aw_s 7 (pc := 126) rfl ?_
                  refine rx_w_ifn (c := x1 = (6 : Int32)) ⟨fun c223 => ?_, fun c223 => ?_⟩
                  · have k := k.1 c223
                    show rx_aw 223 136 [.ref 90, .int x1, .int (x2 + (0 : Int32)), .int x3] [.int (x2 + (0 : Int32))] (rx_hp L t hi195 hl195 v195) Q
                    refine rx_aw_s 3 (pc := 136) rfl ?_
                    show rx_aw 223 141 [.ref 90, .int x1, .int (x2 + (0 : Int32)), .int x3] [.int x3, .ref 94, .int (x2 + (0 : Int32))] (rx_hp L t hi195 hl195 v195) Q
                    obtain ⟨j224, ej224, hj224, k⟩ := k
                    refine rx_aw_iald (pc := 141) (n := 6) j224 ej224 rfl rfl rfl hj224 (by decide) ?_
                    show rx_aw 223 142 [.ref 90, .int x1, .int (x2 + (0 : Int32)), .int x3] [.int (hi195 94 j224), .int (x2 + (0 : Int32))] (rx_hp L t hi195 hl195 v195) Q
                    refine rx_aw_s 6 (pc := 142) rfl ?_
                    refine rx_w_ifn (c := x1 = (7 : Int32)) ⟨fun c225 => ?_, fun c225 => ?_⟩
                    · have k := k.1 c225
                      show rx_aw 223 154 [.ref 90, .int x1, .int ((x2 + (0 : Int32)) + (hi195 94 j224)), .int x3] [] (rx_hp L t hi195 hl195 v195) Q
                      refine rx_aw_s 3 (pc := 154) rfl ?_
                      show rx_aw 223 159 [.ref 90, .int x1, .int ((x2 + (0 : Int32)) + (hi195 94 j224)), .int x3] [.int x3, .ref 94] (rx_hp L t hi195 hl195 v195) Q
                      obtain ⟨j226, ej226, hj226, k⟩ := k
                      refine rx_aw_iald (pc := 159) (n := 6) j226 ej226 rfl rfl rfl hj226 (by decide) ?_
                      show rx_aw 223 160 [.ref 90, .int x1, .int ((x2 + (0 : Int32)) + (hi195 94 j224)), .int x3] [.int (hi195 94 j226)] (rx_hp L t hi195 hl195 v195) Q
                      refine rx_aw_s 2 (pc := 160) rfl ?_
                      refine rx_w_if (c := (hi195 94 j226) ≤ ((x2 + (0 : Int32)) + (hi195 94 j224))) ⟨fun c227 => ?_, fun c227 => ?_⟩
                      · have k := k.1 c227
                        show rx_aw 223 173 [.ref 90, .int x1, .int ((x2 + (0 : Int32)) + (hi195 94 j224)), .int x3] [] (rx_hp L t hi195 hl195 v195) Q
                        refine rx_aw_s 4 (pc := 173) rfl ?_
                        show rx_aw 223 56 [.ref 90, .int x1, .int ((x2 + (0 : Int32)) + (hi195 94 j224)), .int (x3 + (1 : Int32))] [] (rx_hp L t hi195 hl195 v195) Q
                        exact k
                      · have k := k.2 c227
                        show rx_aw 223 164 [.ref 90, .int x1, .int ((x2 + (0 : Int32)) + (hi195 94 j224)), .int x3] [] (rx_hp L t hi195 hl195 v195) Q
                        refine rx_aw_s 3 (pc := 164) rfl ?_
                        show rx_aw 223 169 [.ref 90, .int x1, .int ((x2 + (0 : Int32)) + (hi195 94 j224)), .int x3] [.int x3, .ref 94] (rx_hp L t hi195 hl195 v195) Q
                        obtain ⟨j228, ej228, hj228, k⟩ := k
                        refine rx_aw_iald (pc := 169) (n := 6) j228 ej228 rfl rfl rfl hj228 (by decide) ?_
                        show rx_aw 223 170 [.ref 90, .int x1, .int ((x2 + (0 : Int32)) + (hi195 94 j224)), .int x3] [.int (hi195 94 j228)] (rx_hp L t hi195 hl195 v195) Q
                        refine rx_aw_s 4 (pc := 170) rfl ?_
                        show rx_aw 223 56 [.ref 90, .int x1, .int (hi195 94 j228), .int (x3 + (1 : Int32))] [] (rx_hp L t hi195 hl195 v195) Q
                        exact k
                    · have k := k.2 c225
                      show rx_aw 223 173 [.ref 90, .int x1, .int ((x2 + (0 : Int32)) + (hi195 94 j224)), .int x3] [] (rx_hp L t hi195 hl195 v195) Q
                      refine rx_aw_s 4 (pc := 173) rfl ?_
                      show rx_aw 223 56 [.ref 90, .int x1, .int ((x2 + (0 : Int32)) + (hi195 94 j224)), .int (x3 + (1 : Int32))] [] (rx_hp L t hi195 hl195 v195) Q
                      exact k
                  · have k := k.2 c223
                    show rx_aw 223 145 [.ref 90, .int x1, .int (x2 + (0 : Int32)), .int x3] [.int (x2 + (0 : Int32))] (rx_hp L t hi195 hl195 v195) Q
                    refine rx_aw_s 6 (pc := 145) rfl ?_
                    refine rx_w_ifn (c := x1 = (7 : Int32)) ⟨fun c229 => ?_, fun c229 => ?_⟩
                    · have k := k.1 c229
                      show rx_aw 223 154 [.ref 90, .int x1, .int ((x2 + (0 : Int32)) + (0 : Int32)), .int x3] [] (rx_hp L t hi195 hl195 v195) Q
                      refine rx_aw_s 3 (pc := 154) rfl ?_
                      show rx_aw 223 159 [.ref 90, .int x1, .int ((x2 + (0 : Int32)) + (0 : Int32)), .int x3] [.int x3, .ref 94] (rx_hp L t hi195 hl195 v195) Q
                      obtain ⟨j230, ej230, hj230, k⟩ := k
                      refine rx_aw_iald (pc := 159) (n := 6) j230 ej230 rfl rfl rfl hj230 (by decide) ?_
                      show rx_aw 223 160 [.ref 90, .int x1, .int ((x2 + (0 : Int32)) + (0 : Int32)), .int x3] [.int (hi195 94 j230)] (rx_hp L t hi195 hl195 v195) Q
                      refine rx_aw_s 2 (pc := 160) rfl ?_
                      refine rx_w_if (c := (hi195 94 j230) ≤ ((x2 + (0 : Int32)) + (0 : Int32))) ⟨fun c231 => ?_, fun c231 => ?_⟩
                      · have k := k.1 c231
                        show rx_aw 223 173 [.ref 90, .int x1, .int ((x2 + (0 : Int32)) + (0 : Int32)), .int x3] [] (rx_hp L t hi195 hl195 v195) Q
                        refine rx_aw_s 4 (pc := 173) rfl ?_
                        show rx_aw 223 56 [.ref 90, .int x1, .int ((x2 + (0 : Int32)) + (0 : Int32)), .int (x3 + (1 : Int32))] [] (rx_hp L t hi195 hl195 v195) Q
                        exact k
                      · have k := k.2 c231
                        show rx_aw 223 164 [.ref 90, .int x1, .int ((x2 + (0 : Int32)) + (0 : Int32)), .int x3] [] (rx_hp L t hi195 hl195 v195) Q
                        refine rx_aw_s 3 (pc := 164) rfl ?_
                        show rx_aw 223 169 [.ref 90, .int x1, .int ((x2 + (0 : Int32)) + (0 : Int32)), .int x3] [.int x3, .ref 94] (rx_hp L t hi195 hl195 v195) Q
                        obtain ⟨j232, ej232, hj232, k⟩ := k
                        refine rx_aw_iald (pc := 169) (n := 6) j232 ej232 rfl rfl rfl hj232 (by decide) ?_
                        show rx_aw 223 170 [.ref 90, .int x1, .int ((x2 + (0 : Int32)) + (0 : Int32)), .int x3] [.int (hi195 94 j232)] (rx_hp L t hi195 hl195 v195) Q
                        refine rx_aw_s 4 (pc := 170) rfl ?_
                        show rx_aw 223 56 [.ref 90, .int x1, .int (hi195 94 j232), .int (x3 + (1 : Int32))] [] (rx_hp L t hi195 hl195 v195) Q
                        exact k
                    · have k := k.2 c229
                      show rx_aw 223 173 [.ref 90, .int x1, .int ((x2 + (0 : Int32)) + (0 : Int32)), .int x3] [] (rx_hp L t hi195 hl195 v195) Q
                      refine rx_aw_s 4 (pc := 173) rfl ?_
                      show rx_aw 223 56 [.ref 90, .int x1, .int ((x2 + (0 : Int32)) + (0 : Int32)), .int (x3 + (1 : Int32))] [] (rx_hp L t hi195 hl195 v195) Q
                      exact k
              · have k := k.2 c210
                show rx_aw 223 126 [.ref 90, .int x1, .int x2, .int x3] [.int x2] (rx_hp L t hi195 hl195 v195) Q
                refine rx_aw_s 7 (pc := 126) rfl ?_
                refine rx_w_ifn (c := x1 = (6 : Int32)) ⟨fun c233 => ?_, fun c233 => ?_⟩
                · have k := k.1 c233
                  show rx_aw 223 136 [.ref 90, .int x1, .int (x2 + (0 : Int32)), .int x3] [.int (x2 + (0 : Int32))] (rx_hp L t hi195 hl195 v195) Q
                  refine rx_aw_s 3 (pc := 136) rfl ?_
                  show rx_aw 223 141 [.ref 90, .int x1, .int (x2 + (0 : Int32)), .int x3] [.int x3, .ref 94, .int (x2 + (0 : Int32))] (rx_hp L t hi195 hl195 v195) Q
                  obtain ⟨j234, ej234, hj234, k⟩ := k
                  refine rx_aw_iald (pc := 141) (n := 6) j234 ej234 rfl rfl rfl hj234 (by decide) ?_
                  show rx_aw 223 142 [.ref 90, .int x1, .int (x2 + (0 : Int32)), .int x3] [.int (hi195 94 j234), .int (x2 + (0 : Int32))] (rx_hp L t hi195 hl195 v195) Q
                  refine rx_aw_s 6 (pc := 142) rfl ?_
                  refine rx_w_ifn (c := x1 = (7 : Int32)) ⟨fun c235 => ?_, fun c235 => ?_⟩
                  · have k := k.1 c235
                    show rx_aw 223 154 [.ref 90, .int x1, .int ((x2 + (0 : Int32)) + (hi195 94 j234)), .int x3] [] (rx_hp L t hi195 hl195 v195) Q
                    refine rx_aw_s 3 (pc := 154) rfl ?_
                    show rx_aw 223 159 [.ref 90, .int x1, .int ((x2 + (0 : Int32)) + (hi195 94 j234)), .int x3] [.int x3, .ref 94] (rx_hp L t hi195 hl195 v195) Q
                    obtain ⟨j236, ej236, hj236, k⟩ := k
                    refine rx_aw_iald (pc := 159) (n := 6) j236 ej236 rfl rfl rfl hj236 (by decide) ?_
                    show rx_aw 223 160 [.ref 90, .int x1, .int ((x2 + (0 : Int32)) + (hi195 94 j234)), .int x3] [.int (hi195 94 j236)] (rx_hp L t hi195 hl195 v195) Q
                    refine rx_aw_s 2 (pc := 160) rfl ?_
                    refine rx_w_if (c := (hi195 94 j236) ≤ ((x2 + (0 : Int32)) + (hi195 94 j234))) ⟨fun c237 => ?_, fun c237 => ?_⟩
                    · have k := k.1 c237
                      show rx_aw 223 173 [.ref 90, .int x1, .int ((x2 + (0 : Int32)) + (hi195 94 j234)), .int x3] [] (rx_hp L t hi195 hl195 v195) Q
                      refine rx_aw_s 4 (pc := 173) rfl ?_
                      show rx_aw 223 56 [.ref 90, .int x1, .int ((x2 + (0 : Int32)) + (hi195 94 j234)), .int (x3 + (1 : Int32))] [] (rx_hp L t hi195 hl195 v195) Q
                      exact k
                    · have k := k.2 c237
                      show rx_aw 223 164 [.ref 90, .int x1, .int ((x2 + (0 : Int32)) + (hi195 94 j234)), .int x3] [] (rx_hp L t hi195 hl195 v195) Q
                      refine rx_aw_s 3 (pc := 164) rfl ?_
                      show rx_aw 223 169 [.ref 90, .int x1, .int ((x2 + (0 : Int32)) + (hi195 94 j234)), .int x3] [.int x3, .ref 94] (rx_hp L t hi195 hl195 v195) Q
                      obtain ⟨j238, ej238, hj238, k⟩ := k
                      refine rx_aw_iald (pc := 169) (n := 6) j238 ej238 rfl rfl rfl hj238 (by decide) ?_
                      show rx_aw 223 170 [.ref 90, .int x1, .int ((x2 + (0 : Int32)) + (hi195 94 j234)), .int x3] [.int (hi195 94 j238)] (rx_hp L t hi195 hl195 v195) Q
                      refine rx_aw_s 4 (pc := 170) rfl ?_
                      show rx_aw 223 56 [.ref 90, .int x1, .int (hi195 94 j238), .int (x3 + (1 : Int32))] [] (rx_hp L t hi195 hl195 v195) Q
                      exact k
                  · have k := k.2 c235
                    show rx_aw 223 173 [.ref 90, .int x1, .int ((x2 + (0 : Int32)) + (hi195 94 j234)), .int x3] [] (rx_hp L t hi195 hl195 v195) Q
                    refine rx_aw_s 4 (pc := 173) rfl ?_
                    show rx_aw 223 56 [.ref 90, .int x1, .int ((x2 + (0 : Int32)) + (hi195 94 j234)), .int (x3 + (1 : Int32))] [] (rx_hp L t hi195 hl195 v195) Q
                    exact k
                · have k := k.2 c233
                  show rx_aw 223 145 [.ref 90, .int x1, .int (x2 + (0 : Int32)), .int x3] [.int (x2 + (0 : Int32))] (rx_hp L t hi195 hl195 v195) Q
                  refine rx_aw_s 6 (pc := 145) rfl ?_
                  refine rx_w_ifn (c := x1 = (7 : Int32)) ⟨fun c239 => ?_, fun c239 => ?_⟩
                  · have k := k.1 c239
                    show rx_aw 223 154 [.ref 90, .int x1, .int ((x2 + (0 : Int32)) + (0 : Int32)), .int x3] [] (rx_hp L t hi195 hl195 v195) Q
                    refine rx_aw_s 3 (pc := 154) rfl ?_
                    show rx_aw 223 159 [.ref 90, .int x1, .int ((x2 + (0 : Int32)) + (0 : Int32)), .int x3] [.int x3, .ref 94] (rx_hp L t hi195 hl195 v195) Q
                    obtain ⟨j240, ej240, hj240, k⟩ := k
                    refine rx_aw_iald (pc := 159) (n := 6) j240 ej240 rfl rfl rfl hj240 (by decide) ?_
                    show rx_aw 223 160 [.ref 90, .int x1, .int ((x2 + (0 : Int32)) + (0 : Int32)), .int x3] [.int (hi195 94 j240)] (rx_hp L t hi195 hl195 v195) Q
                    refine rx_aw_s 2 (pc := 160) rfl ?_
                    refine rx_w_if (c := (hi195 94 j240) ≤ ((x2 + (0 : Int32)) + (0 : Int32))) ⟨fun c241 => ?_, fun c241 => ?_⟩
                    · have k := k.1 c241
                      show rx_aw 223 173 [.ref 90, .int x1, .int ((x2 + (0 : Int32)) + (0 : Int32)), .int x3] [] (rx_hp L t hi195 hl195 v195) Q
                      refine rx_aw_s 4 (pc := 173) rfl ?_
                      show rx_aw 223 56 [.ref 90, .int x1, .int ((x2 + (0 : Int32)) + (0 : Int32)), .int (x3 + (1 : Int32))] [] (rx_hp L t hi195 hl195 v195) Q
                      exact k
                    · have k := k.2 c241
                      show rx_aw 223 164 [.ref 90, .int x1, .int ((x2 + (0 : Int32)) + (0 : Int32)), .int x3] [] (rx_hp L t hi195 hl195 v195) Q
                      refine rx_aw_s 3 (pc := 164) rfl ?_
                      show rx_aw 223 169 [.ref 90, .int x1, .int ((x2 + (0 : Int32)) + (0 : Int32)), .int x3] [.int x3, .ref 94] (rx_hp L t hi195 hl195 v195) Q
                      obtain ⟨j242, ej242, hj242, k⟩ := k
                      refine rx_aw_iald (pc := 169) (n := 6) j242 ej242 rfl rfl rfl hj242 (by decide) ?_
                      show rx_aw 223 170 [.ref 90, .int x1, .int ((x2 + (0 : Int32)) + (0 : Int32)), .int x3] [.int (hi195 94 j242)] (rx_hp L t hi195 hl195 v195) Q
                      refine rx_aw_s 4 (pc := 170) rfl ?_
                      show rx_aw 223 56 [.ref 90, .int x1, .int (hi195 94 j242), .int (x3 + (1 : Int32))] [] (rx_hp L t hi195 hl195 v195) Q
                      exact k
                  · have k := k.2 c239
                    show rx_aw 223 173 [.ref 90, .int x1, .int ((x2 + (0 : Int32)) + (0 : Int32)), .int x3] [] (rx_hp L t hi195 hl195 v195) Q
                    refine rx_aw_s 4 (pc := 173) rfl ?_
                    show rx_aw 223 56 [.ref 90, .int x1, .int ((x2 + (0 : Int32)) + (0 : Int32)), .int (x3 + (1 : Int32))] [] (rx_hp L t hi195 hl195 v195) Q
                    exact k
          · have k := k.2 c197
            show rx_aw 223 107 [.ref 90, .int x1, .int x2, .int x3] [.int x2] (rx_hp L t hi195 hl195 v195) Q
            refine rx_aw_s 3 (pc := 107) rfl ?_
            refine rx_w_ifn (c := x1 = (5 : Int32)) ⟨fun c243 => ?_, fun c243 => ?_⟩
            · have k := k.1 c243
              show rx_aw 223 112 [.ref 90, .int x1, .int x2, .int x3] [.int x2] (rx_hp L t hi195 hl195 v195) Q
              refine rx_aw_s 3 (pc := 112) rfl ?_
              show rx_aw 223 117 [.ref 90, .int x1, .int x2, .int x3] [.int x3, .ref 100, .int x2] (rx_hp L t hi195 hl195 v195) Q
              obtain ⟨j244, ej244, hj244, k⟩ := k
              refine rx_aw_iald (pc := 117) (n := 6) j244 ej244 rfl rfl rfl hj244 (by decide) ?_
              show rx_aw 223 118 [.ref 90, .int x1, .int x2, .int x3] [.int (hi195 100 j244), .int x2] (rx_hp L t hi195 hl195 v195) Q
              refine rx_aw_s 2 (pc := 118) rfl ?_
              refine rx_w_ifn (c := (hi195 100 j244) = (2 : Int32)) ⟨fun c245 => ?_, fun c245 => ?_⟩
              · have k := k.1 c245
                show rx_aw 223 122 [.ref 90, .int x1, .int x2, .int x3] [.int x2] (rx_hp L t hi195 hl195 v195) Q
                refine rx_aw_s 8 (pc := 122) rfl ?_
                refine rx_w_ifn (c := x1 = (6 : Int32)) ⟨fun c246 => ?_, fun c246 => ?_⟩
                · have k := k.1 c246
                  show rx_aw 223 136 [.ref 90, .int x1, .int (x2 + (1 : Int32)), .int x3] [.int (x2 + (1 : Int32))] (rx_hp L t hi195 hl195 v195) Q
                  refine rx_aw_s 3 (pc := 136) rfl ?_
                  show rx_aw 223 141 [.ref 90, .int x1, .int (x2 + (1 : Int32)), .int x3] [.int x3, .ref 94, .int (x2 + (1 : Int32))] (rx_hp L t hi195 hl195 v195) Q
                  obtain ⟨j247, ej247, hj247, k⟩ := k
                  refine rx_aw_iald (pc := 141) (n := 6) j247 ej247 rfl rfl rfl hj247 (by decide) ?_
                  show rx_aw 223 142 [.ref 90, .int x1, .int (x2 + (1 : Int32)), .int x3] [.int (hi195 94 j247), .int (x2 + (1 : Int32))] (rx_hp L t hi195 hl195 v195) Q
                  refine rx_aw_s 6 (pc := 142) rfl ?_
                  refine rx_w_ifn (c := x1 = (7 : Int32)) ⟨fun c248 => ?_, fun c248 => ?_⟩
                  · have k := k.1 c248
                    show rx_aw 223 154 [.ref 90, .int x1, .int ((x2 + (1 : Int32)) + (hi195 94 j247)), .int x3] [] (rx_hp L t hi195 hl195 v195) Q
                    refine rx_aw_s 3 (pc := 154) rfl ?_
                    show rx_aw 223 159 [.ref 90, .int x1, .int ((x2 + (1 : Int32)) + (hi195 94 j247)), .int x3] [.int x3, .ref 94] (rx_hp L t hi195 hl195 v195) Q
                    obtain ⟨j249, ej249, hj249, k⟩ := k
                    refine rx_aw_iald (pc := 159) (n := 6) j249 ej249 rfl rfl rfl hj249 (by decide) ?_
                    show rx_aw 223 160 [.ref 90, .int x1, .int ((x2 + (1 : Int32)) + (hi195 94 j247)), .int x3] [.int (hi195 94 j249)] (rx_hp L t hi195 hl195 v195) Q
                    refine rx_aw_s 2 (pc := 160) rfl ?_
                    refine rx_w_if (c := (hi195 94 j249) ≤ ((x2 + (1 : Int32)) + (hi195 94 j247))) ⟨fun c250 => ?_, fun c250 => ?_⟩
                    · have k := k.1 c250
                      show rx_aw 223 173 [.ref 90, .int x1, .int ((x2 + (1 : Int32)) + (hi195 94 j247)), .int x3] [] (rx_hp L t hi195 hl195 v195) Q
                      refine rx_aw_s 4 (pc := 173) rfl ?_
                      show rx_aw 223 56 [.ref 90, .int x1, .int ((x2 + (1 : Int32)) + (hi195 94 j247)), .int (x3 + (1 : Int32))] [] (rx_hp L t hi195 hl195 v195) Q
                      exact k
                    · have k := k.2 c250
                      show rx_aw 223 164 [.ref 90, .int x1, .int ((x2 + (1 : Int32)) + (hi195 94 j247)), .int x3] [] (rx_hp L t hi195 hl195 v195) Q
                      refine rx_aw_s 3 (pc := 164) rfl ?_
                      show rx_aw 223 169 [.ref 90, .int x1, .int ((x2 + (1 : Int32)) + (hi195 94 j247)), .int x3] [.int x3, .ref 94] (rx_hp L t hi195 hl195 v195) Q
                      obtain ⟨j251, ej251, hj251, k⟩ := k
                      refine rx_aw_iald (pc := 169) (n := 6) j251 ej251 rfl rfl rfl hj251 (by decide) ?_
                      show rx_aw 223 170 [.ref 90, .int x1, .int ((x2 + (1 : Int32)) + (hi195 94 j247)), .int x3] [.int (hi195 94 j251)] (rx_hp L t hi195 hl195 v195) Q
                      refine rx_aw_s 4 (pc := 170) rfl ?_
                      show rx_aw 223 56 [.ref 90, .int x1, .int (hi195 94 j251), .int (x3 + (1 : Int32))] [] (rx_hp L t hi195 hl195 v195) Q
                      exact k
                  · have k := k.2 c248
                    show rx_aw 223 173 [.ref 90, .int x1, .int ((x2 + (1 : Int32)) + (hi195 94 j247)), .int x3] [] (rx_hp L t hi195 hl195 v195) Q
                    refine rx_aw_s 4 (pc := 173) rfl ?_
                    show rx_aw 223 56 [.ref 90, .int x1, .int ((x2 + (1 : Int32)) + (hi195 94 j247)), .int (x3 + (1 : Int32))] [] (rx_hp L t hi195 hl195 v195) Q
                    exact k
                · have k := k.2 c246
                  show rx_aw 223 145 [.ref 90, .int x1, .int (x2 + (1 : Int32)), .int x3] [.int (x2 + (1 : Int32))] (rx_hp L t hi195 hl195 v195) Q
                  refine rx_aw_s 6 (pc := 145) rfl ?_
                  refine rx_w_ifn (c := x1 = (7 : Int32)) ⟨fun c252 => ?_, fun c252 => ?_⟩
                  · have k := k.1 c252
                    show rx_aw 223 154 [.ref 90, .int x1, .int ((x2 + (1 : Int32)) + (0 : Int32)), .int x3] [] (rx_hp L t hi195 hl195 v195) Q
                    refine rx_aw_s 3 (pc := 154) rfl ?_
                    show rx_aw 223 159 [.ref 90, .int x1, .int ((x2 + (1 : Int32)) + (0 : Int32)), .int x3] [.int x3, .ref 94] (rx_hp L t hi195 hl195 v195) Q
                    obtain ⟨j253, ej253, hj253, k⟩ := k
                    refine rx_aw_iald (pc := 159) (n := 6) j253 ej253 rfl rfl rfl hj253 (by decide) ?_
                    show rx_aw 223 160 [.ref 90, .int x1, .int ((x2 + (1 : Int32)) + (0 : Int32)), .int x3] [.int (hi195 94 j253)] (rx_hp L t hi195 hl195 v195) Q
                    refine rx_aw_s 2 (pc := 160) rfl ?_
                    refine rx_w_if (c := (hi195 94 j253) ≤ ((x2 + (1 : Int32)) + (0 : Int32))) ⟨fun c254 => ?_, fun c254 => ?_⟩
                    · have k := k.1 c254
                      show rx_aw 223 173 [.ref 90, .int x1, .int ((x2 + (1 : Int32)) + (0 : Int32)), .int x3] [] (rx_hp L t hi195 hl195 v195) Q
                      refine rx_aw_s 4 (pc := 173) rfl ?_
                      show rx_aw 223 56 [.ref 90, .int x1, .int ((x2 + (1 : Int32)) + (0 : Int32)), .int (x3 + (1 : Int32))] [] (rx_hp L t hi195 hl195 v195) Q
                      exact k
                    · have k := k.2 c254
                      show rx_aw 223 164 [.ref 90, .int x1, .int ((x2 + (1 : Int32)) + (0 : Int32)), .int x3] [] (rx_hp L t hi195 hl195 v195) Q
                      refine rx_aw_s 3 (pc := 164) rfl ?_
                      show rx_aw 223 169 [.ref 90, .int x1, .int ((x2 + (1 : Int32)) + (0 : Int32)), .int x3] [.int x3, .ref 94] (rx_hp L t hi195 hl195 v195) Q
                      obtain ⟨j255, ej255, hj255, k⟩ := k
                      refine rx_aw_iald (pc := 169) (n := 6) j255 ej255 rfl rfl rfl hj255 (by decide) ?_
                      show rx_aw 223 170 [.ref 90, .int x1, .int ((x2 + (1 : Int32)) + (0 : Int32)), .int x3] [.int (hi195 94 j255)] (rx_hp L t hi195 hl195 v195) Q
                      refine rx_aw_s 4 (pc := 170) rfl ?_
                      show rx_aw 223 56 [.ref 90, .int x1, .int (hi195 94 j255), .int (x3 + (1 : Int32))] [] (rx_hp L t hi195 hl195 v195) Q
                      exact k
                  · have k := k.2 c252
                    show rx_aw 223 173 [.ref 90, .int x1, .int ((x2 + (1 : Int32)) + (0 : Int32)), .int x3] [] (rx_hp L t hi195 hl195 v195) Q
                    refine rx_aw_s 4 (pc := 173) rfl ?_
                    show rx_aw 223 56 [.ref 90, .int x1, .int ((x2 + (1 : Int32)) + (0 : Int32)), .int (x3 + (1 : Int32))] [] (rx_hp L t hi195 hl195 v195) Q
                    exact k
              · have k := k.2 c245
                show rx_aw 223 126 [.ref 90, .int x1, .int x2, .int x3] [.int x2] (rx_hp L t hi195 hl195 v195) Q
                refine rx_aw_s 7 (pc := 126) rfl ?_
                refine rx_w_ifn (c := x1 = (6 : Int32)) ⟨fun c256 => ?_, fun c256 => ?_⟩
                · have k := k.1 c256
                  show rx_aw 223 136 [.ref 90, .int x1, .int (x2 + (0 : Int32)), .int x3] [.int (x2 + (0 : Int32))] (rx_hp L t hi195 hl195 v195) Q
                  refine rx_aw_s 3 (pc := 136) rfl ?_
                  show rx_aw 223 141 [.ref 90, .int x1, .int (x2 + (0 : Int32)), .int x3] [.int x3, .ref 94, .int (x2 + (0 : Int32))] (rx_hp L t hi195 hl195 v195) Q
                  obtain ⟨j257, ej257, hj257, k⟩ := k
                  refine rx_aw_iald (pc := 141) (n := 6) j257 ej257 rfl rfl rfl hj257 (by decide) ?_
                  show rx_aw 223 142 [.ref 90, .int x1, .int (x2 + (0 : Int32)), .int x3] [.int (hi195 94 j257), .int (x2 + (0 : Int32))] (rx_hp L t hi195 hl195 v195) Q
                  refine rx_aw_s 6 (pc := 142) rfl ?_
                  refine rx_w_ifn (c := x1 = (7 : Int32)) ⟨fun c258 => ?_, fun c258 => ?_⟩
                  · have k := k.1 c258
                    show rx_aw 223 154 [.ref 90, .int x1, .int ((x2 + (0 : Int32)) + (hi195 94 j257)), .int x3] [] (rx_hp L t hi195 hl195 v195) Q
                    refine rx_aw_s 3 (pc := 154) rfl ?_
                    show rx_aw 223 159 [.ref 90, .int x1, .int ((x2 + (0 : Int32)) + (hi195 94 j257)), .int x3] [.int x3, .ref 94] (rx_hp L t hi195 hl195 v195) Q
                    obtain ⟨j259, ej259, hj259, k⟩ := k
                    refine rx_aw_iald (pc := 159) (n := 6) j259 ej259 rfl rfl rfl hj259 (by decide) ?_
                    show rx_aw 223 160 [.ref 90, .int x1, .int ((x2 + (0 : Int32)) + (hi195 94 j257)), .int x3] [.int (hi195 94 j259)] (rx_hp L t hi195 hl195 v195) Q
                    refine rx_aw_s 2 (pc := 160) rfl ?_
                    refine rx_w_if (c := (hi195 94 j259) ≤ ((x2 + (0 : Int32)) + (hi195 94 j257))) ⟨fun c260 => ?_, fun c260 => ?_⟩
                    · have k := k.1 c260
                      show rx_aw 223 173 [.ref 90, .int x1, .int ((x2 + (0 : Int32)) + (hi195 94 j257)), .int x3] [] (rx_hp L t hi195 hl195 v195) Q
                      refine rx_aw_s 4 (pc := 173) rfl ?_
                      show rx_aw 223 56 [.ref 90, .int x1, .int ((x2 + (0 : Int32)) + (hi195 94 j257)), .int (x3 + (1 : Int32))] [] (rx_hp L t hi195 hl195 v195) Q
                      exact k
                    · have k := k.2 c260
                      show rx_aw 223 164 [.ref 90, .int x1, .int ((x2 + (0 : Int32)) + (hi195 94 j257)), .int x3] [] (rx_hp L t hi195 hl195 v195) Q
                      refine rx_aw_s 3 (pc := 164) rfl ?_
                      show rx_aw 223 169 [.ref 90, .int x1, .int ((x2 + (0 : Int32)) + (hi195 94 j257)), .int x3] [.int x3, .ref 94] (rx_hp L t hi195 hl195 v195) Q
                      obtain ⟨j261, ej261, hj261, k⟩ := k
                      refine rx_aw_iald (pc := 169) (n := 6) j261 ej261 rfl rfl rfl hj261 (by decide) ?_
                      show rx_aw 223 170 [.ref 90, .int x1, .int ((x2 + (0 : Int32)) + (hi195 94 j257)), .int x3] [.int (hi195 94 j261)] (rx_hp L t hi195 hl195 v195) Q
                      refine rx_aw_s 4 (pc := 170) rfl ?_
                      show rx_aw 223 56 [.ref 90, .int x1, .int (hi195 94 j261), .int (x3 + (1 : Int32))] [] (rx_hp L t hi195 hl195 v195) Q
                      exact k
                  · have k := k.2 c258
                    show rx_aw 223 173 [.ref 90, .int x1, .int ((x2 + (0 : Int32)) + (hi195 94 j257)), .int x3] [] (rx_hp L t hi195 hl195 v195) Q
                    refine rx_aw_s 4 (pc := 173) rfl ?_
                    show rx_aw 223 56 [.ref 90, .int x1, .int ((x2 + (0 : Int32)) + (hi195 94 j257)), .int (x3 + (1 : Int32))] [] (rx_hp L t hi195 hl195 v195) Q
                    exact k
                · have k := k.2 c256
                  show rx_aw 223 145 [.ref 90, .int x1, .int (x2 + (0 : Int32)), .int x3] [.int (x2 + (0 : Int32))] (rx_hp L t hi195 hl195 v195) Q
                  refine rx_aw_s 6 (pc := 145) rfl ?_
                  refine rx_w_ifn (c := x1 = (7 : Int32)) ⟨fun c262 => ?_, fun c262 => ?_⟩
                  · have k := k.1 c262
                    show rx_aw 223 154 [.ref 90, .int x1, .int ((x2 + (0 : Int32)) + (0 : Int32)), .int x3] [] (rx_hp L t hi195 hl195 v195) Q
                    refine rx_aw_s 3 (pc := 154) rfl ?_
                    show rx_aw 223 159 [.ref 90, .int x1, .int ((x2 + (0 : Int32)) + (0 : Int32)), .int x3] [.int x3, .ref 94] (rx_hp L t hi195 hl195 v195) Q
                    obtain ⟨j263, ej263, hj263, k⟩ := k
                    refine rx_aw_iald (pc := 159) (n := 6) j263 ej263 rfl rfl rfl hj263 (by decide) ?_
                    show rx_aw 223 160 [.ref 90, .int x1, .int ((x2 + (0 : Int32)) + (0 : Int32)), .int x3] [.int (hi195 94 j263)] (rx_hp L t hi195 hl195 v195) Q
                    refine rx_aw_s 2 (pc := 160) rfl ?_
                    refine rx_w_if (c := (hi195 94 j263) ≤ ((x2 + (0 : Int32)) + (0 : Int32))) ⟨fun c264 => ?_, fun c264 => ?_⟩
                    · have k := k.1 c264
                      show rx_aw 223 173 [.ref 90, .int x1, .int ((x2 + (0 : Int32)) + (0 : Int32)), .int x3] [] (rx_hp L t hi195 hl195 v195) Q
                      refine rx_aw_s 4 (pc := 173) rfl ?_
                      show rx_aw 223 56 [.ref 90, .int x1, .int ((x2 + (0 : Int32)) + (0 : Int32)), .int (x3 + (1 : Int32))] [] (rx_hp L t hi195 hl195 v195) Q
                      exact k
                    · have k := k.2 c264
                      show rx_aw 223 164 [.ref 90, .int x1, .int ((x2 + (0 : Int32)) + (0 : Int32)), .int x3] [] (rx_hp L t hi195 hl195 v195) Q
                      refine rx_aw_s 3 (pc := 164) rfl ?_
                      show rx_aw 223 169 [.ref 90, .int x1, .int ((x2 + (0 : Int32)) + (0 : Int32)), .int x3] [.int x3, .ref 94] (rx_hp L t hi195 hl195 v195) Q
                      obtain ⟨j265, ej265, hj265, k⟩ := k
                      refine rx_aw_iald (pc := 169) (n := 6) j265 ej265 rfl rfl rfl hj265 (by decide) ?_
                      show rx_aw 223 170 [.ref 90, .int x1, .int ((x2 + (0 : Int32)) + (0 : Int32)), .int x3] [.int (hi195 94 j265)] (rx_hp L t hi195 hl195 v195) Q
                      refine rx_aw_s 4 (pc := 170) rfl ?_
                      show rx_aw 223 56 [.ref 90, .int x1, .int (hi195 94 j265), .int (x3 + (1 : Int32))] [] (rx_hp L t hi195 hl195 v195) Q
                      exact k
                  · have k := k.2 c262
                    show rx_aw 223 173 [.ref 90, .int x1, .int ((x2 + (0 : Int32)) + (0 : Int32)), .int x3] [] (rx_hp L t hi195 hl195 v195) Q
                    refine rx_aw_s 4 (pc := 173) rfl ?_
                    show rx_aw 223 56 [.ref 90, .int x1, .int ((x2 + (0 : Int32)) + (0 : Int32)), .int (x3 + (1 : Int32))] [] (rx_hp L t hi195 hl195 v195) Q
                    exact k
            · have k := k.2 c243
              show rx_aw 223 126 [.ref 90, .int x1, .int x2, .int x3] [.int x2] (rx_hp L t hi195 hl195 v195) Q
              refine rx_aw_s 7 (pc := 126) rfl ?_
              refine rx_w_ifn (c := x1 = (6 : Int32)) ⟨fun c266 => ?_, fun c266 => ?_⟩
              · have k := k.1 c266
                show rx_aw 223 136 [.ref 90, .int x1, .int (x2 + (0 : Int32)), .int x3] [.int (x2 + (0 : Int32))] (rx_hp L t hi195 hl195 v195) Q
                refine rx_aw_s 3 (pc := 136) rfl ?_
                show rx_aw 223 141 [.ref 90, .int x1, .int (x2 + (0 : Int32)), .int x3] [.int x3, .ref 94, .int (x2 + (0 : Int32))] (rx_hp L t hi195 hl195 v195) Q
                obtain ⟨j267, ej267, hj267, k⟩ := k
                refine rx_aw_iald (pc := 141) (n := 6) j267 ej267 rfl rfl rfl hj267 (by decide) ?_
                show rx_aw 223 142 [.ref 90, .int x1, .int (x2 + (0 : Int32)), .int x3] [.int (hi195 94 j267), .int (x2 + (0 : Int32))] (rx_hp L t hi195 hl195 v195) Q
                refine rx_aw_s 6 (pc := 142) rfl ?_
                refine rx_w_ifn (c := x1 = (7 : Int32)) ⟨fun c268 => ?_, fun c268 => ?_⟩
                · have k := k.1 c268
                  show rx_aw 223 154 [.ref 90, .int x1, .int ((x2 + (0 : Int32)) + (hi195 94 j267)), .int x3] [] (rx_hp L t hi195 hl195 v195) Q
                  refine rx_aw_s 3 (pc := 154) rfl ?_
                  show rx_aw 223 159 [.ref 90, .int x1, .int ((x2 + (0 : Int32)) + (hi195 94 j267)), .int x3] [.int x3, .ref 94] (rx_hp L t hi195 hl195 v195) Q
                  obtain ⟨j269, ej269, hj269, k⟩ := k
                  refine rx_aw_iald (pc := 159) (n := 6) j269 ej269 rfl rfl rfl hj269 (by decide) ?_
                  show rx_aw 223 160 [.ref 90, .int x1, .int ((x2 + (0 : Int32)) + (hi195 94 j267)), .int x3] [.int (hi195 94 j269)] (rx_hp L t hi195 hl195 v195) Q
                  refine rx_aw_s 2 (pc := 160) rfl ?_
                  refine rx_w_if (c := (hi195 94 j269) ≤ ((x2 + (0 : Int32)) + (hi195 94 j267))) ⟨fun c270 => ?_, fun c270 => ?_⟩
                  · have k := k.1 c270
                    show rx_aw 223 173 [.ref 90, .int x1, .int ((x2 + (0 : Int32)) + (hi195 94 j267)), .int x3] [] (rx_hp L t hi195 hl195 v195) Q
                    refine rx_aw_s 4 (pc := 173) rfl ?_
                    show rx_aw 223 56 [.ref 90, .int x1, .int ((x2 + (0 : Int32)) + (hi195 94 j267)), .int (x3 + (1 : Int32))] [] (rx_hp L t hi195 hl195 v195) Q
                    exact k
                  · have k := k.2 c270
                    show rx_aw 223 164 [.ref 90, .int x1, .int ((x2 + (0 : Int32)) + (hi195 94 j267)), .int x3] [] (rx_hp L t hi195 hl195 v195) Q
                    refine rx_aw_s 3 (pc := 164) rfl ?_
                    show rx_aw 223 169 [.ref 90, .int x1, .int ((x2 + (0 : Int32)) + (hi195 94 j267)), .int x3] [.int x3, .ref 94] (rx_hp L t hi195 hl195 v195) Q
                    obtain ⟨j271, ej271, hj271, k⟩ := k
                    refine rx_aw_iald (pc := 169) (n := 6) j271 ej271 rfl rfl rfl hj271 (by decide) ?_
                    show rx_aw 223 170 [.ref 90, .int x1, .int ((x2 + (0 : Int32)) + (hi195 94 j267)), .int x3] [.int (hi195 94 j271)] (rx_hp L t hi195 hl195 v195) Q
                    refine rx_aw_s 4 (pc := 170) rfl ?_
                    show rx_aw 223 56 [.ref 90, .int x1, .int (hi195 94 j271), .int (x3 + (1 : Int32))] [] (rx_hp L t hi195 hl195 v195) Q
                    exact k
                · have k := k.2 c268
                  show rx_aw 223 173 [.ref 90, .int x1, .int ((x2 + (0 : Int32)) + (hi195 94 j267)), .int x3] [] (rx_hp L t hi195 hl195 v195) Q
                  refine rx_aw_s 4 (pc := 173) rfl ?_
                  show rx_aw 223 56 [.ref 90, .int x1, .int ((x2 + (0 : Int32)) + (hi195 94 j267)), .int (x3 + (1 : Int32))] [] (rx_hp L t hi195 hl195 v195) Q
                  exact k
              · have k := k.2 c266
                show rx_aw 223 145 [.ref 90, .int x1, .int (x2 + (0 : Int32)), .int x3] [.int (x2 + (0 : Int32))] (rx_hp L t hi195 hl195 v195) Q
                refine rx_aw_s 6 (pc := 145) rfl ?_
                refine rx_w_ifn (c := x1 = (7 : Int32)) ⟨fun c272 => ?_, fun c272 => ?_⟩
                · have k := k.1 c272
                  show rx_aw 223 154 [.ref 90, .int x1, .int ((x2 + (0 : Int32)) + (0 : Int32)), .int x3] [] (rx_hp L t hi195 hl195 v195) Q
                  refine rx_aw_s 3 (pc := 154) rfl ?_
                  show rx_aw 223 159 [.ref 90, .int x1, .int ((x2 + (0 : Int32)) + (0 : Int32)), .int x3] [.int x3, .ref 94] (rx_hp L t hi195 hl195 v195) Q
                  obtain ⟨j273, ej273, hj273, k⟩ := k
                  refine rx_aw_iald (pc := 159) (n := 6) j273 ej273 rfl rfl rfl hj273 (by decide) ?_
                  show rx_aw 223 160 [.ref 90, .int x1, .int ((x2 + (0 : Int32)) + (0 : Int32)), .int x3] [.int (hi195 94 j273)] (rx_hp L t hi195 hl195 v195) Q
                  refine rx_aw_s 2 (pc := 160) rfl ?_
                  refine rx_w_if (c := (hi195 94 j273) ≤ ((x2 + (0 : Int32)) + (0 : Int32))) ⟨fun c274 => ?_, fun c274 => ?_⟩
                  · have k := k.1 c274
                    show rx_aw 223 173 [.ref 90, .int x1, .int ((x2 + (0 : Int32)) + (0 : Int32)), .int x3] [] (rx_hp L t hi195 hl195 v195) Q
                    refine rx_aw_s 4 (pc := 173) rfl ?_
                    show rx_aw 223 56 [.ref 90, .int x1, .int ((x2 + (0 : Int32)) + (0 : Int32)), .int (x3 + (1 : Int32))] [] (rx_hp L t hi195 hl195 v195) Q
                    exact k
                  · have k := k.2 c274
                    show rx_aw 223 164 [.ref 90, .int x1, .int ((x2 + (0 : Int32)) + (0 : Int32)), .int x3] [] (rx_hp L t hi195 hl195 v195) Q
                    refine rx_aw_s 3 (pc := 164) rfl ?_
                    show rx_aw 223 169 [.ref 90, .int x1, .int ((x2 + (0 : Int32)) + (0 : Int32)), .int x3] [.int x3, .ref 94] (rx_hp L t hi195 hl195 v195) Q
                    obtain ⟨j275, ej275, hj275, k⟩ := k
                    refine rx_aw_iald (pc := 169) (n := 6) j275 ej275 rfl rfl rfl hj275 (by decide) ?_
                    show rx_aw 223 170 [.ref 90, .int x1, .int ((x2 + (0 : Int32)) + (0 : Int32)), .int x3] [.int (hi195 94 j275)] (rx_hp L t hi195 hl195 v195) Q
                    refine rx_aw_s 4 (pc := 170) rfl ?_
                    show rx_aw 223 56 [.ref 90, .int x1, .int (hi195 94 j275), .int (x3 + (1 : Int32))] [] (rx_hp L t hi195 hl195 v195) Q
                    exact k
                · have k := k.2 c272
                  show rx_aw 223 173 [.ref 90, .int x1, .int ((x2 + (0 : Int32)) + (0 : Int32)), .int x3] [] (rx_hp L t hi195 hl195 v195) Q
                  refine rx_aw_s 4 (pc := 173) rfl ?_
                  show rx_aw 223 56 [.ref 90, .int x1, .int ((x2 + (0 : Int32)) + (0 : Int32)), .int (x3 + (1 : Int32))] [] (rx_hp L t hi195 hl195 v195) Q
                  exact k
        · have k := k.2 c196
          show rx_aw 223 122 [.ref 90, .int x1, .int x2, .int x3] [.int x2] (rx_hp L t hi195 hl195 v195) Q
          refine rx_aw_s 8 (pc := 122) rfl ?_
          refine rx_w_ifn (c := x1 = (6 : Int32)) ⟨fun c276 => ?_, fun c276 => ?_⟩
          · have k := k.1 c276
            show rx_aw 223 136 [.ref 90, .int x1, .int (x2 + (1 : Int32)), .int x3] [.int (x2 + (1 : Int32))] (rx_hp L t hi195 hl195 v195) Q
            refine rx_aw_s 3 (pc := 136) rfl ?_
            show rx_aw 223 141 [.ref 90, .int x1, .int (x2 + (1 : Int32)), .int x3] [.int x3, .ref 94, .int (x2 + (1 : Int32))] (rx_hp L t hi195 hl195 v195) Q
            obtain ⟨j277, ej277, hj277, k⟩ := k
            refine rx_aw_iald (pc := 141) (n := 6) j277 ej277 rfl rfl rfl hj277 (by decide) ?_
            show rx_aw 223 142 [.ref 90, .int x1, .int (x2 + (1 : Int32)), .int x3] [.int (hi195 94 j277), .int (x2 + (1 : Int32))] (rx_hp L t hi195 hl195 v195) Q
            refine rx_aw_s 6 (pc := 142) rfl ?_
            refine rx_w_ifn (c := x1 = (7 : Int32)) ⟨fun c278 => ?_, fun c278 => ?_⟩
            · have k := k.1 c278
              show rx_aw 223 154 [.ref 90, .int x1, .int ((x2 + (1 : Int32)) + (hi195 94 j277)), .int x3] [] (rx_hp L t hi195 hl195 v195) Q
              refine rx_aw_s 3 (pc := 154) rfl ?_
              show rx_aw 223 159 [.ref 90, .int x1, .int ((x2 + (1 : Int32)) + (hi195 94 j277)), .int x3] [.int x3, .ref 94] (rx_hp L t hi195 hl195 v195) Q
              obtain ⟨j279, ej279, hj279, k⟩ := k
              refine rx_aw_iald (pc := 159) (n := 6) j279 ej279 rfl rfl rfl hj279 (by decide) ?_
              show rx_aw 223 160 [.ref 90, .int x1, .int ((x2 + (1 : Int32)) + (hi195 94 j277)), .int x3] [.int (hi195 94 j279)] (rx_hp L t hi195 hl195 v195) Q
              refine rx_aw_s 2 (pc := 160) rfl ?_
              refine rx_w_if (c := (hi195 94 j279) ≤ ((x2 + (1 : Int32)) + (hi195 94 j277))) ⟨fun c280 => ?_, fun c280 => ?_⟩
              · have k := k.1 c280
                show rx_aw 223 173 [.ref 90, .int x1, .int ((x2 + (1 : Int32)) + (hi195 94 j277)), .int x3] [] (rx_hp L t hi195 hl195 v195) Q
                refine rx_aw_s 4 (pc := 173) rfl ?_
                show rx_aw 223 56 [.ref 90, .int x1, .int ((x2 + (1 : Int32)) + (hi195 94 j277)), .int (x3 + (1 : Int32))] [] (rx_hp L t hi195 hl195 v195) Q
                exact k
              · have k := k.2 c280
                show rx_aw 223 164 [.ref 90, .int x1, .int ((x2 + (1 : Int32)) + (hi195 94 j277)), .int x3] [] (rx_hp L t hi195 hl195 v195) Q
                refine rx_aw_s 3 (pc := 164) rfl ?_
                show rx_aw 223 169 [.ref 90, .int x1, .int ((x2 + (1 : Int32)) + (hi195 94 j277)), .int x3] [.int x3, .ref 94] (rx_hp L t hi195 hl195 v195) Q
                obtain ⟨j281, ej281, hj281, k⟩ := k
                refine rx_aw_iald (pc := 169) (n := 6) j281 ej281 rfl rfl rfl hj281 (by decide) ?_
                show rx_aw 223 170 [.ref 90, .int x1, .int ((x2 + (1 : Int32)) + (hi195 94 j277)), .int x3] [.int (hi195 94 j281)] (rx_hp L t hi195 hl195 v195) Q
                refine rx_aw_s 4 (pc := 170) rfl ?_
                show rx_aw 223 56 [.ref 90, .int x1, .int (hi195 94 j281), .int (x3 + (1 : Int32))] [] (rx_hp L t hi195 hl195 v195) Q
                exact k
            · have k := k.2 c278
              show rx_aw 223 173 [.ref 90, .int x1, .int ((x2 + (1 : Int32)) + (hi195 94 j277)), .int x3] [] (rx_hp L t hi195 hl195 v195) Q
              refine rx_aw_s 4 (pc := 173) rfl ?_
              show rx_aw 223 56 [.ref 90, .int x1, .int ((x2 + (1 : Int32)) + (hi195 94 j277)), .int (x3 + (1 : Int32))] [] (rx_hp L t hi195 hl195 v195) Q
              exact k
          · have k := k.2 c276
            show rx_aw 223 145 [.ref 90, .int x1, .int (x2 + (1 : Int32)), .int x3] [.int (x2 + (1 : Int32))] (rx_hp L t hi195 hl195 v195) Q
            refine rx_aw_s 6 (pc := 145) rfl ?_
            refine rx_w_ifn (c := x1 = (7 : Int32)) ⟨fun c282 => ?_, fun c282 => ?_⟩
            · have k := k.1 c282
              show rx_aw 223 154 [.ref 90, .int x1, .int ((x2 + (1 : Int32)) + (0 : Int32)), .int x3] [] (rx_hp L t hi195 hl195 v195) Q
              refine rx_aw_s 3 (pc := 154) rfl ?_
              show rx_aw 223 159 [.ref 90, .int x1, .int ((x2 + (1 : Int32)) + (0 : Int32)), .int x3] [.int x3, .ref 94] (rx_hp L t hi195 hl195 v195) Q
              obtain ⟨j283, ej283, hj283, k⟩ := k
              refine rx_aw_iald (pc := 159) (n := 6) j283 ej283 rfl rfl rfl hj283 (by decide) ?_
              show rx_aw 223 160 [.ref 90, .int x1, .int ((x2 + (1 : Int32)) + (0 : Int32)), .int x3] [.int (hi195 94 j283)] (rx_hp L t hi195 hl195 v195) Q
              refine rx_aw_s 2 (pc := 160) rfl ?_
              refine rx_w_if (c := (hi195 94 j283) ≤ ((x2 + (1 : Int32)) + (0 : Int32))) ⟨fun c284 => ?_, fun c284 => ?_⟩
              · have k := k.1 c284
                show rx_aw 223 173 [.ref 90, .int x1, .int ((x2 + (1 : Int32)) + (0 : Int32)), .int x3] [] (rx_hp L t hi195 hl195 v195) Q
                refine rx_aw_s 4 (pc := 173) rfl ?_
                show rx_aw 223 56 [.ref 90, .int x1, .int ((x2 + (1 : Int32)) + (0 : Int32)), .int (x3 + (1 : Int32))] [] (rx_hp L t hi195 hl195 v195) Q
                exact k
              · have k := k.2 c284
                show rx_aw 223 164 [.ref 90, .int x1, .int ((x2 + (1 : Int32)) + (0 : Int32)), .int x3] [] (rx_hp L t hi195 hl195 v195) Q
                refine rx_aw_s 3 (pc := 164) rfl ?_
                show rx_aw 223 169 [.ref 90, .int x1, .int ((x2 + (1 : Int32)) + (0 : Int32)), .int x3] [.int x3, .ref 94] (rx_hp L t hi195 hl195 v195) Q
                obtain ⟨j285, ej285, hj285, k⟩ := k
                refine rx_aw_iald (pc := 169) (n := 6) j285 ej285 rfl rfl rfl hj285 (by decide) ?_
                show rx_aw 223 170 [.ref 90, .int x1, .int ((x2 + (1 : Int32)) + (0 : Int32)), .int x3] [.int (hi195 94 j285)] (rx_hp L t hi195 hl195 v195) Q
                refine rx_aw_s 4 (pc := 170) rfl ?_
                show rx_aw 223 56 [.ref 90, .int x1, .int (hi195 94 j285), .int (x3 + (1 : Int32))] [] (rx_hp L t hi195 hl195 v195) Q
                exact k
            · have k := k.2 c282
              show rx_aw 223 173 [.ref 90, .int x1, .int ((x2 + (1 : Int32)) + (0 : Int32)), .int x3] [] (rx_hp L t hi195 hl195 v195) Q
              refine rx_aw_s 4 (pc := 173) rfl ?_
              show rx_aw 223 56 [.ref 90, .int x1, .int ((x2 + (1 : Int32)) + (0 : Int32)), .int (x3 + (1 : Int32))] [] (rx_hp L t hi195 hl195 v195) Q
              exact k
      · have k := k.2 c194
        show rx_aw 223 92 [.ref 90, .int x1, .int x2, .int x3] [.int x2] (rx_hp L t hi hl v) Q
        refine rx_aw_s 3 (pc := 92) rfl ?_
        refine rx_w_ifn (c := x1 = (4 : Int32)) ⟨fun c286 => ?_, fun c286 => ?_⟩
        · have k := k.1 c286
          show rx_aw 223 97 [.ref 90, .int x1, .int x2, .int x3] [.int x2] (rx_hp L t hi hl v) Q
          refine rx_aw_s 3 (pc := 97) rfl ?_
          show rx_aw 223 102 [.ref 90, .int x1, .int x2, .int x3] [.int x3, .ref 100, .int x2] (rx_hp L t hi hl v) Q
          obtain ⟨j287, ej287, hj287, k⟩ := k
          refine rx_aw_iald (pc := 102) (n := 6) j287 ej287 rfl rfl rfl hj287 (by decide) ?_
          show rx_aw 223 103 [.ref 90, .int x1, .int x2, .int x3] [.int (hi 100 j287), .int x2] (rx_hp L t hi hl v) Q
          refine rx_aw_s 2 (pc := 103) rfl ?_
          refine rx_w_if (c := (hi 100 j287) = (1 : Int32)) ⟨fun c288 => ?_, fun c288 => ?_⟩
          · have k := k.1 c288
            show rx_aw 223 122 [.ref 90, .int x1, .int x2, .int x3] [.int x2] (rx_hp L t hi hl v) Q
            refine rx_aw_s 8 (pc := 122) rfl ?_
            refine rx_w_ifn (c := x1 = (6 : Int32)) ⟨fun c289 => ?_, fun c289 => ?_⟩
            · have k := k.1 c289
              show rx_aw 223 136 [.ref 90, .int x1, .int (x2 + (1 : Int32)), .int x3] [.int (x2 + (1 : Int32))] (rx_hp L t hi hl v) Q
              refine rx_aw_s 3 (pc := 136) rfl ?_
              show rx_aw 223 141 [.ref 90, .int x1, .int (x2 + (1 : Int32)), .int x3] [.int x3, .ref 94, .int (x2 + (1 : Int32))] (rx_hp L t hi hl v) Q
              obtain ⟨j290, ej290, hj290, k⟩ := k
              refine rx_aw_iald (pc := 141) (n := 6) j290 ej290 rfl rfl rfl hj290 (by decide) ?_
              show rx_aw 223 142 [.ref 90, .int x1, .int (x2 + (1 : Int32)), .int x3] [.int (hi 94 j290), .int (x2 + (1 : Int32))] (rx_hp L t hi hl v) Q
              refine rx_aw_s 6 (pc := 142) rfl ?_
              refine rx_w_ifn (c := x1 = (7 : Int32)) ⟨fun c291 => ?_, fun c291 => ?_⟩
              · have k := k.1 c291
                show rx_aw 223 154 [.ref 90, .int x1, .int ((x2 + (1 : Int32)) + (hi 94 j290)), .int x3] [] (rx_hp L t hi hl v) Q
                refine rx_aw_s 3 (pc := 154) rfl ?_
                show rx_aw 223 159 [.ref 90, .int x1, .int ((x2 + (1 : Int32)) + (hi 94 j290)), .int x3] [.int x3, .ref 94] (rx_hp L t hi hl v) Q
                obtain ⟨j292, ej292, hj292, k⟩ := k
                refine rx_aw_iald (pc := 159) (n := 6) j292 ej292 rfl rfl rfl hj292 (by decide) ?_
                show rx_aw 223 160 [.ref 90, .int x1, .int ((x2 + (1 : Int32)) + (hi 94 j290)), .int x3] [.int (hi 94 j292)] (rx_hp L t hi hl v) Q
                refine rx_aw_s 2 (pc := 160) rfl ?_
                refine rx_w_if (c := (hi 94 j292) ≤ ((x2 + (1 : Int32)) + (hi 94 j290))) ⟨fun c293 => ?_, fun c293 => ?_⟩
                · have k := k.1 c293
                  show rx_aw 223 173 [.ref 90, .int x1, .int ((x2 + (1 : Int32)) + (hi 94 j290)), .int x3] [] (rx_hp L t hi hl v) Q
                  refine rx_aw_s 4 (pc := 173) rfl ?_
                  show rx_aw 223 56 [.ref 90, .int x1, .int ((x2 + (1 : Int32)) + (hi 94 j290)), .int (x3 + (1 : Int32))] [] (rx_hp L t hi hl v) Q
                  exact k
                · have k := k.2 c293
                  show rx_aw 223 164 [.ref 90, .int x1, .int ((x2 + (1 : Int32)) + (hi 94 j290)), .int x3] [] (rx_hp L t hi hl v) Q
                  refine rx_aw_s 3 (pc := 164) rfl ?_
                  show rx_aw 223 169 [.ref 90, .int x1, .int ((x2 + (1 : Int32)) + (hi 94 j290)), .int x3] [.int x3, .ref 94] (rx_hp L t hi hl v) Q
                  obtain ⟨j294, ej294, hj294, k⟩ := k
                  refine rx_aw_iald (pc := 169) (n := 6) j294 ej294 rfl rfl rfl hj294 (by decide) ?_
                  show rx_aw 223 170 [.ref 90, .int x1, .int ((x2 + (1 : Int32)) + (hi 94 j290)), .int x3] [.int (hi 94 j294)] (rx_hp L t hi hl v) Q
                  refine rx_aw_s 4 (pc := 170) rfl ?_
                  show rx_aw 223 56 [.ref 90, .int x1, .int (hi 94 j294), .int (x3 + (1 : Int32))] [] (rx_hp L t hi hl v) Q
                  exact k
              · have k := k.2 c291
                show rx_aw 223 173 [.ref 90, .int x1, .int ((x2 + (1 : Int32)) + (hi 94 j290)), .int x3] [] (rx_hp L t hi hl v) Q
                refine rx_aw_s 4 (pc := 173) rfl ?_
                show rx_aw 223 56 [.ref 90, .int x1, .int ((x2 + (1 : Int32)) + (hi 94 j290)), .int (x3 + (1 : Int32))] [] (rx_hp L t hi hl v) Q
                exact k
            · have k := k.2 c289
              show rx_aw 223 145 [.ref 90, .int x1, .int (x2 + (1 : Int32)), .int x3] [.int (x2 + (1 : Int32))] (rx_hp L t hi hl v) Q
              refine rx_aw_s 6 (pc := 145) rfl ?_
              refine rx_w_ifn (c := x1 = (7 : Int32)) ⟨fun c295 => ?_, fun c295 => ?_⟩
              · have k := k.1 c295
                show rx_aw 223 154 [.ref 90, .int x1, .int ((x2 + (1 : Int32)) + (0 : Int32)), .int x3] [] (rx_hp L t hi hl v) Q
                refine rx_aw_s 3 (pc := 154) rfl ?_
                show rx_aw 223 159 [.ref 90, .int x1, .int ((x2 + (1 : Int32)) + (0 : Int32)), .int x3] [.int x3, .ref 94] (rx_hp L t hi hl v) Q
                obtain ⟨j296, ej296, hj296, k⟩ := k
                refine rx_aw_iald (pc := 159) (n := 6) j296 ej296 rfl rfl rfl hj296 (by decide) ?_
                show rx_aw 223 160 [.ref 90, .int x1, .int ((x2 + (1 : Int32)) + (0 : Int32)), .int x3] [.int (hi 94 j296)] (rx_hp L t hi hl v) Q
                refine rx_aw_s 2 (pc := 160) rfl ?_
                refine rx_w_if (c := (hi 94 j296) ≤ ((x2 + (1 : Int32)) + (0 : Int32))) ⟨fun c297 => ?_, fun c297 => ?_⟩
                · have k := k.1 c297
                  show rx_aw 223 173 [.ref 90, .int x1, .int ((x2 + (1 : Int32)) + (0 : Int32)), .int x3] [] (rx_hp L t hi hl v) Q
                  refine rx_aw_s 4 (pc := 173) rfl ?_
                  show rx_aw 223 56 [.ref 90, .int x1, .int ((x2 + (1 : Int32)) + (0 : Int32)), .int (x3 + (1 : Int32))] [] (rx_hp L t hi hl v) Q
                  exact k
                · have k := k.2 c297
                  show rx_aw 223 164 [.ref 90, .int x1, .int ((x2 + (1 : Int32)) + (0 : Int32)), .int x3] [] (rx_hp L t hi hl v) Q
                  refine rx_aw_s 3 (pc := 164) rfl ?_
                  show rx_aw 223 169 [.ref 90, .int x1, .int ((x2 + (1 : Int32)) + (0 : Int32)), .int x3] [.int x3, .ref 94] (rx_hp L t hi hl v) Q
                  obtain ⟨j298, ej298, hj298, k⟩ := k
                  refine rx_aw_iald (pc := 169) (n := 6) j298 ej298 rfl rfl rfl hj298 (by decide) ?_
                  show rx_aw 223 170 [.ref 90, .int x1, .int ((x2 + (1 : Int32)) + (0 : Int32)), .int x3] [.int (hi 94 j298)] (rx_hp L t hi hl v) Q
                  refine rx_aw_s 4 (pc := 170) rfl ?_
                  show rx_aw 223 56 [.ref 90, .int x1, .int (hi 94 j298), .int (x3 + (1 : Int32))] [] (rx_hp L t hi hl v) Q
                  exact k
              · have k := k.2 c295
                show rx_aw 223 173 [.ref 90, .int x1, .int ((x2 + (1 : Int32)) + (0 : Int32)), .int x3] [] (rx_hp L t hi hl v) Q
                refine rx_aw_s 4 (pc := 173) rfl ?_
                show rx_aw 223 56 [.ref 90, .int x1, .int ((x2 + (1 : Int32)) + (0 : Int32)), .int (x3 + (1 : Int32))] [] (rx_hp L t hi hl v) Q
                exact k
          · have k := k.2 c288
            show rx_aw 223 107 [.ref 90, .int x1, .int x2, .int x3] [.int x2] (rx_hp L t hi hl v) Q
            refine rx_aw_s 3 (pc := 107) rfl ?_
            refine rx_w_ifn (c := x1 = (5 : Int32)) ⟨fun c299 => ?_, fun c299 => ?_⟩
            · have k := k.1 c299
              show rx_aw 223 112 [.ref 90, .int x1, .int x2, .int x3] [.int x2] (rx_hp L t hi hl v) Q
              refine rx_aw_s 3 (pc := 112) rfl ?_
              show rx_aw 223 117 [.ref 90, .int x1, .int x2, .int x3] [.int x3, .ref 100, .int x2] (rx_hp L t hi hl v) Q
              obtain ⟨j300, ej300, hj300, k⟩ := k
              refine rx_aw_iald (pc := 117) (n := 6) j300 ej300 rfl rfl rfl hj300 (by decide) ?_
              show rx_aw 223 118 [.ref 90, .int x1, .int x2, .int x3] [.int (hi 100 j300), .int x2] (rx_hp L t hi hl v) Q
              refine rx_aw_s 2 (pc := 118) rfl ?_
              refine rx_w_ifn (c := (hi 100 j300) = (2 : Int32)) ⟨fun c301 => ?_, fun c301 => ?_⟩
              · have k := k.1 c301
                show rx_aw 223 122 [.ref 90, .int x1, .int x2, .int x3] [.int x2] (rx_hp L t hi hl v) Q
                refine rx_aw_s 8 (pc := 122) rfl ?_
                refine rx_w_ifn (c := x1 = (6 : Int32)) ⟨fun c302 => ?_, fun c302 => ?_⟩
                · have k := k.1 c302
                  show rx_aw 223 136 [.ref 90, .int x1, .int (x2 + (1 : Int32)), .int x3] [.int (x2 + (1 : Int32))] (rx_hp L t hi hl v) Q
                  refine rx_aw_s 3 (pc := 136) rfl ?_
                  show rx_aw 223 141 [.ref 90, .int x1, .int (x2 + (1 : Int32)), .int x3] [.int x3, .ref 94, .int (x2 + (1 : Int32))] (rx_hp L t hi hl v) Q
                  obtain ⟨j303, ej303, hj303, k⟩ := k
                  refine rx_aw_iald (pc := 141) (n := 6) j303 ej303 rfl rfl rfl hj303 (by decide) ?_
                  show rx_aw 223 142 [.ref 90, .int x1, .int (x2 + (1 : Int32)), .int x3] [.int (hi 94 j303), .int (x2 + (1 : Int32))] (rx_hp L t hi hl v) Q
                  refine rx_aw_s 6 (pc := 142) rfl ?_
                  refine rx_w_ifn (c := x1 = (7 : Int32)) ⟨fun c304 => ?_, fun c304 => ?_⟩
                  · have k := k.1 c304
                    show rx_aw 223 154 [.ref 90, .int x1, .int ((x2 + (1 : Int32)) + (hi 94 j303)), .int x3] [] (rx_hp L t hi hl v) Q
                    refine rx_aw_s 3 (pc := 154) rfl ?_
                    show rx_aw 223 159 [.ref 90, .int x1, .int ((x2 + (1 : Int32)) + (hi 94 j303)), .int x3] [.int x3, .ref 94] (rx_hp L t hi hl v) Q
                    obtain ⟨j305, ej305, hj305, k⟩ := k
                    refine rx_aw_iald (pc := 159) (n := 6) j305 ej305 rfl rfl rfl hj305 (by decide) ?_
                    show rx_aw 223 160 [.ref 90, .int x1, .int ((x2 + (1 : Int32)) + (hi 94 j303)), .int x3] [.int (hi 94 j305)] (rx_hp L t hi hl v) Q
                    refine rx_aw_s 2 (pc := 160) rfl ?_
                    refine rx_w_if (c := (hi 94 j305) ≤ ((x2 + (1 : Int32)) + (hi 94 j303))) ⟨fun c306 => ?_, fun c306 => ?_⟩
                    · have k := k.1 c306
                      show rx_aw 223 173 [.ref 90, .int x1, .int ((x2 + (1 : Int32)) + (hi 94 j303)), .int x3] [] (rx_hp L t hi hl v) Q
                      refine rx_aw_s 4 (pc := 173) rfl ?_
                      show rx_aw 223 56 [.ref 90, .int x1, .int ((x2 + (1 : Int32)) + (hi 94 j303)), .int (x3 + (1 : Int32))] [] (rx_hp L t hi hl v) Q
                      exact k
                    · have k := k.2 c306
                      show rx_aw 223 164 [.ref 90, .int x1, .int ((x2 + (1 : Int32)) + (hi 94 j303)), .int x3] [] (rx_hp L t hi hl v) Q
                      refine rx_aw_s 3 (pc := 164) rfl ?_
                      show rx_aw 223 169 [.ref 90, .int x1, .int ((x2 + (1 : Int32)) + (hi 94 j303)), .int x3] [.int x3, .ref 94] (rx_hp L t hi hl v) Q
                      obtain ⟨j307, ej307, hj307, k⟩ := k
                      refine rx_aw_iald (pc := 169) (n := 6) j307 ej307 rfl rfl rfl hj307 (by decide) ?_
                      show rx_aw 223 170 [.ref 90, .int x1, .int ((x2 + (1 : Int32)) + (hi 94 j303)), .int x3] [.int (hi 94 j307)] (rx_hp L t hi hl v) Q
                      refine rx_aw_s 4 (pc := 170) rfl ?_
                      show rx_aw 223 56 [.ref 90, .int x1, .int (hi 94 j307), .int (x3 + (1 : Int32))] [] (rx_hp L t hi hl v) Q
                      exact k
                  · have k := k.2 c304
                    show rx_aw 223 173 [.ref 90, .int x1, .int ((x2 + (1 : Int32)) + (hi 94 j303)), .int x3] [] (rx_hp L t hi hl v) Q
                    refine rx_aw_s 4 (pc := 173) rfl ?_
                    show rx_aw 223 56 [.ref 90, .int x1, .int ((x2 + (1 : Int32)) + (hi 94 j303)), .int (x3 + (1 : Int32))] [] (rx_hp L t hi hl v) Q
                    exact k
                · have k := k.2 c302
                  show rx_aw 223 145 [.ref 90, .int x1, .int (x2 + (1 : Int32)), .int x3] [.int (x2 + (1 : Int32))] (rx_hp L t hi hl v) Q
                  refine rx_aw_s 6 (pc := 145) rfl ?_
                  refine rx_w_ifn (c := x1 = (7 : Int32)) ⟨fun c308 => ?_, fun c308 => ?_⟩
                  · have k := k.1 c308
                    show rx_aw 223 154 [.ref 90, .int x1, .int ((x2 + (1 : Int32)) + (0 : Int32)), .int x3] [] (rx_hp L t hi hl v) Q
                    refine rx_aw_s 3 (pc := 154) rfl ?_
                    show rx_aw 223 159 [.ref 90, .int x1, .int ((x2 + (1 : Int32)) + (0 : Int32)), .int x3] [.int x3, .ref 94] (rx_hp L t hi hl v) Q
                    obtain ⟨j309, ej309, hj309, k⟩ := k
                    refine rx_aw_iald (pc := 159) (n := 6) j309 ej309 rfl rfl rfl hj309 (by decide) ?_
                    show rx_aw 223 160 [.ref 90, .int x1, .int ((x2 + (1 : Int32)) + (0 : Int32)), .int x3] [.int (hi 94 j309)] (rx_hp L t hi hl v) Q
                    refine rx_aw_s 2 (pc := 160) rfl ?_
                    refine rx_w_if (c := (hi 94 j309) ≤ ((x2 + (1 : Int32)) + (0 : Int32))) ⟨fun c310 => ?_, fun c310 => ?_⟩
                    · have k := k.1 c310
                      show rx_aw 223 173 [.ref 90, .int x1, .int ((x2 + (1 : Int32)) + (0 : Int32)), .int x3] [] (rx_hp L t hi hl v) Q
                      refine rx_aw_s 4 (pc := 173) rfl ?_
                      show rx_aw 223 56 [.ref 90, .int x1, .int ((x2 + (1 : Int32)) + (0 : Int32)), .int (x3 + (1 : Int32))] [] (rx_hp L t hi hl v) Q
                      exact k
                    · have k := k.2 c310
                      show rx_aw 223 164 [.ref 90, .int x1, .int ((x2 + (1 : Int32)) + (0 : Int32)), .int x3] [] (rx_hp L t hi hl v) Q
                      refine rx_aw_s 3 (pc := 164) rfl ?_
                      show rx_aw 223 169 [.ref 90, .int x1, .int ((x2 + (1 : Int32)) + (0 : Int32)), .int x3] [.int x3, .ref 94] (rx_hp L t hi hl v) Q
                      obtain ⟨j311, ej311, hj311, k⟩ := k
                      refine rx_aw_iald (pc := 169) (n := 6) j311 ej311 rfl rfl rfl hj311 (by decide) ?_
                      show rx_aw 223 170 [.ref 90, .int x1, .int ((x2 + (1 : Int32)) + (0 : Int32)), .int x3] [.int (hi 94 j311)] (rx_hp L t hi hl v) Q
                      refine rx_aw_s 4 (pc := 170) rfl ?_
                      show rx_aw 223 56 [.ref 90, .int x1, .int (hi 94 j311), .int (x3 + (1 : Int32))] [] (rx_hp L t hi hl v) Q
                      exact k
                  · have k := k.2 c308
                    show rx_aw 223 173 [.ref 90, .int x1, .int ((x2 + (1 : Int32)) + (0 : Int32)), .int x3] [] (rx_hp L t hi hl v) Q
                    refine rx_aw_s 4 (pc := 173) rfl ?_
                    show rx_aw 223 56 [.ref 90, .int x1, .int ((x2 + (1 : Int32)) + (0 : Int32)), .int (x3 + (1 : Int32))] [] (rx_hp L t hi hl v) Q
                    exact k
              · have k := k.2 c301
                show rx_aw 223 126 [.ref 90, .int x1, .int x2, .int x3] [.int x2] (rx_hp L t hi hl v) Q
                refine rx_aw_s 7 (pc := 126) rfl ?_
                refine rx_w_ifn (c := x1 = (6 : Int32)) ⟨fun c312 => ?_, fun c312 => ?_⟩
                · have k := k.1 c312
                  show rx_aw 223 136 [.ref 90, .int x1, .int (x2 + (0 : Int32)), .int x3] [.int (x2 + (0 : Int32))] (rx_hp L t hi hl v) Q
                  refine rx_aw_s 3 (pc := 136) rfl ?_
                  show rx_aw 223 141 [.ref 90, .int x1, .int (x2 + (0 : Int32)), .int x3] [.int x3, .ref 94, .int (x2 + (0 : Int32))] (rx_hp L t hi hl v) Q
                  obtain ⟨j313, ej313, hj313, k⟩ := k
                  refine rx_aw_iald (pc := 141) (n := 6) j313 ej313 rfl rfl rfl hj313 (by decide) ?_
                  show rx_aw 223 142 [.ref 90, .int x1, .int (x2 + (0 : Int32)), .int x3] [.int (hi 94 j313), .int (x2 + (0 : Int32))] (rx_hp L t hi hl v) Q
                  refine rx_aw_s 6 (pc := 142) rfl ?_
                  refine rx_w_ifn (c := x1 = (7 : Int32)) ⟨fun c314 => ?_, fun c314 => ?_⟩
                  · have k := k.1 c314
                    show rx_aw 223 154 [.ref 90, .int x1, .int ((x2 + (0 : Int32)) + (hi 94 j313)), .int x3] [] (rx_hp L t hi hl v) Q
                    refine rx_aw_s 3 (pc := 154) rfl ?_
                    show rx_aw 223 159 [.ref 90, .int x1, .int ((x2 + (0 : Int32)) + (hi 94 j313)), .int x3] [.int x3, .ref 94] (rx_hp L t hi hl v) Q
                    obtain ⟨j315, ej315, hj315, k⟩ := k
                    refine rx_aw_iald (pc := 159) (n := 6) j315 ej315 rfl rfl rfl hj315 (by decide) ?_
                    show rx_aw 223 160 [.ref 90, .int x1, .int ((x2 + (0 : Int32)) + (hi 94 j313)), .int x3] [.int (hi 94 j315)] (rx_hp L t hi hl v) Q
                    refine rx_aw_s 2 (pc := 160) rfl ?_
                    refine rx_w_if (c := (hi 94 j315) ≤ ((x2 + (0 : Int32)) + (hi 94 j313))) ⟨fun c316 => ?_, fun c316 => ?_⟩
                    · have k := k.1 c316
                      show rx_aw 223 173 [.ref 90, .int x1, .int ((x2 + (0 : Int32)) + (hi 94 j313)), .int x3] [] (rx_hp L t hi hl v) Q
                      refine rx_aw_s 4 (pc := 173) rfl ?_
                      show rx_aw 223 56 [.ref 90, .int x1, .int ((x2 + (0 : Int32)) + (hi 94 j313)), .int (x3 + (1 : Int32))] [] (rx_hp L t hi hl v) Q
                      exact k
                    · have k := k.2 c316
                      show rx_aw 223 164 [.ref 90, .int x1, .int ((x2 + (0 : Int32)) + (hi 94 j313)), .int x3] [] (rx_hp L t hi hl v) Q
                      refine rx_aw_s 3 (pc := 164) rfl ?_
                      show rx_aw 223 169 [.ref 90, .int x1, .int ((x2 + (0 : Int32)) + (hi 94 j313)), .int x3] [.int x3, .ref 94] (rx_hp L t hi hl v) Q
                      obtain ⟨j317, ej317, hj317, k⟩ := k
                      refine rx_aw_iald (pc := 169) (n := 6) j317 ej317 rfl rfl rfl hj317 (by decide) ?_
                      show rx_aw 223 170 [.ref 90, .int x1, .int ((x2 + (0 : Int32)) + (hi 94 j313)), .int x3] [.int (hi 94 j317)] (rx_hp L t hi hl v) Q
                      refine rx_aw_s 4 (pc := 170) rfl ?_
                      show rx_aw 223 56 [.ref 90, .int x1, .int (hi 94 j317), .int (x3 + (1 : Int32))] [] (rx_hp L t hi hl v) Q
                      exact k
                  · have k := k.2 c314
                    show rx_aw 223 173 [.ref 90, .int x1, .int ((x2 + (0 : Int32)) + (hi 94 j313)), .int x3] [] (rx_hp L t hi hl v) Q
                    refine rx_aw_s 4 (pc := 173) rfl ?_
                    show rx_aw 223 56 [.ref 90, .int x1, .int ((x2 + (0 : Int32)) + (hi 94 j313)), .int (x3 + (1 : Int32))] [] (rx_hp L t hi hl v) Q
                    exact k
                · have k := k.2 c312
                  show rx_aw 223 145 [.ref 90, .int x1, .int (x2 + (0 : Int32)), .int x3] [.int (x2 + (0 : Int32))] (rx_hp L t hi hl v) Q
                  refine rx_aw_s 6 (pc := 145) rfl ?_
                  refine rx_w_ifn (c := x1 = (7 : Int32)) ⟨fun c318 => ?_, fun c318 => ?_⟩
                  · have k := k.1 c318
                    show rx_aw 223 154 [.ref 90, .int x1, .int ((x2 + (0 : Int32)) + (0 : Int32)), .int x3] [] (rx_hp L t hi hl v) Q
                    refine rx_aw_s 3 (pc := 154) rfl ?_
                    show rx_aw 223 159 [.ref 90, .int x1, .int ((x2 + (0 : Int32)) + (0 : Int32)), .int x3] [.int x3, .ref 94] (rx_hp L t hi hl v) Q
                    obtain ⟨j319, ej319, hj319, k⟩ := k
                    refine rx_aw_iald (pc := 159) (n := 6) j319 ej319 rfl rfl rfl hj319 (by decide) ?_
                    show rx_aw 223 160 [.ref 90, .int x1, .int ((x2 + (0 : Int32)) + (0 : Int32)), .int x3] [.int (hi 94 j319)] (rx_hp L t hi hl v) Q
                    refine rx_aw_s 2 (pc := 160) rfl ?_
                    refine rx_w_if (c := (hi 94 j319) ≤ ((x2 + (0 : Int32)) + (0 : Int32))) ⟨fun c320 => ?_, fun c320 => ?_⟩
                    · have k := k.1 c320
                      show rx_aw 223 173 [.ref 90, .int x1, .int ((x2 + (0 : Int32)) + (0 : Int32)), .int x3] [] (rx_hp L t hi hl v) Q
                      refine rx_aw_s 4 (pc := 173) rfl ?_
                      show rx_aw 223 56 [.ref 90, .int x1, .int ((x2 + (0 : Int32)) + (0 : Int32)), .int (x3 + (1 : Int32))] [] (rx_hp L t hi hl v) Q
                      exact k
                    · have k := k.2 c320
                      show rx_aw 223 164 [.ref 90, .int x1, .int ((x2 + (0 : Int32)) + (0 : Int32)), .int x3] [] (rx_hp L t hi hl v) Q
                      refine rx_aw_s 3 (pc := 164) rfl ?_
                      show rx_aw 223 169 [.ref 90, .int x1, .int ((x2 + (0 : Int32)) + (0 : Int32)), .int x3] [.int x3, .ref 94] (rx_hp L t hi hl v) Q
                      obtain ⟨j321, ej321, hj321, k⟩ := k
                      refine rx_aw_iald (pc := 169) (n := 6) j321 ej321 rfl rfl rfl hj321 (by decide) ?_
                      show rx_aw 223 170 [.ref 90, .int x1, .int ((x2 + (0 : Int32)) + (0 : Int32)), .int x3] [.int (hi 94 j321)] (rx_hp L t hi hl v) Q
                      refine rx_aw_s 4 (pc := 170) rfl ?_
                      show rx_aw 223 56 [.ref 90, .int x1, .int (hi 94 j321), .int (x3 + (1 : Int32))] [] (rx_hp L t hi hl v) Q
                      exact k
                  · have k := k.2 c318
                    show rx_aw 223 173 [.ref 90, .int x1, .int ((x2 + (0 : Int32)) + (0 : Int32)), .int x3] [] (rx_hp L t hi hl v) Q
                    refine rx_aw_s 4 (pc := 173) rfl ?_
                    show rx_aw 223 56 [.ref 90, .int x1, .int ((x2 + (0 : Int32)) + (0 : Int32)), .int (x3 + (1 : Int32))] [] (rx_hp L t hi hl v) Q
                    exact k
            · have k := k.2 c299
              show rx_aw 223 126 [.ref 90, .int x1, .int x2, .int x3] [.int x2] (rx_hp L t hi hl v) Q
              refine rx_aw_s 7 (pc := 126) rfl ?_
              refine rx_w_ifn (c := x1 = (6 : Int32)) ⟨fun c322 => ?_, fun c322 => ?_⟩
              · have k := k.1 c322
                show rx_aw 223 136 [.ref 90, .int x1, .int (x2 + (0 : Int32)), .int x3] [.int (x2 + (0 : Int32))] (rx_hp L t hi hl v) Q
                refine rx_aw_s 3 (pc := 136) rfl ?_
                show rx_aw 223 141 [.ref 90, .int x1, .int (x2 + (0 : Int32)), .int x3] [.int x3, .ref 94, .int (x2 + (0 : Int32))] (rx_hp L t hi hl v) Q
                obtain ⟨j323, ej323, hj323, k⟩ := k
                refine rx_aw_iald (pc := 141) (n := 6) j323 ej323 rfl rfl rfl hj323 (by decide) ?_
                show rx_aw 223 142 [.ref 90, .int x1, .int (x2 + (0 : Int32)), .int x3] [.int (hi 94 j323), .int (x2 + (0 : Int32))] (rx_hp L t hi hl v) Q
                refine rx_aw_s 6 (pc := 142) rfl ?_
                refine rx_w_ifn (c := x1 = (7 : Int32)) ⟨fun c324 => ?_, fun c324 => ?_⟩
                · have k := k.1 c324
                  show rx_aw 223 154 [.ref 90, .int x1, .int ((x2 + (0 : Int32)) + (hi 94 j323)), .int x3] [] (rx_hp L t hi hl v) Q
                  refine rx_aw_s 3 (pc := 154) rfl ?_
                  show rx_aw 223 159 [.ref 90, .int x1, .int ((x2 + (0 : Int32)) + (hi 94 j323)), .int x3] [.int x3, .ref 94] (rx_hp L t hi hl v) Q
                  obtain ⟨j325, ej325, hj325, k⟩ := k
                  refine rx_aw_iald (pc := 159) (n := 6) j325 ej325 rfl rfl rfl hj325 (by decide) ?_
                  show rx_aw 223 160 [.ref 90, .int x1, .int ((x2 + (0 : Int32)) + (hi 94 j323)), .int x3] [.int (hi 94 j325)] (rx_hp L t hi hl v) Q
                  refine rx_aw_s 2 (pc := 160) rfl ?_
                  refine rx_w_if (c := (hi 94 j325) ≤ ((x2 + (0 : Int32)) + (hi 94 j323))) ⟨fun c326 => ?_, fun c326 => ?_⟩
                  · have k := k.1 c326
                    show rx_aw 223 173 [.ref 90, .int x1, .int ((x2 + (0 : Int32)) + (hi 94 j323)), .int x3] [] (rx_hp L t hi hl v) Q
                    refine rx_aw_s 4 (pc := 173) rfl ?_
                    show rx_aw 223 56 [.ref 90, .int x1, .int ((x2 + (0 : Int32)) + (hi 94 j323)), .int (x3 + (1 : Int32))] [] (rx_hp L t hi hl v) Q
                    exact k
                  · have k := k.2 c326
                    show rx_aw 223 164 [.ref 90, .int x1, .int ((x2 + (0 : Int32)) + (hi 94 j323)), .int x3] [] (rx_hp L t hi hl v) Q
                    refine rx_aw_s 3 (pc := 164) rfl ?_
                    show rx_aw 223 169 [.ref 90, .int x1, .int ((x2 + (0 : Int32)) + (hi 94 j323)), .int x3] [.int x3, .ref 94] (rx_hp L t hi hl v) Q
                    obtain ⟨j327, ej327, hj327, k⟩ := k
                    refine rx_aw_iald (pc := 169) (n := 6) j327 ej327 rfl rfl rfl hj327 (by decide) ?_
                    show rx_aw 223 170 [.ref 90, .int x1, .int ((x2 + (0 : Int32)) + (hi 94 j323)), .int x3] [.int (hi 94 j327)] (rx_hp L t hi hl v) Q
                    refine rx_aw_s 4 (pc := 170) rfl ?_
                    show rx_aw 223 56 [.ref 90, .int x1, .int (hi 94 j327), .int (x3 + (1 : Int32))] [] (rx_hp L t hi hl v) Q
                    exact k
                · have k := k.2 c324
                  show rx_aw 223 173 [.ref 90, .int x1, .int ((x2 + (0 : Int32)) + (hi 94 j323)), .int x3] [] (rx_hp L t hi hl v) Q
                  refine rx_aw_s 4 (pc := 173) rfl ?_
                  show rx_aw 223 56 [.ref 90, .int x1, .int ((x2 + (0 : Int32)) + (hi 94 j323)), .int (x3 + (1 : Int32))] [] (rx_hp L t hi hl v) Q
                  exact k
              · have k := k.2 c322
                show rx_aw 223 145 [.ref 90, .int x1, .int (x2 + (0 : Int32)), .int x3] [.int (x2 + (0 : Int32))] (rx_hp L t hi hl v) Q
                refine rx_aw_s 6 (pc := 145) rfl ?_
                refine rx_w_ifn (c := x1 = (7 : Int32)) ⟨fun c328 => ?_, fun c328 => ?_⟩
                · have k := k.1 c328
                  show rx_aw 223 154 [.ref 90, .int x1, .int ((x2 + (0 : Int32)) + (0 : Int32)), .int x3] [] (rx_hp L t hi hl v) Q
                  refine rx_aw_s 3 (pc := 154) rfl ?_
                  show rx_aw 223 159 [.ref 90, .int x1, .int ((x2 + (0 : Int32)) + (0 : Int32)), .int x3] [.int x3, .ref 94] (rx_hp L t hi hl v) Q
                  obtain ⟨j329, ej329, hj329, k⟩ := k
                  refine rx_aw_iald (pc := 159) (n := 6) j329 ej329 rfl rfl rfl hj329 (by decide) ?_
                  show rx_aw 223 160 [.ref 90, .int x1, .int ((x2 + (0 : Int32)) + (0 : Int32)), .int x3] [.int (hi 94 j329)] (rx_hp L t hi hl v) Q
                  refine rx_aw_s 2 (pc := 160) rfl ?_
                  refine rx_w_if (c := (hi 94 j329) ≤ ((x2 + (0 : Int32)) + (0 : Int32))) ⟨fun c330 => ?_, fun c330 => ?_⟩
                  · have k := k.1 c330
                    show rx_aw 223 173 [.ref 90, .int x1, .int ((x2 + (0 : Int32)) + (0 : Int32)), .int x3] [] (rx_hp L t hi hl v) Q
                    refine rx_aw_s 4 (pc := 173) rfl ?_
                    show rx_aw 223 56 [.ref 90, .int x1, .int ((x2 + (0 : Int32)) + (0 : Int32)), .int (x3 + (1 : Int32))] [] (rx_hp L t hi hl v) Q
                    exact k
                  · have k := k.2 c330
                    show rx_aw 223 164 [.ref 90, .int x1, .int ((x2 + (0 : Int32)) + (0 : Int32)), .int x3] [] (rx_hp L t hi hl v) Q
                    refine rx_aw_s 3 (pc := 164) rfl ?_
                    show rx_aw 223 169 [.ref 90, .int x1, .int ((x2 + (0 : Int32)) + (0 : Int32)), .int x3] [.int x3, .ref 94] (rx_hp L t hi hl v) Q
                    obtain ⟨j331, ej331, hj331, k⟩ := k
                    refine rx_aw_iald (pc := 169) (n := 6) j331 ej331 rfl rfl rfl hj331 (by decide) ?_
                    show rx_aw 223 170 [.ref 90, .int x1, .int ((x2 + (0 : Int32)) + (0 : Int32)), .int x3] [.int (hi 94 j331)] (rx_hp L t hi hl v) Q
                    refine rx_aw_s 4 (pc := 170) rfl ?_
                    show rx_aw 223 56 [.ref 90, .int x1, .int (hi 94 j331), .int (x3 + (1 : Int32))] [] (rx_hp L t hi hl v) Q
                    exact k
                · have k := k.2 c328
                  show rx_aw 223 173 [.ref 90, .int x1, .int ((x2 + (0 : Int32)) + (0 : Int32)), .int x3] [] (rx_hp L t hi hl v) Q
                  refine rx_aw_s 4 (pc := 173) rfl ?_
                  show rx_aw 223 56 [.ref 90, .int x1, .int ((x2 + (0 : Int32)) + (0 : Int32)), .int (x3 + (1 : Int32))] [] (rx_hp L t hi hl v) Q
                  exact k
        · have k := k.2 c286
          show rx_aw 223 107 [.ref 90, .int x1, .int x2, .int x3] [.int x2] (rx_hp L t hi hl v) Q
          refine rx_aw_s 3 (pc := 107) rfl ?_
          refine rx_w_ifn (c := x1 = (5 : Int32)) ⟨fun c332 => ?_, fun c332 => ?_⟩
          · have k := k.1 c332
            show rx_aw 223 112 [.ref 90, .int x1, .int x2, .int x3] [.int x2] (rx_hp L t hi hl v) Q
            refine rx_aw_s 3 (pc := 112) rfl ?_
            show rx_aw 223 117 [.ref 90, .int x1, .int x2, .int x3] [.int x3, .ref 100, .int x2] (rx_hp L t hi hl v) Q
            obtain ⟨j333, ej333, hj333, k⟩ := k
            refine rx_aw_iald (pc := 117) (n := 6) j333 ej333 rfl rfl rfl hj333 (by decide) ?_
            show rx_aw 223 118 [.ref 90, .int x1, .int x2, .int x3] [.int (hi 100 j333), .int x2] (rx_hp L t hi hl v) Q
            refine rx_aw_s 2 (pc := 118) rfl ?_
            refine rx_w_ifn (c := (hi 100 j333) = (2 : Int32)) ⟨fun c334 => ?_, fun c334 => ?_⟩
            · have k := k.1 c334
              show rx_aw 223 122 [.ref 90, .int x1, .int x2, .int x3] [.int x2] (rx_hp L t hi hl v) Q
              refine rx_aw_s 8 (pc := 122) rfl ?_
              refine rx_w_ifn (c := x1 = (6 : Int32)) ⟨fun c335 => ?_, fun c335 => ?_⟩
              · have k := k.1 c335
                show rx_aw 223 136 [.ref 90, .int x1, .int (x2 + (1 : Int32)), .int x3] [.int (x2 + (1 : Int32))] (rx_hp L t hi hl v) Q
                refine rx_aw_s 3 (pc := 136) rfl ?_
                show rx_aw 223 141 [.ref 90, .int x1, .int (x2 + (1 : Int32)), .int x3] [.int x3, .ref 94, .int (x2 + (1 : Int32))] (rx_hp L t hi hl v) Q
                obtain ⟨j336, ej336, hj336, k⟩ := k
                refine rx_aw_iald (pc := 141) (n := 6) j336 ej336 rfl rfl rfl hj336 (by decide) ?_
                show rx_aw 223 142 [.ref 90, .int x1, .int (x2 + (1 : Int32)), .int x3] [.int (hi 94 j336), .int (x2 + (1 : Int32))] (rx_hp L t hi hl v) Q
                refine rx_aw_s 6 (pc := 142) rfl ?_
                refine rx_w_ifn (c := x1 = (7 : Int32)) ⟨fun c337 => ?_, fun c337 => ?_⟩
                · have k := k.1 c337
                  show rx_aw 223 154 [.ref 90, .int x1, .int ((x2 + (1 : Int32)) + (hi 94 j336)), .int x3] [] (rx_hp L t hi hl v) Q
                  refine rx_aw_s 3 (pc := 154) rfl ?_
                  show rx_aw 223 159 [.ref 90, .int x1, .int ((x2 + (1 : Int32)) + (hi 94 j336)), .int x3] [.int x3, .ref 94] (rx_hp L t hi hl v) Q
                  obtain ⟨j338, ej338, hj338, k⟩ := k
                  refine rx_aw_iald (pc := 159) (n := 6) j338 ej338 rfl rfl rfl hj338 (by decide) ?_
                  show rx_aw 223 160 [.ref 90, .int x1, .int ((x2 + (1 : Int32)) + (hi 94 j336)), .int x3] [.int (hi 94 j338)] (rx_hp L t hi hl v) Q
                  refine rx_aw_s 2 (pc := 160) rfl ?_
                  refine rx_w_if (c := (hi 94 j338) ≤ ((x2 + (1 : Int32)) + (hi 94 j336))) ⟨fun c339 => ?_, fun c339 => ?_⟩
                  · have k := k.1 c339
                    show rx_aw 223 173 [.ref 90, .int x1, .int ((x2 + (1 : Int32)) + (hi 94 j336)), .int x3] [] (rx_hp L t hi hl v) Q
                    refine rx_aw_s 4 (pc := 173) rfl ?_
                    show rx_aw 223 56 [.ref 90, .int x1, .int ((x2 + (1 : Int32)) + (hi 94 j336)), .int (x3 + (1 : Int32))] [] (rx_hp L t hi hl v) Q
                    exact k
                  · have k := k.2 c339
                    show rx_aw 223 164 [.ref 90, .int x1, .int ((x2 + (1 : Int32)) + (hi 94 j336)), .int x3] [] (rx_hp L t hi hl v) Q
                    refine rx_aw_s 3 (pc := 164) rfl ?_
                    show rx_aw 223 169 [.ref 90, .int x1, .int ((x2 + (1 : Int32)) + (hi 94 j336)), .int x3] [.int x3, .ref 94] (rx_hp L t hi hl v) Q
                    obtain ⟨j340, ej340, hj340, k⟩ := k
                    refine rx_aw_iald (pc := 169) (n := 6) j340 ej340 rfl rfl rfl hj340 (by decide) ?_
                    show rx_aw 223 170 [.ref 90, .int x1, .int ((x2 + (1 : Int32)) + (hi 94 j336)), .int x3] [.int (hi 94 j340)] (rx_hp L t hi hl v) Q
                    refine rx_aw_s 4 (pc := 170) rfl ?_
                    show rx_aw 223 56 [.ref 90, .int x1, .int (hi 94 j340), .int (x3 + (1 : Int32))] [] (rx_hp L t hi hl v) Q
                    exact k
                · have k := k.2 c337
                  show rx_aw 223 173 [.ref 90, .int x1, .int ((x2 + (1 : Int32)) + (hi 94 j336)), .int x3] [] (rx_hp L t hi hl v) Q
                  refine rx_aw_s 4 (pc := 173) rfl ?_
                  show rx_aw 223 56 [.ref 90, .int x1, .int ((x2 + (1 : Int32)) + (hi 94 j336)), .int (x3 + (1 : Int32))] [] (rx_hp L t hi hl v) Q
                  exact k
              · have k := k.2 c335
                show rx_aw 223 145 [.ref 90, .int x1, .int (x2 + (1 : Int32)), .int x3] [.int (x2 + (1 : Int32))] (rx_hp L t hi hl v) Q
                refine rx_aw_s 6 (pc := 145) rfl ?_
                refine rx_w_ifn (c := x1 = (7 : Int32)) ⟨fun c341 => ?_, fun c341 => ?_⟩
                · have k := k.1 c341
                  show rx_aw 223 154 [.ref 90, .int x1, .int ((x2 + (1 : Int32)) + (0 : Int32)), .int x3] [] (rx_hp L t hi hl v) Q
                  refine rx_aw_s 3 (pc := 154) rfl ?_
                  show rx_aw 223 159 [.ref 90, .int x1, .int ((x2 + (1 : Int32)) + (0 : Int32)), .int x3] [.int x3, .ref 94] (rx_hp L t hi hl v) Q
                  obtain ⟨j342, ej342, hj342, k⟩ := k
                  refine rx_aw_iald (pc := 159) (n := 6) j342 ej342 rfl rfl rfl hj342 (by decide) ?_
                  show rx_aw 223 160 [.ref 90, .int x1, .int ((x2 + (1 : Int32)) + (0 : Int32)), .int x3] [.int (hi 94 j342)] (rx_hp L t hi hl v) Q
                  refine rx_aw_s 2 (pc := 160) rfl ?_
                  refine rx_w_if (c := (hi 94 j342) ≤ ((x2 + (1 : Int32)) + (0 : Int32))) ⟨fun c343 => ?_, fun c343 => ?_⟩
                  · have k := k.1 c343
                    show rx_aw 223 173 [.ref 90, .int x1, .int ((x2 + (1 : Int32)) + (0 : Int32)), .int x3] [] (rx_hp L t hi hl v) Q
                    refine rx_aw_s 4 (pc := 173) rfl ?_
                    show rx_aw 223 56 [.ref 90, .int x1, .int ((x2 + (1 : Int32)) + (0 : Int32)), .int (x3 + (1 : Int32))] [] (rx_hp L t hi hl v) Q
                    exact k
                  · have k := k.2 c343
                    show rx_aw 223 164 [.ref 90, .int x1, .int ((x2 + (1 : Int32)) + (0 : Int32)), .int x3] [] (rx_hp L t hi hl v) Q
                    refine rx_aw_s 3 (pc := 164) rfl ?_
                    show rx_aw 223 169 [.ref 90, .int x1, .int ((x2 + (1 : Int32)) + (0 : Int32)), .int x3] [.int x3, .ref 94] (rx_hp L t hi hl v) Q
                    obtain ⟨j344, ej344, hj344, k⟩ := k
                    refine rx_aw_iald (pc := 169) (n := 6) j344 ej344 rfl rfl rfl hj344 (by decide) ?_
                    show rx_aw 223 170 [.ref 90, .int x1, .int ((x2 + (1 : Int32)) + (0 : Int32)), .int x3] [.int (hi 94 j344)] (rx_hp L t hi hl v) Q
                    refine rx_aw_s 4 (pc := 170) rfl ?_
                    show rx_aw 223 56 [.ref 90, .int x1, .int (hi 94 j344), .int (x3 + (1 : Int32))] [] (rx_hp L t hi hl v) Q
                    exact k
                · have k := k.2 c341
                  show rx_aw 223 173 [.ref 90, .int x1, .int ((x2 + (1 : Int32)) + (0 : Int32)), .int x3] [] (rx_hp L t hi hl v) Q
                  refine rx_aw_s 4 (pc := 173) rfl ?_
                  show rx_aw 223 56 [.ref 90, .int x1, .int ((x2 + (1 : Int32)) + (0 : Int32)), .int (x3 + (1 : Int32))] [] (rx_hp L t hi hl v) Q
                  exact k
            · have k := k.2 c334
              show rx_aw 223 126 [.ref 90, .int x1, .int x2, .int x3] [.int x2] (rx_hp L t hi hl v) Q
              refine rx_aw_s 7 (pc := 126) rfl ?_
              refine rx_w_ifn (c := x1 = (6 : Int32)) ⟨fun c345 => ?_, fun c345 => ?_⟩
              · have k := k.1 c345
                show rx_aw 223 136 [.ref 90, .int x1, .int (x2 + (0 : Int32)), .int x3] [.int (x2 + (0 : Int32))] (rx_hp L t hi hl v) Q
                refine rx_aw_s 3 (pc := 136) rfl ?_
                show rx_aw 223 141 [.ref 90, .int x1, .int (x2 + (0 : Int32)), .int x3] [.int x3, .ref 94, .int (x2 + (0 : Int32))] (rx_hp L t hi hl v) Q
                obtain ⟨j346, ej346, hj346, k⟩ := k
                refine rx_aw_iald (pc := 141) (n := 6) j346 ej346 rfl rfl rfl hj346 (by decide) ?_
                show rx_aw 223 142 [.ref 90, .int x1, .int (x2 + (0 : Int32)), .int x3] [.int (hi 94 j346), .int (x2 + (0 : Int32))] (rx_hp L t hi hl v) Q
                refine rx_aw_s 6 (pc := 142) rfl ?_
                refine rx_w_ifn (c := x1 = (7 : Int32)) ⟨fun c347 => ?_, fun c347 => ?_⟩
                · have k := k.1 c347
                  show rx_aw 223 154 [.ref 90, .int x1, .int ((x2 + (0 : Int32)) + (hi 94 j346)), .int x3] [] (rx_hp L t hi hl v) Q
                  refine rx_aw_s 3 (pc := 154) rfl ?_
                  show rx_aw 223 159 [.ref 90, .int x1, .int ((x2 + (0 : Int32)) + (hi 94 j346)), .int x3] [.int x3, .ref 94] (rx_hp L t hi hl v) Q
                  obtain ⟨j348, ej348, hj348, k⟩ := k
                  refine rx_aw_iald (pc := 159) (n := 6) j348 ej348 rfl rfl rfl hj348 (by decide) ?_
                  show rx_aw 223 160 [.ref 90, .int x1, .int ((x2 + (0 : Int32)) + (hi 94 j346)), .int x3] [.int (hi 94 j348)] (rx_hp L t hi hl v) Q
                  refine rx_aw_s 2 (pc := 160) rfl ?_
                  refine rx_w_if (c := (hi 94 j348) ≤ ((x2 + (0 : Int32)) + (hi 94 j346))) ⟨fun c349 => ?_, fun c349 => ?_⟩
                  · have k := k.1 c349
                    show rx_aw 223 173 [.ref 90, .int x1, .int ((x2 + (0 : Int32)) + (hi 94 j346)), .int x3] [] (rx_hp L t hi hl v) Q
                    refine rx_aw_s 4 (pc := 173) rfl ?_
                    show rx_aw 223 56 [.ref 90, .int x1, .int ((x2 + (0 : Int32)) + (hi 94 j346)), .int (x3 + (1 : Int32))] [] (rx_hp L t hi hl v) Q
                    exact k
                  · have k := k.2 c349
                    show rx_aw 223 164 [.ref 90, .int x1, .int ((x2 + (0 : Int32)) + (hi 94 j346)), .int x3] [] (rx_hp L t hi hl v) Q
                    refine rx_aw_s 3 (pc := 164) rfl ?_
                    show rx_aw 223 169 [.ref 90, .int x1, .int ((x2 + (0 : Int32)) + (hi 94 j346)), .int x3] [.int x3, .ref 94] (rx_hp L t hi hl v) Q
                    obtain ⟨j350, ej350, hj350, k⟩ := k
                    refine rx_aw_iald (pc := 169) (n := 6) j350 ej350 rfl rfl rfl hj350 (by decide) ?_
                    show rx_aw 223 170 [.ref 90, .int x1, .int ((x2 + (0 : Int32)) + (hi 94 j346)), .int x3] [.int (hi 94 j350)] (rx_hp L t hi hl v) Q
                    refine rx_aw_s 4 (pc := 170) rfl ?_
                    show rx_aw 223 56 [.ref 90, .int x1, .int (hi 94 j350), .int (x3 + (1 : Int32))] [] (rx_hp L t hi hl v) Q
                    exact k
                · have k := k.2 c347
                  show rx_aw 223 173 [.ref 90, .int x1, .int ((x2 + (0 : Int32)) + (hi 94 j346)), .int x3] [] (rx_hp L t hi hl v) Q
                  refine rx_aw_s 4 (pc := 173) rfl ?_
                  show rx_aw 223 56 [.ref 90, .int x1, .int ((x2 + (0 : Int32)) + (hi 94 j346)), .int (x3 + (1 : Int32))] [] (rx_hp L t hi hl v) Q
                  exact k
              · have k := k.2 c345
                show rx_aw 223 145 [.ref 90, .int x1, .int (x2 + (0 : Int32)), .int x3] [.int (x2 + (0 : Int32))] (rx_hp L t hi hl v) Q
                refine rx_aw_s 6 (pc := 145) rfl ?_
                refine rx_w_ifn (c := x1 = (7 : Int32)) ⟨fun c351 => ?_, fun c351 => ?_⟩
                · have k := k.1 c351
                  show rx_aw 223 154 [.ref 90, .int x1, .int ((x2 + (0 : Int32)) + (0 : Int32)), .int x3] [] (rx_hp L t hi hl v) Q
                  refine rx_aw_s 3 (pc := 154) rfl ?_
                  show rx_aw 223 159 [.ref 90, .int x1, .int ((x2 + (0 : Int32)) + (0 : Int32)), .int x3] [.int x3, .ref 94] (rx_hp L t hi hl v) Q
                  obtain ⟨j352, ej352, hj352, k⟩ := k
                  refine rx_aw_iald (pc := 159) (n := 6) j352 ej352 rfl rfl rfl hj352 (by decide) ?_
                  show rx_aw 223 160 [.ref 90, .int x1, .int ((x2 + (0 : Int32)) + (0 : Int32)), .int x3] [.int (hi 94 j352)] (rx_hp L t hi hl v) Q
                  refine rx_aw_s 2 (pc := 160) rfl ?_
                  refine rx_w_if (c := (hi 94 j352) ≤ ((x2 + (0 : Int32)) + (0 : Int32))) ⟨fun c353 => ?_, fun c353 => ?_⟩
                  · have k := k.1 c353
                    show rx_aw 223 173 [.ref 90, .int x1, .int ((x2 + (0 : Int32)) + (0 : Int32)), .int x3] [] (rx_hp L t hi hl v) Q
                    refine rx_aw_s 4 (pc := 173) rfl ?_
                    show rx_aw 223 56 [.ref 90, .int x1, .int ((x2 + (0 : Int32)) + (0 : Int32)), .int (x3 + (1 : Int32))] [] (rx_hp L t hi hl v) Q
                    exact k
                  · have k := k.2 c353
                    show rx_aw 223 164 [.ref 90, .int x1, .int ((x2 + (0 : Int32)) + (0 : Int32)), .int x3] [] (rx_hp L t hi hl v) Q
                    refine rx_aw_s 3 (pc := 164) rfl ?_
                    show rx_aw 223 169 [.ref 90, .int x1, .int ((x2 + (0 : Int32)) + (0 : Int32)), .int x3] [.int x3, .ref 94] (rx_hp L t hi hl v) Q
                    obtain ⟨j354, ej354, hj354, k⟩ := k
                    refine rx_aw_iald (pc := 169) (n := 6) j354 ej354 rfl rfl rfl hj354 (by decide) ?_
                    show rx_aw 223 170 [.ref 90, .int x1, .int ((x2 + (0 : Int32)) + (0 : Int32)), .int x3] [.int (hi 94 j354)] (rx_hp L t hi hl v) Q
                    refine rx_aw_s 4 (pc := 170) rfl ?_
                    show rx_aw 223 56 [.ref 90, .int x1, .int (hi 94 j354), .int (x3 + (1 : Int32))] [] (rx_hp L t hi hl v) Q
                    exact k
                · have k := k.2 c351
                  show rx_aw 223 173 [.ref 90, .int x1, .int ((x2 + (0 : Int32)) + (0 : Int32)), .int x3] [] (rx_hp L t hi hl v) Q
                  refine rx_aw_s 4 (pc := 173) rfl ?_
                  show rx_aw 223 56 [.ref 90, .int x1, .int ((x2 + (0 : Int32)) + (0 : Int32)), .int (x3 + (1 : Int32))] [] (rx_hp L t hi hl v) Q
                  exact k
          · have k := k.2 c332
            show rx_aw 223 126 [.ref 90, .int x1, .int x2, .int x3] [.int x2] (rx_hp L t hi hl v) Q
            refine rx_aw_s 7 (pc := 126) rfl ?_
            refine rx_w_ifn (c := x1 = (6 : Int32)) ⟨fun c355 => ?_, fun c355 => ?_⟩
            · have k := k.1 c355
              show rx_aw 223 136 [.ref 90, .int x1, .int (x2 + (0 : Int32)), .int x3] [.int (x2 + (0 : Int32))] (rx_hp L t hi hl v) Q
              refine rx_aw_s 3 (pc := 136) rfl ?_
              show rx_aw 223 141 [.ref 90, .int x1, .int (x2 + (0 : Int32)), .int x3] [.int x3, .ref 94, .int (x2 + (0 : Int32))] (rx_hp L t hi hl v) Q
              obtain ⟨j356, ej356, hj356, k⟩ := k
              refine rx_aw_iald (pc := 141) (n := 6) j356 ej356 rfl rfl rfl hj356 (by decide) ?_
              show rx_aw 223 142 [.ref 90, .int x1, .int (x2 + (0 : Int32)), .int x3] [.int (hi 94 j356), .int (x2 + (0 : Int32))] (rx_hp L t hi hl v) Q
              refine rx_aw_s 6 (pc := 142) rfl ?_
              refine rx_w_ifn (c := x1 = (7 : Int32)) ⟨fun c357 => ?_, fun c357 => ?_⟩
              · have k := k.1 c357
                show rx_aw 223 154 [.ref 90, .int x1, .int ((x2 + (0 : Int32)) + (hi 94 j356)), .int x3] [] (rx_hp L t hi hl v) Q
                refine rx_aw_s 3 (pc := 154) rfl ?_
                show rx_aw 223 159 [.ref 90, .int x1, .int ((x2 + (0 : Int32)) + (hi 94 j356)), .int x3] [.int x3, .ref 94] (rx_hp L t hi hl v) Q
                obtain ⟨j358, ej358, hj358, k⟩ := k
                refine rx_aw_iald (pc := 159) (n := 6) j358 ej358 rfl rfl rfl hj358 (by decide) ?_
                show rx_aw 223 160 [.ref 90, .int x1, .int ((x2 + (0 : Int32)) + (hi 94 j356)), .int x3] [.int (hi 94 j358)] (rx_hp L t hi hl v) Q
                refine rx_aw_s 2 (pc := 160) rfl ?_
                refine rx_w_if (c := (hi 94 j358) ≤ ((x2 + (0 : Int32)) + (hi 94 j356))) ⟨fun c359 => ?_, fun c359 => ?_⟩
                · have k := k.1 c359
                  show rx_aw 223 173 [.ref 90, .int x1, .int ((x2 + (0 : Int32)) + (hi 94 j356)), .int x3] [] (rx_hp L t hi hl v) Q
                  refine rx_aw_s 4 (pc := 173) rfl ?_
                  show rx_aw 223 56 [.ref 90, .int x1, .int ((x2 + (0 : Int32)) + (hi 94 j356)), .int (x3 + (1 : Int32))] [] (rx_hp L t hi hl v) Q
                  exact k
                · have k := k.2 c359
                  show rx_aw 223 164 [.ref 90, .int x1, .int ((x2 + (0 : Int32)) + (hi 94 j356)), .int x3] [] (rx_hp L t hi hl v) Q
                  refine rx_aw_s 3 (pc := 164) rfl ?_
                  show rx_aw 223 169 [.ref 90, .int x1, .int ((x2 + (0 : Int32)) + (hi 94 j356)), .int x3] [.int x3, .ref 94] (rx_hp L t hi hl v) Q
                  obtain ⟨j360, ej360, hj360, k⟩ := k
                  refine rx_aw_iald (pc := 169) (n := 6) j360 ej360 rfl rfl rfl hj360 (by decide) ?_
                  show rx_aw 223 170 [.ref 90, .int x1, .int ((x2 + (0 : Int32)) + (hi 94 j356)), .int x3] [.int (hi 94 j360)] (rx_hp L t hi hl v) Q
                  refine rx_aw_s 4 (pc := 170) rfl ?_
                  show rx_aw 223 56 [.ref 90, .int x1, .int (hi 94 j360), .int (x3 + (1 : Int32))] [] (rx_hp L t hi hl v) Q
                  exact k
              · have k := k.2 c357
                show rx_aw 223 173 [.ref 90, .int x1, .int ((x2 + (0 : Int32)) + (hi 94 j356)), .int x3] [] (rx_hp L t hi hl v) Q
                refine rx_aw_s 4 (pc := 173) rfl ?_
                show rx_aw 223 56 [.ref 90, .int x1, .int ((x2 + (0 : Int32)) + (hi 94 j356)), .int (x3 + (1 : Int32))] [] (rx_hp L t hi hl v) Q
                exact k
            · have k := k.2 c355
              show rx_aw 223 145 [.ref 90, .int x1, .int (x2 + (0 : Int32)), .int x3] [.int (x2 + (0 : Int32))] (rx_hp L t hi hl v) Q
              refine rx_aw_s 6 (pc := 145) rfl ?_
              refine rx_w_ifn (c := x1 = (7 : Int32)) ⟨fun c361 => ?_, fun c361 => ?_⟩
              · have k := k.1 c361
                show rx_aw 223 154 [.ref 90, .int x1, .int ((x2 + (0 : Int32)) + (0 : Int32)), .int x3] [] (rx_hp L t hi hl v) Q
                refine rx_aw_s 3 (pc := 154) rfl ?_
                show rx_aw 223 159 [.ref 90, .int x1, .int ((x2 + (0 : Int32)) + (0 : Int32)), .int x3] [.int x3, .ref 94] (rx_hp L t hi hl v) Q
                obtain ⟨j362, ej362, hj362, k⟩ := k
                refine rx_aw_iald (pc := 159) (n := 6) j362 ej362 rfl rfl rfl hj362 (by decide) ?_
                show rx_aw 223 160 [.ref 90, .int x1, .int ((x2 + (0 : Int32)) + (0 : Int32)), .int x3] [.int (hi 94 j362)] (rx_hp L t hi hl v) Q
                refine rx_aw_s 2 (pc := 160) rfl ?_
                refine rx_w_if (c := (hi 94 j362) ≤ ((x2 + (0 : Int32)) + (0 : Int32))) ⟨fun c363 => ?_, fun c363 => ?_⟩
                · have k := k.1 c363
                  show rx_aw 223 173 [.ref 90, .int x1, .int ((x2 + (0 : Int32)) + (0 : Int32)), .int x3] [] (rx_hp L t hi hl v) Q
                  refine rx_aw_s 4 (pc := 173) rfl ?_
                  show rx_aw 223 56 [.ref 90, .int x1, .int ((x2 + (0 : Int32)) + (0 : Int32)), .int (x3 + (1 : Int32))] [] (rx_hp L t hi hl v) Q
                  exact k
                · have k := k.2 c363
                  show rx_aw 223 164 [.ref 90, .int x1, .int ((x2 + (0 : Int32)) + (0 : Int32)), .int x3] [] (rx_hp L t hi hl v) Q
                  refine rx_aw_s 3 (pc := 164) rfl ?_
                  show rx_aw 223 169 [.ref 90, .int x1, .int ((x2 + (0 : Int32)) + (0 : Int32)), .int x3] [.int x3, .ref 94] (rx_hp L t hi hl v) Q
                  obtain ⟨j364, ej364, hj364, k⟩ := k
                  refine rx_aw_iald (pc := 169) (n := 6) j364 ej364 rfl rfl rfl hj364 (by decide) ?_
                  show rx_aw 223 170 [.ref 90, .int x1, .int ((x2 + (0 : Int32)) + (0 : Int32)), .int x3] [.int (hi 94 j364)] (rx_hp L t hi hl v) Q
                  refine rx_aw_s 4 (pc := 170) rfl ?_
                  show rx_aw 223 56 [.ref 90, .int x1, .int (hi 94 j364), .int (x3 + (1 : Int32))] [] (rx_hp L t hi hl v) Q
                  exact k
              · have k := k.2 c361
                show rx_aw 223 173 [.ref 90, .int x1, .int ((x2 + (0 : Int32)) + (0 : Int32)), .int x3] [] (rx_hp L t hi hl v) Q
                refine rx_aw_s 4 (pc := 173) rfl ?_
                show rx_aw 223 56 [.ref 90, .int x1, .int ((x2 + (0 : Int32)) + (0 : Int32)), .int (x3 + (1 : Int32))] [] (rx_hp L t hi hl v) Q
                exact k
