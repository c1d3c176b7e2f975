/-! Methods walked by program (gen/wp.py): what is left to show of each. -/
set_option maxRecDepth 100000 in
/-- CartFloorModel.openState(I)V -/
theorem w235_openState_r {L : Nat} {t : List (Nat × Nat)} {hi : Nat → Nat → Int32} {hl : Nat → Nat → Int64} {v : Nat → Nat → Option Nat} {Q : Option Value → rx_H → Prop} {a0 : Int32} (k : rx_aw 235 7 [.ref 90, .int a0, .int (a0 / (8 : Int32)), .int (2 : Int32)] [] (rx_hp L t hi hl v) Q) : rx_me 235 [.ref 90, .int a0] (rx_hp L t hi hl v) Q := by
  show rx_aw 235 0 [.ref 90, .int a0, rx_no, rx_no] [] (rx_hp L t hi hl v) Q
  refine rx_aw_s 2 (pc := 0) rfl ?_
  show rx_aw 235 3 [.ref 90, .int a0, rx_no, rx_no] [.int (8 : Int32), .int a0] (rx_hp L t hi hl v) Q
  refine rx_aw_div (pc := 3) rfl (by decide) ?_
  show rx_aw 235 4 [.ref 90, .int a0, rx_no, rx_no] [.int (a0 / (8 : Int32))] (rx_hp L t hi hl v) Q
  refine rx_aw_s 3 (pc := 4) rfl ?_
  show rx_aw 235 7 [.ref 90, .int a0, .int (a0 / (8 : Int32)), .int (2 : Int32)] [] (rx_hp L t hi hl v) Q
  exact k
set_option maxRecDepth 100000 in
theorem w235_openState_r_7 {L : Nat} {t : List (Nat × Nat)} {hi : Nat → Nat → Int32} {hl : Nat → Nat → Int64} {v : Nat → Nat → Option Nat} {Q : Option Value → rx_H → Prop} {x1 : Int32} {x2 : Int32} {x3 : Int32} (k : ((x3 < 0 → Q none (rx_hp L t hi hl v)) ∧ (¬ (x3 < 0) → (∃ j2 : Nat, x3 = nI j2 ∧ j2 < 3 ∧ rx_aw 235 7 [.ref 90, .int x1, .int (x2 / (20 : Int32)), .int (x3 + (-1 : Int32))] [] (rx_hp L t (rx_u hi 132 j2 (x2 - x2 / (20 : Int32) * (20 : Int32))) hl v) Q)))) : rx_aw 235 7 [.ref 90, .int x1, .int x2, .int x3] [] (rx_hp L t hi hl v) Q := by
  refine rx_aw_s 2 (pc := 7) rfl ?_
  refine rx_w_if (c := x3 < 0) ⟨fun c1 => ?_, fun c1 => ?_⟩
  · have k := k.1 c1
    show rx_aw 235 32 [.ref 90, .int x1, .int x2, .int x3] [] (rx_hp L t hi hl v) Q
    exact rx_aw_ret (pc := 32) rfl k
  · have k := k.2 c1
    show rx_aw 235 11 [.ref 90, .int x1, .int x2, .int x3] [] (rx_hp L t hi hl v) Q
    refine rx_aw_s 5 (pc := 11) rfl ?_
    show rx_aw 235 19 [.ref 90, .int x1, .int x2, .int x3] [.int (20 : Int32), .int x2, .int x3, .ref 132] (rx_hp L t hi hl v) Q
    refine rx_aw_rem (pc := 19) rfl (by decide) ?_
    show rx_aw 235 20 [.ref 90, .int x1, .int x2, .int x3] [.int (x2 - x2 / (20 : Int32) * (20 : Int32)), .int x3, .ref 132] (rx_hp L t hi hl v) Q
    obtain ⟨j2, ej2, hj2, k⟩ := k
    refine rx_aw_iast (pc := 20) (n := 3) j2 ej2 rfl rfl (by decide) rfl hj2 (by decide) ?_
    show rx_aw 235 21 [.ref 90, .int x1, .int x2, .int x3] [] (rx_hp L t (rx_u hi 132 j2 (x2 - x2 / (20 : Int32) * (20 : Int32))) hl v) Q
    refine rx_aw_s 2 (pc := 21) rfl ?_
    show rx_aw 235 24 [.ref 90, .int x1, .int x2, .int x3] [.int (20 : Int32), .int x2] (rx_hp L t (rx_u hi 132 j2 (x2 - x2 / (20 : Int32) * (20 : Int32))) hl v) Q
    refine rx_aw_div (pc := 24) rfl (by decide) ?_
    show rx_aw 235 25 [.ref 90, .int x1, .int x2, .int x3] [.int (x2 / (20 : Int32))] (rx_hp L t (rx_u hi 132 j2 (x2 - x2 / (20 : Int32) * (20 : Int32))) hl v) Q
    refine rx_aw_s 3 (pc := 25) rfl ?_
    show rx_aw 235 7 [.ref 90, .int x1, .int (x2 / (20 : Int32)), .int (x3 + (-1 : Int32))] [] (rx_hp L t (rx_u hi 132 j2 (x2 - x2 / (20 : Int32) * (20 : Int32))) hl v) Q
    exact k
set_option maxRecDepth 100000 in
/-- CartFloorModel.spread(II)V -/
theorem w236_spread_r {L : Nat} {t : List (Nat × Nat)} {hi : Nat → Nat → Int32} {hl : Nat → Nat → Int64} {v : Nat → Nat → Option Nat} {Q : Option Value → rx_H → Prop} {a0 : Int32} {a1 : Int32} (k : rx_aw 236 19 [.ref 90, .int a0, .int a1, .int (((a0 &&& (1 : Int32)) + ((a0 >>> ((1 : Int32) &&& 31)) &&& (1 : Int32))) + ((a0 >>> ((2 : Int32) &&& 31)) &&& (1 : Int32))), .int (0 : Int32), rx_no, rx_no, rx_no, rx_no, rx_no, rx_no] [] (rx_hp L t hi hl v) Q) : rx_me 236 [.ref 90, .int a0, .int a1] (rx_hp L t hi hl v) Q := by
  show rx_aw 236 0 [.ref 90, .int a0, .int a1, rx_no, rx_no, rx_no, rx_no, rx_no, rx_no, rx_no, rx_no] [] (rx_hp L t hi hl v) Q
  refine rx_aw_s 18 (pc := 0) rfl ?_
  show rx_aw 236 19 [.ref 90, .int a0, .int a1, .int (((a0 &&& (1 : Int32)) + ((a0 >>> ((1 : Int32) &&& 31)) &&& (1 : Int32))) + ((a0 >>> ((2 : Int32) &&& 31)) &&& (1 : Int32))), .int (0 : Int32), rx_no, rx_no, rx_no, rx_no, rx_no, rx_no] [] (rx_hp L t hi hl v) Q
  exact k
set_option maxRecDepth 100000 in
theorem w236_spread_r_19 {L : Nat} {t : List (Nat × Nat)} {hi : Nat → Nat → Int32} {hl : Nat → Nat → Int64} {v : Nat → Nat → Option Nat} {Q : Option Value → rx_H → Prop} {x1 : Int32} {x2 : Int32} {x3 : Int32} {x4 : Int32} (k : (((125 : Int32) ≤ x4 → Q none (rx_hp L t hi hl v)) ∧ (¬ ((125 : Int32) ≤ x4) → rx_aw 236 36 [.ref 90, .int x1, .int x2, .int x3, .int x4, .int x4, .int (1 : Int32), .int (0 : Int32), rx_no, rx_no, rx_no] [] (rx_hp L t hi hl v) Q))) : rx_aw 236 19 [.ref 90, .int x1, .int x2, .int x3, .int x4, rx_no, rx_no, rx_no, rx_no, rx_no, rx_no] [] (rx_hp L t hi hl v) Q := by
  refine rx_aw_s 3 (pc := 19) rfl ?_
  refine rx_w_if (c := (125 : Int32) ≤ x4) ⟨fun c1 => ?_, fun c1 => ?_⟩
  · have k := k.1 c1
    show rx_aw 236 252 [.ref 90, .int x1, .int x2, .int x3, .int x4, rx_no, rx_no, rx_no, rx_no, rx_no, rx_no] [] (rx_hp L t hi hl v) Q
    exact rx_aw_ret (pc := 252) rfl k
  · have k := k.2 c1
    show rx_aw 236 26 [.ref 90, .int x1, .int x2, .int x3, .int x4, rx_no, rx_no, rx_no, rx_no, rx_no, rx_no] [] (rx_hp L t hi hl v) Q
    refine rx_aw_s 6 (pc := 26) rfl ?_
    show rx_aw 236 36 [.ref 90, .int x1, .int x2, .int x3, .int x4, .int x4, .int (1 : Int32), .int (0 : Int32), rx_no, rx_no, rx_no] [] (rx_hp L t hi hl v) Q
    exact k
set_option maxRecDepth 100000 in
theorem w236_spread_r_36 {L : Nat} {t : List (Nat × Nat)} {hi : Nat → Nat → Int32} {hl : Nat → Nat → Int64} {v : Nat → Nat → Option Nat} {Q : Option Value → rx_H → Prop} {x1 : Int32} {x2 : Int32} {x3 : Int32} {x4 : Int32} {x5 : Int32} {x6 : Int32} {x7 : Int32} (k : (((3 : Int32) ≤ x7 → ((x6 = 0 → rx_aw 236 19 [.ref 90, .int x1, .int x2, .int x3, .int (x4 + (1 : Int32)), rx_no, rx_no, rx_no, rx_no, rx_no, rx_no] [] (rx_hp L t hi hl v) Q) ∧ (¬ (x6 = 0) → rx_me 237 [.ref 90] (rx_hp L t hi hl v) (fun r h2 => ∃ z4 : Int32, r = some (.int z4) ∧ rx_ok2 L t h2 (fun hi4 hl4 v4 => ((z4 = 0 → rx_aw 236 19 [.ref 90, .int x1, .int x2, .int x3, .int (x4 + (1 : Int32)), rx_no, rx_no, rx_no, rx_no, rx_no, rx_no] [] (rx_hp L t hi4 hl4 v4) Q) ∧ (¬ (z4 = 0) → rx_me 231 [.ref 90, .ref 133, .int x1] (rx_hp L t hi4 hl4 v4) (fun r h2 => ∃ z6 : Int32, r = some (.int z6) ∧ rx_ok2 L t h2 (fun hi6 hl6 v6 => rx_me 232 [.ref 90, .int z6, .int (x2 + x3)] (rx_hp L t hi6 hl6 v6) (fun r h2 => ∃ z7 : Int32, r = some (.int z7) ∧ rx_ok2 L t h2 (fun hi7 hl7 v7 => rx_aw 236 19 [.ref 90, .int x1, .int x2, .int x3, .int (x4 + (1 : Int32)), rx_no, rx_no, rx_no, rx_no, rx_no, rx_no] [] (rx_hp L t hi7 hl7 v7) Q))))))))))) ∧ (¬ ((3 : Int32) ≤ x7) → (((hi 90 53) ≤ x7 → (∃ j9 : Nat, x7 = nI j9 ∧ j9 < 3 ∧ (∃ j10 : Nat, x7 = nI j10 ∧ j10 < 3 ∧ (((x5 - x5 / (5 : Int32) * (5 : Int32)) = 0 → rx_aw 236 36 [.ref 90, .int x1, .int x2, .int x3, .int x4, .int (x5 / (5 : Int32)), .int (x6 &&& (1 : Int32)), .int (x7 + (1 : Int32)), rx_no, rx_no, rx_no] [] (rx_hp L t (rx_u hi 133 j10 (hi 132 j9)) hl v) Q) ∧ (¬ ((x5 - x5 / (5 : Int32) * (5 : Int32)) = 0) → rx_aw 236 36 [.ref 90, .int x1, .int x2, .int x3, .int x4, .int (x5 / (5 : Int32)), .int (x6 &&& (0 : Int32)), .int (x7 + (1 : Int32)), rx_no, rx_no, rx_no] [] (rx_hp L t (rx_u hi 133 j10 (hi 132 j9)) hl v) Q))))) ∧ (¬ ((hi 90 53) ≤ x7) → ((((x1 >>> (x7 &&& 31)) &&& (1 : Int32)) = (1 : Int32) → (∃ j13 : Nat, x7 = nI j13 ∧ j13 < 3 ∧ (∃ j14 : Nat, x7 = nI j14 ∧ j14 < 3 ∧ (((x5 - x5 / (5 : Int32) * (5 : Int32)) ≤ 0 → rx_aw 236 36 [.ref 90, .int x1, .int x2, .int x3, .int x4, .int (x5 / (5 : Int32)), .int (x6 &&& (1 : Int32)), .int (x7 + (1 : Int32)), rx_no, rx_no, rx_no] [] (rx_hp L t (rx_u hi 133 j14 (hi 132 j13)) hl v) Q) ∧ (¬ ((x5 - x5 / (5 : Int32) * (5 : Int32)) ≤ 0) → (∃ j16 : Nat, x7 = nI j16 ∧ j16 < 3 ∧ (∃ j17 : Nat, ((rx_u hi 133 j14 (hi 132 j13)) 132 j16) = nI j17 ∧ j17 < 20 ∧ rx_me 181 [.ref 90, .int ((rx_u hi 133 j14 (hi 132 j13)) 126 j17), .int ((x5 - x5 / (5 : Int32) * (5 : Int32)) - (1 : Int32))] (rx_hp L t (rx_u hi 133 j14 (hi 132 j13)) hl v) (fun r h2 => ∃ z18 : Int32, r = some (.int z18) ∧ rx_ok2 L t h2 (fun hi18 hl18 v18 => ((z18 < 0 → ((z18 < 0 → (∃ j21 : Nat, x7 = nI j21 ∧ j21 < 3 ∧ (∃ j22 : Nat, x7 = nI j22 ∧ j22 < 3 ∧ rx_aw 236 36 [.ref 90, .int x1, .int x2, .int x3, .int x4, .int (x5 / (5 : Int32)), .int ((x6 &&& (1 : Int32)) &&& (0 : Int32)), .int (x7 + (1 : Int32)), rx_no, rx_no, rx_no] [] (rx_hp L t (rx_u hi18 133 j22 (hi18 132 j21)) hl18 v18) Q))) ∧ (¬ (z18 < 0) → (∃ j23 : Nat, z18 = nI j23 ∧ j23 < 64 ∧ (((hi18 127 j23) < 0 → (∃ j25 : Nat, x7 = nI j25 ∧ j25 < 3 ∧ (∃ j26 : Nat, x7 = nI j26 ∧ j26 < 3 ∧ rx_aw 236 36 [.ref 90, .int x1, .int x2, .int x3, .int x4, .int (x5 / (5 : Int32)), .int ((x6 &&& (1 : Int32)) &&& (0 : Int32)), .int (x7 + (1 : Int32)), rx_no, rx_no, rx_no] [] (rx_hp L t (rx_u hi18 133 j26 (hi18 132 j25)) hl18 v18) Q))) ∧ (¬ ((hi18 127 j23) < 0) → (∃ j27 : Nat, z18 = nI j27 ∧ j27 < 64 ∧ (∃ j28 : Nat, x7 = nI j28 ∧ j28 < 3 ∧ rx_aw 236 36 [.ref 90, .int x1, .int x2, .int x3, .int x4, .int (x5 / (5 : Int32)), .int ((x6 &&& (1 : Int32)) &&& (0 : Int32)), .int (x7 + (1 : Int32)), rx_no, rx_no, rx_no] [] (rx_hp L t (rx_u hi18 133 j28 (hi18 127 j27)) hl18 v18) Q)))))))) ∧ (¬ (z18 < 0) → (∃ j29 : Nat, z18 = nI j29 ∧ j29 < 64 ∧ (((hi18 127 j29) < 0 → ((z18 < 0 → (∃ j32 : Nat, x7 = nI j32 ∧ j32 < 3 ∧ (∃ j33 : Nat, x7 = nI j33 ∧ j33 < 3 ∧ rx_aw 236 36 [.ref 90, .int x1, .int x2, .int x3, .int x4, .int (x5 / (5 : Int32)), .int ((x6 &&& (1 : Int32)) &&& (0 : Int32)), .int (x7 + (1 : Int32)), rx_no, rx_no, rx_no] [] (rx_hp L t (rx_u hi18 133 j33 (hi18 132 j32)) hl18 v18) Q))) ∧ (¬ (z18 < 0) → (∃ j34 : Nat, z18 = nI j34 ∧ j34 < 64 ∧ (((hi18 127 j34) < 0 → (∃ j36 : Nat, x7 = nI j36 ∧ j36 < 3 ∧ (∃ j37 : Nat, x7 = nI j37 ∧ j37 < 3 ∧ rx_aw 236 36 [.ref 90, .int x1, .int x2, .int x3, .int x4, .int (x5 / (5 : Int32)), .int ((x6 &&& (1 : Int32)) &&& (0 : Int32)), .int (x7 + (1 : Int32)), rx_no, rx_no, rx_no] [] (rx_hp L t (rx_u hi18 133 j37 (hi18 132 j36)) hl18 v18) Q))) ∧ (¬ ((hi18 127 j34) < 0) → (∃ j38 : Nat, z18 = nI j38 ∧ j38 < 64 ∧ (∃ j39 : Nat, x7 = nI j39 ∧ j39 < 3 ∧ rx_aw 236 36 [.ref 90, .int x1, .int x2, .int x3, .int x4, .int (x5 / (5 : Int32)), .int ((x6 &&& (1 : Int32)) &&& (0 : Int32)), .int (x7 + (1 : Int32)), rx_no, rx_no, rx_no] [] (rx_hp L t (rx_u hi18 133 j39 (hi18 127 j38)) hl18 v18) Q)))))))) ∧ (¬ ((hi18 127 j29) < 0) → ((z18 < 0 → (∃ j41 : Nat, x7 = nI j41 ∧ j41 < 3 ∧ (∃ j42 : Nat, x7 = nI j42 ∧ j42 < 3 ∧ rx_aw 236 36 [.ref 90, .int x1, .int x2, .int x3, .int x4, .int (x5 / (5 : Int32)), .int ((x6 &&& (1 : Int32)) &&& (1 : Int32)), .int (x7 + (1 : Int32)), rx_no, rx_no, rx_no] [] (rx_hp L t (rx_u hi18 133 j42 (hi18 132 j41)) hl18 v18) Q))) ∧ (¬ (z18 < 0) → (∃ j43 : Nat, z18 = nI j43 ∧ j43 < 64 ∧ (((hi18 127 j43) < 0 → (∃ j45 : Nat, x7 = nI j45 ∧ j45 < 3 ∧ (∃ j46 : Nat, x7 = nI j46 ∧ j46 < 3 ∧ rx_aw 236 36 [.ref 90, .int x1, .int x2, .int x3, .int x4, .int (x5 / (5 : Int32)), .int ((x6 &&& (1 : Int32)) &&& (1 : Int32)), .int (x7 + (1 : Int32)), rx_no, rx_no, rx_no] [] (rx_hp L t (rx_u hi18 133 j46 (hi18 132 j45)) hl18 v18) Q))) ∧ (¬ ((hi18 127 j43) < 0) → (∃ j47 : Nat, z18 = nI j47 ∧ j47 < 64 ∧ (∃ j48 : Nat, x7 = nI j48 ∧ j48 < 3 ∧ rx_aw 236 36 [.ref 90, .int x1, .int x2, .int x3, .int x4, .int (x5 / (5 : Int32)), .int ((x6 &&& (1 : Int32)) &&& (1 : Int32)), .int (x7 + (1 : Int32)), rx_no, rx_no, rx_no] [] (rx_hp L t (rx_u hi18 133 j48 (hi18 127 j47)) hl18 v18) Q))))))))))))))))))))) ∧ (¬ (((x1 >>> (x7 &&& 31)) &&& (1 : Int32)) = (1 : Int32)) → (∃ j49 : Nat, x7 = nI j49 ∧ j49 < 3 ∧ (∃ j50 : Nat, x7 = nI j50 ∧ j50 < 3 ∧ (((x5 - x5 / (5 : Int32) * (5 : Int32)) = 0 → rx_aw 236 36 [.ref 90, .int x1, .int x2, .int x3, .int x4, .int (x5 / (5 : Int32)), .int (x6 &&& (1 : Int32)), .int (x7 + (1 : Int32)), rx_no, rx_no, rx_no] [] (rx_hp L t (rx_u hi 133 j50 (hi 132 j49)) hl v) Q) ∧ (¬ ((x5 - x5 / (5 : Int32) * (5 : Int32)) = 0) → rx_aw 236 36 [.ref 90, .int x1, .int x2, .int x3, .int x4, .int (x5 / (5 : Int32)), .int (x6 &&& (0 : Int32)), .int (x7 + (1 : Int32)), rx_no, rx_no, rx_no] [] (rx_hp L t (rx_u hi 133 j50 (hi 132 j49)) hl v) Q))))))))))) : rx_aw 236 36 [.ref 90, .int x1, .int x2, .int x3, .int x4, .int x5, .int x6, .int x7, rx_no, rx_no, rx_no] [] (rx_hp L t hi hl v) Q := by
  refine rx_aw_s 3 (pc := 36) rfl ?_
  refine rx_w_if (c := (3 : Int32) ≤ x7) ⟨fun c2 => ?_, fun c2 => ?_⟩
  · have k := k.1 c2
    show rx_aw 236 216 [.ref 90, .int x1, .int x2, .int x3, .int x4, .int x5, .int x6, .int x7, rx_no, rx_no, rx_no] [] (rx_hp L t hi hl v) Q
    refine rx_aw_s 2 (pc := 216) rfl ?_
    refine rx_w_if (c := x6 = 0) ⟨fun c3 => ?_, fun c3 => ?_⟩
    · have k := k.1 c3
      show rx_aw 236 246 [.ref 90, .int x1, .int x2, .int x3, .int x4, .int x5, .int x6, .int x7, rx_no, rx_no, rx_no] [] (rx_hp L t hi hl v) Q
      refine rx_aw_s 2 (pc := 246) rfl ?_
      show rx_aw 236 19 [.ref 90, .int x1, .int x2, .int x3, .int (x4 + (1 : Int32)), .int x5, .int x6, .int x7, rx_no, rx_no, rx_no] [] (rx_hp L t hi hl v) Q
      exact rx_aw_le (ls := [.ref 90, .int x1, .int x2, .int x3, .int (x4 + (1 : Int32)), rx_no, rx_no, rx_no, rx_no, rx_no, rx_no]) ⟨Or.inr rfl, ⟨Or.inr rfl, ⟨Or.inr rfl, ⟨Or.inr rfl, ⟨Or.inr rfl, ⟨Or.inl rfl, ⟨Or.inl rfl, ⟨Or.inl rfl, ⟨Or.inl rfl, ⟨Or.inl rfl, ⟨Or.inl rfl, trivial⟩⟩⟩⟩⟩⟩⟩⟩⟩⟩⟩ k
    · have k := k.2 c3
      show rx_aw 236 221 [.ref 90, .int x1, .int x2, .int x3, .int x4, .int x5, .int x6, .int x7, rx_no, rx_no, rx_no] [] (rx_hp L t hi hl v) Q
      refine rx_aw_s 1 (pc := 221) rfl ?_
      show rx_aw 236 222 [.ref 90, .int x1, .int x2, .int x3, .int x4, .int x5, .int x6, .int x7, rx_no, rx_no, rx_no] [.ref 90] (rx_hp L t hi hl v) Q
      refine rx_w_callI (j := 237) (pc := 222) rfl rfl rfl rfl rfl ?_
      refine rx_aw.mono k (fun r h2 k => ?_)
      obtain ⟨z4, rfl, hi4, hl4, v4, rfl, k⟩ := k
      refine ⟨z4, rfl, ?_⟩
      show rx_aw 236 225 [.ref 90, .int x1, .int x2, .int x3, .int x4, .int x5, .int x6, .int x7, rx_no, rx_no, rx_no] [.int z4] (rx_hp L t hi4 hl4 v4) Q
      refine rx_aw_s 1 (pc := 225) rfl ?_
      refine rx_w_if (c := z4 = 0) ⟨fun c5 => ?_, fun c5 => ?_⟩
      · have k := k.1 c5
        show rx_aw 236 246 [.ref 90, .int x1, .int x2, .int x3, .int x4, .int x5, .int x6, .int x7, rx_no, rx_no, rx_no] [] (rx_hp L t hi4 hl4 v4) Q
        refine rx_aw_s 2 (pc := 246) rfl ?_
        show rx_aw 236 19 [.ref 90, .int x1, .int x2, .int x3, .int (x4 + (1 : Int32)), .int x5, .int x6, .int x7, rx_no, rx_no, rx_no] [] (rx_hp L t hi4 hl4 v4) Q
        exact rx_aw_le (ls := [.ref 90, .int x1, .int x2, .int x3, .int (x4 + (1 : Int32)), rx_no, rx_no, rx_no, rx_no, rx_no, rx_no]) ⟨Or.inr rfl, ⟨Or.inr rfl, ⟨Or.inr rfl, ⟨Or.inr rfl, ⟨Or.inr rfl, ⟨Or.inl rfl, ⟨Or.inl rfl, ⟨Or.inl rfl, ⟨Or.inl rfl, ⟨Or.inl rfl, ⟨Or.inl rfl, trivial⟩⟩⟩⟩⟩⟩⟩⟩⟩⟩⟩ k
      · have k := k.2 c5
        show rx_aw 236 228 [.ref 90, .int x1, .int x2, .int x3, .int x4, .int x5, .int x6, .int x7, rx_no, rx_no, rx_no] [] (rx_hp L t hi4 hl4 v4) Q
        refine rx_aw_s 5 (pc := 228) rfl ?_
        show rx_aw 236 235 [.ref 90, .int x1, .int x2, .int x3, .int x4, .int x5, .int x6, .int x7, rx_no, rx_no, rx_no] [.int x1, .ref 133, .ref 90, .ref 90] (rx_hp L t hi4 hl4 v4) Q
        refine rx_w_callI (j := 231) (pc := 235) rfl rfl rfl rfl rfl ?_
        refine rx_aw.mono k (fun r h2 k => ?_)
        obtain ⟨z6, rfl, hi6, hl6, v6, rfl, k⟩ := k
        refine ⟨z6, rfl, ?_⟩
        show rx_aw 236 238 [.ref 90, .int x1, .int x2, .int x3, .int x4, .int x5, .int x6, .int x7, rx_no, rx_no, rx_no] [.int z6, .ref 90] (rx_hp L t hi6 hl6 v6) Q
        refine rx_aw_s 3 (pc := 238) rfl ?_
        show rx_aw 236 241 [.ref 90, .int x1, .int x2, .int x3, .int x4, .int x5, .int x6, .int x7, rx_no, rx_no, rx_no] [.int (x2 + x3), .int z6, .ref 90] (rx_hp L t hi6 hl6 v6) Q
        refine rx_w_callI (j := 232) (pc := 241) rfl rfl rfl rfl rfl ?_
        refine rx_aw.mono k (fun r h2 k => ?_)
        obtain ⟨z7, rfl, hi7, hl7, v7, rfl, k⟩ := k
        refine ⟨z7, rfl, ?_⟩
        show rx_aw 236 244 [.ref 90, .int x1, .int x2, .int x3, .int x4, .int x5, .int x6, .int x7, rx_no, rx_no, rx_no] [.int z7] (rx_hp L t hi7 hl7 v7) Q
        refine rx_aw_s 3 (pc := 244) rfl ?_
        show rx_aw 236 19 [.ref 90, .int x1, .int x2, .int x3, .int (x4 + (1 : Int32)), .int x5, .int x6, .int z7, rx_no, rx_no, rx_no] [] (rx_hp L t hi7 hl7 v7) Q
        exact rx_aw_le (ls := [.ref 90, .int x1, .int x2, .int x3, .int (x4 + (1 : Int32)), rx_no, rx_no, rx_no, rx_no, rx_no, rx_no]) ⟨Or.inr rfl, ⟨Or.inr rfl, ⟨Or.inr rfl, ⟨Or.inr rfl, ⟨Or.inr rfl, ⟨Or.inl rfl, ⟨Or.inl rfl, ⟨Or.inl rfl, ⟨Or.inl rfl, ⟨Or.inl rfl, ⟨Or.inl rfl, trivial⟩⟩⟩⟩⟩⟩⟩⟩⟩⟩⟩ k
  · have k := k.2 c2
    show rx_aw 236 42 [.ref 90, .int x1, .int x2, .int x3, .int x4, .int x5, .int x6, .int x7, rx_no, rx_no, rx_no] [] (rx_hp L t hi hl v) Q
    refine rx_aw_s 2 (pc := 42) rfl ?_
    show rx_aw 236 45 [.ref 90, .int x1, .int x2, .int x3, .int x4, .int x5, .int x6, .int x7, rx_no, rx_no, rx_no] [.int (5 : Int32), .int x5] (rx_hp L t hi hl v) Q
    refine rx_aw_rem (pc := 45) rfl (by decide) ?_
    show rx_aw 236 46 [.ref 90, .int x1, .int x2, .int x3, .int x4, .int x5, .int x6, .int x7, rx_no, rx_no, rx_no] [.int (x5 - x5 / (5 : Int32) * (5 : Int32))] (rx_hp L t hi hl v) Q
    refine rx_aw_s 3 (pc := 46) rfl ?_
    show rx_aw 236 51 [.ref 90, .int x1, .int x2, .int x3, .int x4, .int x5, .int x6, .int x7, .int (x5 - x5 / (5 : Int32) * (5 : Int32)), rx_no, rx_no] [.int (5 : Int32), .int x5] (rx_hp L t hi hl v) Q
    refine rx_aw_div (pc := 51) rfl (by decide) ?_
    show rx_aw 236 52 [.ref 90, .int x1, .int x2, .int x3, .int x4, .int x5, .int x6, .int x7, .int (x5 - x5 / (5 : Int32) * (5 : Int32)), rx_no, rx_no] [.int (x5 / (5 : Int32))] (rx_hp L t hi hl v) Q
    refine rx_aw_s 5 (pc := 52) rfl ?_
    refine rx_w_if (c := (hi 90 53) ≤ x7) ⟨fun c8 => ?_, fun c8 => ?_⟩
    · have k := k.1 c8
      show rx_aw 236 77 [.ref 90, .int x1, .int x2, .int x3, .int x4, .int (x5 / (5 : Int32)), .int x6, .int x7, .int (x5 - x5 / (5 : Int32) * (5 : Int32)), rx_no, rx_no] [] (rx_hp L t hi hl v) Q
      refine rx_aw_s 8 (pc := 77) rfl ?_
      show rx_aw 236 92 [.ref 90, .int x1, .int x2, .int x3, .int x4, .int (x5 / (5 : Int32)), .int x6, .int x7, .int (x5 - x5 / (5 : Int32) * (5 : Int32)), .int (0 : Int32), rx_no] [.int x7, .ref 132, .int x7, .ref 133] (rx_hp L t hi hl v) Q
      obtain ⟨j9, ej9, hj9, k⟩ := k
      refine rx_aw_iald (pc := 92) (n := 3) j9 ej9 rfl rfl rfl hj9 (by decide) ?_
      show rx_aw 236 93 [.ref 90, .int x1, .int x2, .int x3, .int x4, .int (x5 / (5 : Int32)), .int x6, .int x7, .int (x5 - x5 / (5 : Int32) * (5 : Int32)), .int (0 : Int32), rx_no] [.int (hi 132 j9), .int x7, .ref 133] (rx_hp L t hi hl v) Q
      obtain ⟨j10, ej10, hj10, k⟩ := k
      refine rx_aw_iast (pc := 93) (n := 3) j10 ej10 rfl rfl (by decide) rfl hj10 (by decide) ?_
      show rx_aw 236 94 [.ref 90, .int x1, .int x2, .int x3, .int x4, .int (x5 / (5 : Int32)), .int x6, .int x7, .int (x5 - x5 / (5 : Int32) * (5 : Int32)), .int (0 : Int32), rx_no] [] (rx_hp L t (rx_u hi 133 j10 (hi 132 j9)) hl v) Q
      refine rx_aw_s 5 (pc := 94) rfl ?_
      refine rx_w_ifn (c := (x5 - x5 / (5 : Int32) * (5 : Int32)) = 0) ⟨fun c11 => ?_, fun c11 => ?_⟩
      · have k := k.1 c11
        show rx_aw 236 106 [.ref 90, .int x1, .int x2, .int x3, .int x4, .int (x5 / (5 : Int32)), .int x6, .int x7, .int (x5 - x5 / (5 : Int32) * (5 : Int32)), .int (0 : Int32), rx_no] [.int x6] (rx_hp L t (rx_u hi 133 j10 (hi 132 j9)) hl v) Q
        refine rx_aw_s 8 (pc := 106) rfl ?_
        show rx_aw 236 36 [.ref 90, .int x1, .int x2, .int x3, .int x4, .int (x5 / (5 : Int32)), .int (x6 &&& (1 : Int32)), .int (x7 + (1 : Int32)), .int (x5 - x5 / (5 : Int32) * (5 : Int32)), .int (0 : Int32), rx_no] [] (rx_hp L t (rx_u hi 133 j10 (hi 132 j9)) hl v) Q
        exact rx_aw_le (ls := [.ref 90, .int x1, .int x2, .int x3, .int x4, .int (x5 / (5 : Int32)), .int (x6 &&& (1 : Int32)), .int (x7 + (1 : Int32)), rx_no, rx_no, rx_no]) ⟨Or.inr rfl, ⟨Or.inr rfl, ⟨Or.inr rfl, ⟨Or.inr rfl, ⟨Or.inr rfl, ⟨Or.inr rfl, ⟨Or.inr rfl, ⟨Or.inr rfl, ⟨Or.inl rfl, ⟨Or.inl rfl, ⟨Or.inl rfl, trivial⟩⟩⟩⟩⟩⟩⟩⟩⟩⟩⟩ k
      · have k := k.2 c11
        show rx_aw 236 110 [.ref 90, .int x1, .int x2, .int x3, .int x4, .int (x5 / (5 : Int32)), .int x6, .int x7, .int (x5 - x5 / (5 : Int32) * (5 : Int32)), .int (0 : Int32), rx_no] [.int x6] (rx_hp L t (rx_u hi 133 j10 (hi 132 j9)) hl v) Q
        refine rx_aw_s 7 (pc := 110) rfl ?_
        show rx_aw 236 36 [.ref 90, .int x1, .int x2, .int x3, .int x4, .int (x5 / (5 : Int32)), .int (x6 &&& (0 : Int32)), .int (x7 + (1 : Int32)), .int (x5 - x5 / (5 : Int32) * (5 : Int32)), .int (0 : Int32), rx_no] [] (rx_hp L t (rx_u hi 133 j10 (hi 132 j9)) hl v) Q
        exact rx_aw_le (ls := [.ref 90, .int x1, .int x2, .int x3, .int x4, .int (x5 / (5 : Int32)), .int (x6 &&& (0 : Int32)), .int (x7 + (1 : Int32)), rx_no, rx_no, rx_no]) ⟨Or.inr rfl, ⟨Or.inr rfl, ⟨Or.inr rfl, ⟨Or.inr rfl, ⟨Or.inr rfl, ⟨Or.inr rfl, ⟨Or.inr rfl, ⟨Or.inr rfl, ⟨Or.inl rfl, ⟨Or.inl rfl, ⟨Or.inl rfl, trivial⟩⟩⟩⟩⟩⟩⟩⟩⟩⟩⟩ k
    · have k := k.2 c8
      show rx_aw 236 63 [.ref 90, .int x1, .int x2, .int x3, .int x4, .int (x5 / (5 : Int32)), .int x6, .int x7, .int (x5 - x5 / (5 : Int32) * (5 : Int32)), rx_no, rx_no] [] (rx_hp L t hi hl v) Q
      refine rx_aw_s 7 (pc := 63) rfl ?_
      refine rx_w_ifn (c := ((x1 >>> (x7 &&& 31)) &&& (1 : Int32)) = (1 : Int32)) ⟨fun c12 => ?_, fun c12 => ?_⟩
      · have k := k.1 c12
        show rx_aw 236 73 [.ref 90, .int x1, .int x2, .int x3, .int x4, .int (x5 / (5 : Int32)), .int x6, .int x7, .int (x5 - x5 / (5 : Int32) * (5 : Int32)), rx_no, rx_no] [] (rx_hp L t hi hl v) Q
        refine rx_aw_s 9 (pc := 73) rfl ?_
        show rx_aw 236 92 [.ref 90, .int x1, .int x2, .int x3, .int x4, .int (x5 / (5 : Int32)), .int x6, .int x7, .int (x5 - x5 / (5 : Int32) * (5 : Int32)), .int (1 : Int32), rx_no] [.int x7, .ref 132, .int x7, .ref 133] (rx_hp L t hi hl v) Q
        obtain ⟨j13, ej13, hj13, k⟩ := k
        refine rx_aw_iald (pc := 92) (n := 3) j13 ej13 rfl rfl rfl hj13 (by decide) ?_
        show rx_aw 236 93 [.ref 90, .int x1, .int x2, .int x3, .int x4, .int (x5 / (5 : Int32)), .int x6, .int x7, .int (x5 - x5 / (5 : Int32) * (5 : Int32)), .int (1 : Int32), rx_no] [.int (hi 132 j13), .int x7, .ref 133] (rx_hp L t hi hl v) Q
        obtain ⟨j14, ej14, hj14, k⟩ := k
        refine rx_aw_iast (pc := 93) (n := 3) j14 ej14 rfl rfl (by decide) rfl hj14 (by decide) ?_
        show rx_aw 236 94 [.ref 90, .int x1, .int x2, .int x3, .int x4, .int (x5 / (5 : Int32)), .int x6, .int x7, .int (x5 - x5 / (5 : Int32) * (5 : Int32)), .int (1 : Int32), rx_no] [] (rx_hp L t (rx_u hi 133 j14 (hi 132 j13)) hl v) Q
        refine rx_aw_s 11 (pc := 94) rfl ?_
        refine rx_w_if (c := (x5 - x5 / (5 : Int32) * (5 : Int32)) ≤ 0) ⟨fun c15 => ?_, fun c15 => ?_⟩
        · have k := k.1 c15
          show rx_aw 236 210 [.ref 90, .int x1, .int x2, .int x3, .int x4, .int (x5 / (5 : Int32)), .int (x6 &&& (1 : Int32)), .int x7, .int (x5 - x5 / (5 : Int32) * (5 : Int32)), .int (1 : Int32), rx_no] [] (rx_hp L t (rx_u hi 133 j14 (hi 132 j13)) hl v) Q
          refine rx_aw_s 2 (pc := 210) rfl ?_
          show rx_aw 236 36 [.ref 90, .int x1, .int x2, .int x3, .int x4, .int (x5 / (5 : Int32)), .int (x6 &&& (1 : Int32)), .int (x7 + (1 : Int32)), .int (x5 - x5 / (5 : Int32) * (5 : Int32)), .int (1 : Int32), rx_no] [] (rx_hp L t (rx_u hi 133 j14 (hi 132 j13)) hl v) Q
          exact rx_aw_le (ls := [.ref 90, .int x1, .int x2, .int x3, .int x4, .int (x5 / (5 : Int32)), .int (x6 &&& (1 : Int32)), .int (x7 + (1 : Int32)), rx_no, rx_no, rx_no]) ⟨Or.inr rfl, ⟨Or.inr rfl, ⟨Or.inr rfl, ⟨Or.inr rfl, ⟨Or.inr rfl, ⟨Or.inr rfl, ⟨Or.inr rfl, ⟨Or.inr rfl, ⟨Or.inl rfl, ⟨Or.inl rfl, ⟨Or.inl rfl, trivial⟩⟩⟩⟩⟩⟩⟩⟩⟩⟩⟩ k
        · have k := k.2 c15
          show rx_aw 236 124 [.ref 90, .int x1, .int x2, .int x3, .int x4, .int (x5 / (5 : Int32)), .int (x6 &&& (1 : Int32)), .int x7, .int (x5 - x5 / (5 : Int32) * (5 : Int32)), .int (1 : Int32), rx_no] [] (rx_hp L t (rx_u hi 133 j14 (hi 132 j13)) hl v) Q
          refine rx_aw_s 6 (pc := 124) rfl ?_
          show rx_aw 236 135 [.ref 90, .int x1, .int x2, .int x3, .int x4, .int (x5 / (5 : Int32)), .int (x6 &&& (1 : Int32)), .int x7, .int (x5 - x5 / (5 : Int32) * (5 : Int32)), .int (1 : Int32), rx_no] [.int x7, .ref 132, .ref 126, .ref 90] (rx_hp L t (rx_u hi 133 j14 (hi 132 j13)) hl v) Q
          obtain ⟨j16, ej16, hj16, k⟩ := k
          refine rx_aw_iald (pc := 135) (n := 3) j16 ej16 rfl rfl rfl hj16 (by decide) ?_
          show rx_aw 236 136 [.ref 90, .int x1, .int x2, .int x3, .int x4, .int (x5 / (5 : Int32)), .int (x6 &&& (1 : Int32)), .int x7, .int (x5 - x5 / (5 : Int32) * (5 : Int32)), .int (1 : Int32), rx_no] [.int ((rx_u hi 133 j14 (hi 132 j13)) 132 j16), .ref 126, .ref 90] (rx_hp L t (rx_u hi 133 j14 (hi 132 j13)) hl v) Q
          obtain ⟨j17, ej17, hj17, k⟩ := k
          refine rx_aw_iald (pc := 136) (n := 20) j17 ej17 rfl rfl rfl hj17 (by decide) ?_
          show rx_aw 236 137 [.ref 90, .int x1, .int x2, .int x3, .int x4, .int (x5 / (5 : Int32)), .int (x6 &&& (1 : Int32)), .int x7, .int (x5 - x5 / (5 : Int32) * (5 : Int32)), .int (1 : Int32), rx_no] [.int ((rx_u hi 133 j14 (hi 132 j13)) 126 j17), .ref 90] (rx_hp L t (rx_u hi 133 j14 (hi 132 j13)) hl v) Q
          refine rx_aw_s 3 (pc := 137) rfl ?_
          show rx_aw 236 141 [.ref 90, .int x1, .int x2, .int x3, .int x4, .int (x5 / (5 : Int32)), .int (x6 &&& (1 : Int32)), .int x7, .int (x5 - x5 / (5 : Int32) * (5 : Int32)), .int (1 : Int32), rx_no] [.int ((x5 - x5 / (5 : Int32) * (5 : Int32)) - (1 : Int32)), .int ((rx_u hi 133 j14 (hi 132 j13)) 126 j17), .ref 90] (rx_hp L t (rx_u hi 133 j14 (hi 132 j13)) hl v) Q
          refine rx_w_callI (j := 181) (pc := 141) rfl rfl rfl rfl rfl ?_
          refine rx_aw.mono k (fun r h2 k => ?_)
          obtain ⟨z18, rfl, hi18, hl18, v18, rfl, k⟩ := k
          refine ⟨z18, rfl, ?_⟩
          show rx_aw 236 144 [.ref 90, .int x1, .int x2, .int x3, .int x4, .int (x5 / (5 : Int32)), .int (x6 &&& (1 : Int32)), .int x7, .int (x5 - x5 / (5 : Int32) * (5 : Int32)), .int (1 : Int32), rx_no] [.int z18] (rx_hp L t hi18 hl18 v18) Q
          refine rx_aw_s 4 (pc := 144) rfl ?_
          refine rx_w_if (c := z18 < 0) ⟨fun c19 => ?_, fun c19 => ?_⟩
          · have k := k.1 c19
            show rx_aw 236 167 [.ref 90, .int x1, .int x2, .int x3, .int x4, .int (x5 / (5 : Int32)), .int (x6 &&& (1 : Int32)), .int x7, .int (x5 - x5 / (5 : Int32) * (5 : Int32)), .int (1 : Int32), .int z18] [.int (x6 &&& (1 : Int32))] (rx_hp L t hi18 hl18 v18) Q
            refine rx_aw_s 8 (pc := 167) rfl ?_
            refine rx_w_if (c := z18 < 0) ⟨fun c20 => ?_, fun c20 => ?_⟩
            · have k := k.1 c20
              show rx_aw 236 202 [.ref 90, .int x1, .int x2, .int x3, .int x4, .int (x5 / (5 : Int32)), .int ((x6 &&& (1 : Int32)) &&& (0 : Int32)), .int x7, .int (x5 - x5 / (5 : Int32) * (5 : Int32)), .int (1 : Int32), .int z18] [.int x7, .ref 133] (rx_hp L t hi18 hl18 v18) Q
              refine rx_aw_s 3 (pc := 202) rfl ?_
              show rx_aw 236 208 [.ref 90, .int x1, .int x2, .int x3, .int x4, .int (x5 / (5 : Int32)), .int ((x6 &&& (1 : Int32)) &&& (0 : Int32)), .int x7, .int (x5 - x5 / (5 : Int32) * (5 : Int32)), .int (1 : Int32), .int z18] [.int x7, .ref 132, .int x7, .ref 133] (rx_hp L t hi18 hl18 v18) Q
              obtain ⟨j21, ej21, hj21, k⟩ := k
              refine rx_aw_iald (pc := 208) (n := 3) j21 ej21 rfl rfl rfl hj21 (by decide) ?_
              show rx_aw 236 209 [.ref 90, .int x1, .int x2, .int x3, .int x4, .int (x5 / (5 : Int32)), .int ((x6 &&& (1 : Int32)) &&& (0 : Int32)), .int x7, .int (x5 - x5 / (5 : Int32) * (5 : Int32)), .int (1 : Int32), .int z18] [.int (hi18 132 j21), .int x7, .ref 133] (rx_hp L t hi18 hl18 v18) Q
              obtain ⟨j22, ej22, hj22, k⟩ := k
              refine rx_aw_iast (pc := 209) (n := 3) j22 ej22 rfl rfl (by decide) rfl hj22 (by decide) ?_
              show rx_aw 236 210 [.ref 90, .int x1, .int x2, .int x3, .int x4, .int (x5 / (5 : Int32)), .int ((x6 &&& (1 : Int32)) &&& (0 : Int32)), .int x7, .int (x5 - x5 / (5 : Int32) * (5 : Int32)), .int (1 : Int32), .int z18] [] (rx_hp L t (rx_u hi18 133 j22 (hi18 132 j21)) hl18 v18) Q
              refine rx_aw_s 2 (pc := 210) rfl ?_
              show rx_aw 236 36 [.ref 90, .int x1, .int x2, .int x3, .int x4, .int (x5 / (5 : Int32)), .int ((x6 &&& (1 : Int32)) &&& (0 : Int32)), .int (x7 + (1 : Int32)), .int (x5 - x5 / (5 : Int32) * (5 : Int32)), .int (1 : Int32), .int z18] [] (rx_hp L t (rx_u hi18 133 j22 (hi18 132 j21)) hl18 v18) Q
              exact rx_aw_le (ls := [.ref 90, .int x1, .int x2, .int x3, .int x4, .int (x5 / (5 : Int32)), .int ((x6 &&& (1 : Int32)) &&& (0 : Int32)), .int (x7 + (1 : Int32)), rx_no, rx_no, rx_no]) ⟨Or.inr rfl, ⟨Or.inr rfl, ⟨Or.inr rfl, ⟨Or.inr rfl, ⟨Or.inr rfl, ⟨Or.inr rfl, ⟨Or.inr rfl, ⟨Or.inr rfl, ⟨Or.inl rfl, ⟨Or.inl rfl, ⟨Or.inl rfl, trivial⟩⟩⟩⟩⟩⟩⟩⟩⟩⟩⟩ k
            · have k := k.2 c20
              show rx_aw 236 182 [.ref 90, .int x1, .int x2, .int x3, .int x4, .int (x5 / (5 : Int32)), .int ((x6 &&& (1 : Int32)) &&& (0 : Int32)), .int x7, .int (x5 - x5 / (5 : Int32) * (5 : Int32)), .int (1 : Int32), .int z18] [.int x7, .ref 133] (rx_hp L t hi18 hl18 v18) Q
              refine rx_aw_s 3 (pc := 182) rfl ?_
              show rx_aw 236 188 [.ref 90, .int x1, .int x2, .int x3, .int x4, .int (x5 / (5 : Int32)), .int ((x6 &&& (1 : Int32)) &&& (0 : Int32)), .int x7, .int (x5 - x5 / (5 : Int32) * (5 : Int32)), .int (1 : Int32), .int z18] [.int z18, .ref 127, .int x7, .ref 133] (rx_hp L t hi18 hl18 v18) Q
              obtain ⟨j23, ej23, hj23, k⟩ := k
              refine rx_aw_iald (pc := 188) (n := 64) j23 ej23 rfl rfl rfl hj23 (by decide) ?_
              show rx_aw 236 189 [.ref 90, .int x1, .int x2, .int x3, .int x4, .int (x5 / (5 : Int32)), .int ((x6 &&& (1 : Int32)) &&& (0 : Int32)), .int x7, .int (x5 - x5 / (5 : Int32) * (5 : Int32)), .int (1 : Int32), .int z18] [.int (hi18 127 j23), .int x7, .ref 133] (rx_hp L t hi18 hl18 v18) Q
              refine rx_aw_s 1 (pc := 189) rfl ?_
              refine rx_w_if (c := (hi18 127 j23) < 0) ⟨fun c24 => ?_, fun c24 => ?_⟩
              · have k := k.1 c24
                show rx_aw 236 202 [.ref 90, .int x1, .int x2, .int x3, .int x4, .int (x5 / (5 : Int32)), .int ((x6 &&& (1 : Int32)) &&& (0 : Int32)), .int x7, .int (x5 - x5 / (5 : Int32) * (5 : Int32)), .int (1 : Int32), .int z18] [.int x7, .ref 133] (rx_hp L t hi18 hl18 v18) Q
                refine rx_aw_s 3 (pc := 202) rfl ?_
                show rx_aw 236 208 [.ref 90, .int x1, .int x2, .int x3, .int x4, .int (x5 / (5 : Int32)), .int ((x6 &&& (1 : Int32)) &&& (0 : Int32)), .int x7, .int (x5 - x5 / (5 : Int32) * (5 : Int32)), .int (1 : Int32), .int z18] [.int x7, .ref 132, .int x7, .ref 133] (rx_hp L t hi18 hl18 v18) Q
                obtain ⟨j25, ej25, hj25, k⟩ := k
                refine rx_aw_iald (pc := 208) (n := 3) j25 ej25 rfl rfl rfl hj25 (by decide) ?_
                show rx_aw 236 209 [.ref 90, .int x1, .int x2, .int x3, .int x4, .int (x5 / (5 : Int32)), .int ((x6 &&& (1 : Int32)) &&& (0 : Int32)), .int x7, .int (x5 - x5 / (5 : Int32) * (5 : Int32)), .int (1 : Int32), .int z18] [.int (hi18 132 j25), .int x7, .ref 133] (rx_hp L t hi18 hl18 v18) Q
                obtain ⟨j26, ej26, hj26, k⟩ := k
                refine rx_aw_iast (pc := 209) (n := 3) j26 ej26 rfl rfl (by decide) rfl hj26 (by decide) ?_
                show rx_aw 236 210 [.ref 90, .int x1, .int x2, .int x3, .int x4, .int (x5 / (5 : Int32)), .int ((x6 &&& (1 : Int32)) &&& (0 : Int32)), .int x7, .int (x5 - x5 / (5 : Int32) * (5 : Int32)), .int (1 : Int32), .int z18] [] (rx_hp L t (rx_u hi18 133 j26 (hi18 132 j25)) hl18 v18) Q
                refine rx_aw_s 2 (pc := 210) rfl ?_
                show rx_aw 236 36 [.ref 90, .int x1, .int x2, .int x3, .int x4, .int (x5 / (5 : Int32)), .int ((x6 &&& (1 : Int32)) &&& (0 : Int32)), .int (x7 + (1 : Int32)), .int (x5 - x5 / (5 : Int32) * (5 : Int32)), .int (1 : Int32), .int z18] [] (rx_hp L t (rx_u hi18 133 j26 (hi18 132 j25)) hl18 v18) Q
                exact rx_aw_le (ls := [.ref 90, .int x1, .int x2, .int x3, .int x4, .int (x5 / (5 : Int32)), .int ((x6 &&& (1 : Int32)) &&& (0 : Int32)), .int (x7 + (1 : Int32)), rx_no, rx_no, rx_no]) ⟨Or.inr rfl, ⟨Or.inr rfl, ⟨Or.inr rfl, ⟨Or.inr rfl, ⟨Or.inr rfl, ⟨Or.inr rfl, ⟨Or.inr rfl, ⟨Or.inr rfl, ⟨Or.inl rfl, ⟨Or.inl rfl, ⟨Or.inl rfl, trivial⟩⟩⟩⟩⟩⟩⟩⟩⟩⟩⟩ k
              · have k := k.2 c24
                show rx_aw 236 192 [.ref 90, .int x1, .int x2, .int x3, .int x4, .int (x5 / (5 : Int32)), .int ((x6 &&& (1 : Int32)) &&& (0 : Int32)), .int x7, .int (x5 - x5 / (5 : Int32) * (5 : Int32)), .int (1 : Int32), .int z18] [.int x7, .ref 133] (rx_hp L t hi18 hl18 v18) Q
                refine rx_aw_s 3 (pc := 192) rfl ?_
                show rx_aw 236 198 [.ref 90, .int x1, .int x2, .int x3, .int x4, .int (x5 / (5 : Int32)), .int ((x6 &&& (1 : Int32)) &&& (0 : Int32)), .int x7, .int (x5 - x5 / (5 : Int32) * (5 : Int32)), .int (1 : Int32), .int z18] [.int z18, .ref 127, .int x7, .ref 133] (rx_hp L t hi18 hl18 v18) Q
                obtain ⟨j27, ej27, hj27, k⟩ := k
                refine rx_aw_iald (pc := 198) (n := 64) j27 ej27 rfl rfl rfl hj27 (by decide) ?_
                show rx_aw 236 199 [.ref 90, .int x1, .int x2, .int x3, .int x4, .int (x5 / (5 : Int32)), .int ((x6 &&& (1 : Int32)) &&& (0 : Int32)), .int x7, .int (x5 - x5 / (5 : Int32) * (5 : Int32)), .int (1 : Int32), .int z18] [.int (hi18 127 j27), .int x7, .ref 133] (rx_hp L t hi18 hl18 v18) Q
                refine rx_aw_s 1 (pc := 199) rfl ?_
                show rx_aw 236 209 [.ref 90, .int x1, .int x2, .int x3, .int x4, .int (x5 / (5 : Int32)), .int ((x6 &&& (1 : Int32)) &&& (0 : Int32)), .int x7, .int (x5 - x5 / (5 : Int32) * (5 : Int32)), .int (1 : Int32), .int z18] [.int (hi18 127 j27), .int x7, .ref 133] (rx_hp L t hi18 hl18 v18) Q
                obtain ⟨j28, ej28, hj28, k⟩ := k
                refine rx_aw_iast (pc := 209) (n := 3) j28 ej28 rfl rfl (by decide) rfl hj28 (by decide) ?_
                show rx_aw 236 210 [.ref 90, .int x1, .int x2, .int x3, .int x4, .int (x5 / (5 : Int32)), .int ((x6 &&& (1 : Int32)) &&& (0 : Int32)), .int x7, .int (x5 - x5 / (5 : Int32) * (5 : Int32)), .int (1 : Int32), .int z18] [] (rx_hp L t (rx_u hi18 133 j28 (hi18 127 j27)) hl18 v18) Q
                refine rx_aw_s 2 (pc := 210) rfl ?_
                show rx_aw 236 36 [.ref 90, .int x1, .int x2, .int x3, .int x4, .int (x5 / (5 : Int32)), .int ((x6 &&& (1 : Int32)) &&& (0 : Int32)), .int (x7 + (1 : Int32)), .int (x5 - x5 / (5 : Int32) * (5 : Int32)), .int (1 : Int32), .int z18] [] (rx_hp L t (rx_u hi18 133 j28 (hi18 127 j27)) hl18 v18) Q
                exact rx_aw_le (ls := [.ref 90, .int x1, .int x2, .int x3, .int x4, .int (x5 / (5 : Int32)), .int ((x6 &&& (1 : Int32)) &&& (0 : Int32)), .int (x7 + (1 : Int32)), rx_no, rx_no, rx_no]) ⟨Or.inr rfl, ⟨Or.inr rfl, ⟨Or.inr rfl, ⟨Or.inr rfl, ⟨Or.inr rfl, ⟨Or.inr rfl, ⟨Or.inr rfl, ⟨Or.inr rfl, ⟨Or.inl rfl, ⟨Or.inl rfl, ⟨Or.inl rfl, trivial⟩⟩⟩⟩⟩⟩⟩⟩⟩⟩⟩ k
          · have k := k.2 c19
            show rx_aw 236 153 [.ref 90, .int x1, .int x2, .int x3, .int x4, .int (x5 / (5 : Int32)), .int (x6 &&& (1 : Int32)), .int x7, .int (x5 - x5 / (5 : Int32) * (5 : Int32)), .int (1 : Int32), .int z18] [.int (x6 &&& (1 : Int32))] (rx_hp L t hi18 hl18 v18) Q
            refine rx_aw_s 3 (pc := 153) rfl ?_
            show rx_aw 236 159 [.ref 90, .int x1, .int x2, .int x3, .int x4, .int (x5 / (5 : Int32)), .int (x6 &&& (1 : Int32)), .int x7, .int (x5 - x5 / (5 : Int32) * (5 : Int32)), .int (1 : Int32), .int z18] [.int z18, .ref 127, .int (x6 &&& (1 : Int32))] (rx_hp L t hi18 hl18 v18) Q
            obtain ⟨j29, ej29, hj29, k⟩ := k
            refine rx_aw_iald (pc := 159) (n := 64) j29 ej29 rfl rfl rfl hj29 (by decide) ?_
            show rx_aw 236 160 [.ref 90, .int x1, .int x2, .int x3, .int x4, .int (x5 / (5 : Int32)), .int (x6 &&& (1 : Int32)), .int x7, .int (x5 - x5 / (5 : Int32) * (5 : Int32)), .int (1 : Int32), .int z18] [.int (hi18 127 j29), .int (x6 &&& (1 : Int32))] (rx_hp L t hi18 hl18 v18) Q
            refine rx_aw_s 1 (pc := 160) rfl ?_
            refine rx_w_if (c := (hi18 127 j29) < 0) ⟨fun c30 => ?_, fun c30 => ?_⟩
            · have k := k.1 c30
              show rx_aw 236 167 [.ref 90, .int x1, .int x2, .int x3, .int x4, .int (x5 / (5 : Int32)), .int (x6 &&& (1 : Int32)), .int x7, .int (x5 - x5 / (5 : Int32) * (5 : Int32)), .int (1 : Int32), .int z18] [.int (x6 &&& (1 : Int32))] (rx_hp L t hi18 hl18 v18) Q
              refine rx_aw_s 8 (pc := 167) rfl ?_
              refine rx_w_if (c := z18 < 0) ⟨fun c31 => ?_, fun c31 => ?_⟩
              · have k := k.1 c31
                show rx_aw 236 202 [.ref 90, .int x1, .int x2, .int x3, .int x4, .int (x5 / (5 : Int32)), .int ((x6 &&& (1 : Int32)) &&& (0 : Int32)), .int x7, .int (x5 - x5 / (5 : Int32) * (5 : Int32)), .int (1 : Int32), .int z18] [.int x7, .ref 133] (rx_hp L t hi18 hl18 v18) Q
                refine rx_aw_s 3 (pc := 202) rfl ?_
                show rx_aw 236 208 [.ref 90, .int x1, .int x2, .int x3, .int x4, .int (x5 / (5 : Int32)), .int ((x6 &&& (1 : Int32)) &&& (0 : Int32)), .int x7, .int (x5 - x5 / (5 : Int32) * (5 : Int32)), .int (1 : Int32), .int z18] [.int x7, .ref 132, .int x7, .ref 133] (rx_hp L t hi18 hl18 v18) Q
                obtain ⟨j32, ej32, hj32, k⟩ := k
                refine rx_aw_iald (pc := 208) (n := 3) j32 ej32 rfl rfl rfl hj32 (by decide) ?_
                show rx_aw 236 209 [.ref 90, .int x1, .int x2, .int x3, .int x4, .int (x5 / (5 : Int32)), .int ((x6 &&& (1 : Int32)) &&& (0 : Int32)), .int x7, .int (x5 - x5 / (5 : Int32) * (5 : Int32)), .int (1 : Int32), .int z18] [.int (hi18 132 j32), .int x7, .ref 133] (rx_hp L t hi18 hl18 v18) Q
                obtain ⟨j33, ej33, hj33, k⟩ := k
                refine rx_aw_iast (pc := 209) (n := 3) j33 ej33 rfl rfl (by decide) rfl hj33 (by decide) ?_
                show rx_aw 236 210 [.ref 90, .int x1, .int x2, .int x3, .int x4, .int (x5 / (5 : Int32)), .int ((x6 &&& (1 : Int32)) &&& (0 : Int32)), .int x7, .int (x5 - x5 / (5 : Int32) * (5 : Int32)), .int (1 : Int32), .int z18] [] (rx_hp L t (rx_u hi18 133 j33 (hi18 132 j32)) hl18 v18) Q
                refine rx_aw_s 2 (pc := 210) rfl ?_
                show rx_aw 236 36 [.ref 90, .int x1, .int x2, .int x3, .int x4, .int (x5 / (5 : Int32)), .int ((x6 &&& (1 : Int32)) &&& (0 : Int32)), .int (x7 + (1 : Int32)), .int (x5 - x5 / (5 : Int32) * (5 : Int32)), .int (1 : Int32), .int z18] [] (rx_hp L t (rx_u hi18 133 j33 (hi18 132 j32)) hl18 v18) Q
                exact rx_aw_le (ls := [.ref 90, .int x1, .int x2, .int x3, .int x4, .int (x5 / (5 : Int32)), .int ((x6 &&& (1 : Int32)) &&& (0 : Int32)), .int (x7 + (1 : Int32)), rx_no, rx_no, rx_no]) ⟨Or.inr rfl, ⟨Or.inr rfl, ⟨Or.inr rfl, ⟨Or.inr rfl, ⟨Or.inr rfl, ⟨Or.inr rfl, ⟨Or.inr rfl, ⟨Or.inr rfl, ⟨Or.inl rfl, ⟨Or.inl rfl, ⟨Or.inl rfl, trivial⟩⟩⟩⟩⟩⟩⟩⟩⟩⟩⟩ k
              · have k := k.2 c31
                show rx_aw 236 182 [.ref 90, .int x1, .int x2, .int x3, .int x4, .int (x5 / (5 : Int32)), .int ((x6 &&& (1 : Int32)) &&& (0 : Int32)), .int x7, .int (x5 - x5 / (5 : Int32) * (5 : Int32)), .int (1 : Int32), .int z18] [.int x7, .ref 133] (rx_hp L t hi18 hl18 v18) Q
                refine rx_aw_s 3 (pc := 182) rfl ?_
                show rx_aw 236 188 [.ref 90, .int x1, .int x2, .int x3, .int x4, .int (x5 / (5 : Int32)), .int ((x6 &&& (1 : Int32)) &&& (0 : Int32)), .int x7, .int (x5 - x5 / (5 : Int32) * (5 : Int32)), .int (1 : Int32), .int z18] [.int z18, .ref 127, .int x7, .ref 133] (rx_hp L t hi18 hl18 v18) Q
                obtain ⟨j34, ej34, hj34, k⟩ := k
                refine rx_aw_iald (pc := 188) (n := 64) j34 ej34 rfl rfl rfl hj34 (by decide) ?_
                show rx_aw 236 189 [.ref 90, .int x1, .int x2, .int x3, .int x4, .int (x5 / (5 : Int32)), .int ((x6 &&& (1 : Int32)) &&& (0 : Int32)), .int x7, .int (x5 - x5 / (5 : Int32) * (5 : Int32)), .int (1 : Int32), .int z18] [.int (hi18 127 j34), .int x7, .ref 133] (rx_hp L t hi18 hl18 v18) Q
                refine rx_aw_s 1 (pc := 189) rfl ?_
                refine rx_w_if (c := (hi18 127 j34) < 0) ⟨fun c35 => ?_, fun c35 => ?_⟩
                · have k := k.1 c35
                  show rx_aw 236 202 [.ref 90, .int x1, .int x2, .int x3, .int x4, .int (x5 / (5 : Int32)), .int ((x6 &&& (1 : Int32)) &&& (0 : Int32)), .int x7, .int (x5 - x5 / (5 : Int32) * (5 : Int32)), .int (1 : Int32), .int z18] [.int x7, .ref 133] (rx_hp L t hi18 hl18 v18) Q
                  refine rx_aw_s 3 (pc := 202) rfl ?_
                  show rx_aw 236 208 [.ref 90, .int x1, .int x2, .int x3, .int x4, .int (x5 / (5 : Int32)), .int ((x6 &&& (1 : Int32)) &&& (0 : Int32)), .int x7, .int (x5 - x5 / (5 : Int32) * (5 : Int32)), .int (1 : Int32), .int z18] [.int x7, .ref 132, .int x7, .ref 133] (rx_hp L t hi18 hl18 v18) Q
                  obtain ⟨j36, ej36, hj36, k⟩ := k
                  refine rx_aw_iald (pc := 208) (n := 3) j36 ej36 rfl rfl rfl hj36 (by decide) ?_
                  show rx_aw 236 209 [.ref 90, .int x1, .int x2, .int x3, .int x4, .int (x5 / (5 : Int32)), .int ((x6 &&& (1 : Int32)) &&& (0 : Int32)), .int x7, .int (x5 - x5 / (5 : Int32) * (5 : Int32)), .int (1 : Int32), .int z18] [.int (hi18 132 j36), .int x7, .ref 133] (rx_hp L t hi18 hl18 v18) Q
                  obtain ⟨j37, ej37, hj37, k⟩ := k
                  refine rx_aw_iast (pc := 209) (n := 3) j37 ej37 rfl rfl (by decide) rfl hj37 (by decide) ?_
                  show rx_aw 236 210 [.ref 90, .int x1, .int x2, .int x3, .int x4, .int (x5 / (5 : Int32)), .int ((x6 &&& (1 : Int32)) &&& (0 : Int32)), .int x7, .int (x5 - x5 / (5 : Int32) * (5 : Int32)), .int (1 : Int32), .int z18] [] (rx_hp L t (rx_u hi18 133 j37 (hi18 132 j36)) hl18 v18) Q
                  refine rx_aw_s 2 (pc := 210) rfl ?_
                  show rx_aw 236 36 [.ref 90, .int x1, .int x2, .int x3, .int x4, .int (x5 / (5 : Int32)), .int ((x6 &&& (1 : Int32)) &&& (0 : Int32)), .int (x7 + (1 : Int32)), .int (x5 - x5 / (5 : Int32) * (5 : Int32)), .int (1 : Int32), .int z18] [] (rx_hp L t (rx_u hi18 133 j37 (hi18 132 j36)) hl18 v18) Q
                  exact rx_aw_le (ls := [.ref 90, .int x1, .int x2, .int x3, .int x4, .int (x5 / (5 : Int32)), .int ((x6 &&& (1 : Int32)) &&& (0 : Int32)), .int (x7 + (1 : Int32)), rx_no, rx_no, rx_no]) ⟨Or.inr rfl, ⟨Or.inr rfl, ⟨Or.inr rfl, ⟨Or.inr rfl, ⟨Or.inr rfl, ⟨Or.inr rfl, ⟨Or.inr rfl, ⟨Or.inr rfl, ⟨Or.inl rfl, ⟨Or.inl rfl, ⟨Or.inl rfl, trivial⟩⟩⟩⟩⟩⟩⟩⟩⟩⟩⟩ k
                · have k := k.2 c35
                  show rx_aw 236 192 [.ref 90, .int x1, .int x2, .int x3, .int x4, .int (x5 / (5 : Int32)), .int ((x6 &&& (1 : Int32)) &&& (0 : Int32)), .int x7, .int (x5 - x5 / (5 : Int32) * (5 : Int32)), .int (1 : Int32), .int z18] [.int x7, .ref 133] (rx_hp L t hi18 hl18 v18) Q
                  refine rx_aw_s 3 (pc := 192) rfl ?_
                  show rx_aw 236 198 [.ref 90, .int x1, .int x2, .int x3, .int x4, .int (x5 / (5 : Int32)), .int ((x6 &&& (1 : Int32)) &&& (0 : Int32)), .int x7, .int (x5 - x5 / (5 : Int32) * (5 : Int32)), .int (1 : Int32), .int z18] [.int z18, .ref 127, .int x7, .ref 133] (rx_hp L t hi18 hl18 v18) Q
                  obtain ⟨j38, ej38, hj38, k⟩ := k
                  refine rx_aw_iald (pc := 198) (n := 64) j38 ej38 rfl rfl rfl hj38 (by decide) ?_
                  show rx_aw 236 199 [.ref 90, .int x1, .int x2, .int x3, .int x4, .int (x5 / (5 : Int32)), .int ((x6 &&& (1 : Int32)) &&& (0 : Int32)), .int x7, .int (x5 - x5 / (5 : Int32) * (5 : Int32)), .int (1 : Int32), .int z18] [.int (hi18 127 j38), .int x7, .ref 133] (rx_hp L t hi18 hl18 v18) Q
                  refine rx_aw_s 1 (pc := 199) rfl ?_
                  show rx_aw 236 209 [.ref 90, .int x1, .int x2, .int x3, .int x4, .int (x5 / (5 : Int32)), .int ((x6 &&& (1 : Int32)) &&& (0 : Int32)), .int x7, .int (x5 - x5 / (5 : Int32) * (5 : Int32)), .int (1 : Int32), .int z18] [.int (hi18 127 j38), .int x7, .ref 133] (rx_hp L t hi18 hl18 v18) Q
                  obtain ⟨j39, ej39, hj39, k⟩ := k
                  refine rx_aw_iast (pc := 209) (n := 3) j39 ej39 rfl rfl (by decide) rfl hj39 (by decide) ?_
                  show rx_aw 236 210 [.ref 90, .int x1, .int x2, .int x3, .int x4, .int (x5 / (5 : Int32)), .int ((x6 &&& (1 : Int32)) &&& (0 : Int32)), .int x7, .int (x5 - x5 / (5 : Int32) * (5 : Int32)), .int (1 : Int32), .int z18] [] (rx_hp L t (rx_u hi18 133 j39 (hi18 127 j38)) hl18 v18) Q
                  refine rx_aw_s 2 (pc := 210) rfl ?_
                  show rx_aw 236 36 [.ref 90, .int x1, .int x2, .int x3, .int x4, .int (x5 / (5 : Int32)), .int ((x6 &&& (1 : Int32)) &&& (0 : Int32)), .int (x7 + (1 : Int32)), .int (x5 - x5 / (5 : Int32) * (5 : Int32)), .int (1 : Int32), .int z18] [] (rx_hp L t (rx_u hi18 133 j39 (hi18 127 j38)) hl18 v18) Q
                  exact rx_aw_le (ls := [.ref 90, .int x1, .int x2, .int x3, .int x4, .int (x5 / (5 : Int32)), .int ((x6 &&& (1 : Int32)) &&& (0 : Int32)), .int (x7 + (1 : Int32)), rx_no, rx_no, rx_no]) ⟨Or.inr rfl, ⟨Or.inr rfl, ⟨Or.inr rfl, ⟨Or.inr rfl, ⟨Or.inr rfl, ⟨Or.inr rfl, ⟨Or.inr rfl, ⟨Or.inr rfl, ⟨Or.inl rfl, ⟨Or.inl rfl, ⟨Or.inl rfl, trivial⟩⟩⟩⟩⟩⟩⟩⟩⟩⟩⟩ k
            · have k := k.2 c30
              show rx_aw 236 163 [.ref 90, .int x1, .int x2, .int x3, .int x4, .int (x5 / (5 : Int32)), .int (x6 &&& (1 : Int32)), .int x7, .int (x5 - x5 / (5 : Int32) * (5 : Int32)), .int (1 : Int32), .int z18] [.int (x6 &&& (1 : Int32))] (rx_hp L t hi18 hl18 v18) Q
              refine rx_aw_s 9 (pc := 163) rfl ?_
              refine rx_w_if (c := z18 < 0) ⟨fun c40 => ?_, fun c40 => ?_⟩
              · have k := k.1 c40
                show rx_aw 236 202 [.ref 90, .int x1, .int x2, .int x3, .int x4, .int (x5 / (5 : Int32)), .int ((x6 &&& (1 : Int32)) &&& (1 : Int32)), .int x7, .int (x5 - x5 / (5 : Int32) * (5 : Int32)), .int (1 : Int32), .int z18] [.int x7, .ref 133] (rx_hp L t hi18 hl18 v18) Q
                refine rx_aw_s 3 (pc := 202) rfl ?_
                show rx_aw 236 208 [.ref 90, .int x1, .int x2, .int x3, .int x4, .int (x5 / (5 : Int32)), .int ((x6 &&& (1 : Int32)) &&& (1 : Int32)), .int x7, .int (x5 - x5 / (5 : Int32) * (5 : Int32)), .int (1 : Int32), .int z18] [.int x7, .ref 132, .int x7, .ref 133] (rx_hp L t hi18 hl18 v18) Q
                obtain ⟨j41, ej41, hj41, k⟩ := k
                refine rx_aw_iald (pc := 208) (n := 3) j41 ej41 rfl rfl rfl hj41 (by decide) ?_
                show rx_aw 236 209 [.ref 90, .int x1, .int x2, .int x3, .int x4, .int (x5 / (5 : Int32)), .int ((x6 &&& (1 : Int32)) &&& (1 : Int32)), .int x7, .int (x5 - x5 / (5 : Int32) * (5 : Int32)), .int (1 : Int32), .int z18] [.int (hi18 132 j41), .int x7, .ref 133] (rx_hp L t hi18 hl18 v18) Q
                obtain ⟨j42, ej42, hj42, k⟩ := k
                refine rx_aw_iast (pc := 209) (n := 3) j42 ej42 rfl rfl (by decide) rfl hj42 (by decide) ?_
                show rx_aw 236 210 [.ref 90, .int x1, .int x2, .int x3, .int x4, .int (x5 / (5 : Int32)), .int ((x6 &&& (1 : Int32)) &&& (1 : Int32)), .int x7, .int (x5 - x5 / (5 : Int32) * (5 : Int32)), .int (1 : Int32), .int z18] [] (rx_hp L t (rx_u hi18 133 j42 (hi18 132 j41)) hl18 v18) Q
                refine rx_aw_s 2 (pc := 210) rfl ?_
                show rx_aw 236 36 [.ref 90, .int x1, .int x2, .int x3, .int x4, .int (x5 / (5 : Int32)), .int ((x6 &&& (1 : Int32)) &&& (1 : Int32)), .int (x7 + (1 : Int32)), .int (x5 - x5 / (5 : Int32) * (5 : Int32)), .int (1 : Int32), .int z18] [] (rx_hp L t (rx_u hi18 133 j42 (hi18 132 j41)) hl18 v18) Q
                exact rx_aw_le (ls := [.ref 90, .int x1, .int x2, .int x3, .int x4, .int (x5 / (5 : Int32)), .int ((x6 &&& (1 : Int32)) &&& (1 : Int32)), .int (x7 + (1 : Int32)), rx_no, rx_no, rx_no]) ⟨Or.inr rfl, ⟨Or.inr rfl, ⟨Or.inr rfl, ⟨Or.inr rfl, ⟨Or.inr rfl, ⟨Or.inr rfl, ⟨Or.inr rfl, ⟨Or.inr rfl, ⟨Or.inl rfl, ⟨Or.inl rfl, ⟨Or.inl rfl, trivial⟩⟩⟩⟩⟩⟩⟩⟩⟩⟩⟩ k
              · have k := k.2 c40
                show rx_aw 236 182 [.ref 90, .int x1, .int x2, .int x3, .int x4, .int (x5 / (5 : Int32)), .int ((x6 &&& (1 : Int32)) &&& (1 : Int32)), .int x7, .int (x5 - x5 / (5 : Int32) * (5 : Int32)), .int (1 : Int32), .int z18] [.int x7, .ref 133] (rx_hp L t hi18 hl18 v18) Q
                refine rx_aw_s 3 (pc := 182) rfl ?_
                show rx_aw 236 188 [.ref 90, .int x1, .int x2, .int x3, .int x4, .int (x5 / (5 : Int32)), .int ((x6 &&& (1 : Int32)) &&& (1 : Int32)), .int x7, .int (x5 - x5 / (5 : Int32) * (5 : Int32)), .int (1 : Int32), .int z18] [.int z18, .ref 127, .int x7, .ref 133] (rx_hp L t hi18 hl18 v18) Q
                obtain ⟨j43, ej43, hj43, k⟩ := k
                refine rx_aw_iald (pc := 188) (n := 64) j43 ej43 rfl rfl rfl hj43 (by decide) ?_
                show rx_aw 236 189 [.ref 90, .int x1, .int x2, .int x3, .int x4, .int (x5 / (5 : Int32)), .int ((x6 &&& (1 : Int32)) &&& (1 : Int32)), .int x7, .int (x5 - x5 / (5 : Int32) * (5 : Int32)), .int (1 : Int32), .int z18] [.int (hi18 127 j43), .int x7, .ref 133] (rx_hp L t hi18 hl18 v18) Q
                refine rx_aw_s 1 (pc := 189) rfl ?_
                refine rx_w_if (c := (hi18 127 j43) < 0) ⟨fun c44 => ?_, fun c44 => ?_⟩
                · have k := k.1 c44
                  show rx_aw 236 202 [.ref 90, .int x1, .int x2, .int x3, .int x4, .int (x5 / (5 : Int32)), .int ((x6 &&& (1 : Int32)) &&& (1 : Int32)), .int x7, .int (x5 - x5 / (5 : Int32) * (5 : Int32)), .int (1 : Int32), .int z18] [.int x7, .ref 133] (rx_hp L t hi18 hl18 v18) Q
                  refine rx_aw_s 3 (pc := 202) rfl ?_
                  show rx_aw 236 208 [.ref 90, .int x1, .int x2, .int x3, .int x4, .int (x5 / (5 : Int32)), .int ((x6 &&& (1 : Int32)) &&& (1 : Int32)), .int x7, .int (x5 - x5 / (5 : Int32) * (5 : Int32)), .int (1 : Int32), .int z18] [.int x7, .ref 132, .int x7, .ref 133] (rx_hp L t hi18 hl18 v18) Q
                  obtain ⟨j45, ej45, hj45, k⟩ := k
                  refine rx_aw_iald (pc := 208) (n := 3) j45 ej45 rfl rfl rfl hj45 (by decide) ?_
                  show rx_aw 236 209 [.ref 90, .int x1, .int x2, .int x3, .int x4, .int (x5 / (5 : Int32)), .int ((x6 &&& (1 : Int32)) &&& (1 : Int32)), .int x7, .int (x5 - x5 / (5 : Int32) * (5 : Int32)), .int (1 : Int32), .int z18] [.int (hi18 132 j45), .int x7, .ref 133] (rx_hp L t hi18 hl18 v18) Q
                  obtain ⟨j46, ej46, hj46, k⟩ := k
                  refine rx_aw_iast (pc := 209) (n := 3) j46 ej46 rfl rfl (by decide) rfl hj46 (by decide) ?_
                  show rx_aw 236 210 [.ref 90, .int x1, .int x2, .int x3, .int x4, .int (x5 / (5 : Int32)), .int ((x6 &&& (1 : Int32)) &&& (1 : Int32)), .int x7, .int (x5 - x5 / (5 : Int32) * (5 : Int32)), .int (1 : Int32), .int z18] [] (rx_hp L t (rx_u hi18 133 j46 (hi18 132 j45)) hl18 v18) Q
                  refine rx_aw_s 2 (pc := 210) rfl ?_
                  show rx_aw 236 36 [.ref 90, .int x1, .int x2, .int x3, .int x4, .int (x5 / (5 : Int32)), .int ((x6 &&& (1 : Int32)) &&& (1 : Int32)), .int (x7 + (1 : Int32)), .int (x5 - x5 / (5 : Int32) * (5 : Int32)), .int (1 : Int32), .int z18] [] (rx_hp L t (rx_u hi18 133 j46 (hi18 132 j45)) hl18 v18) Q
                  exact rx_aw_le (ls := [.ref 90, .int x1, .int x2, .int x3, .int x4, .int (x5 / (5 : Int32)), .int ((x6 &&& (1 : Int32)) &&& (1 : Int32)), .int (x7 + (1 : Int32)), rx_no, rx_no, rx_no]) ⟨Or.inr rfl, ⟨Or.inr rfl, ⟨Or.inr rfl, ⟨Or.inr rfl, ⟨Or.inr rfl, ⟨Or.inr rfl, ⟨Or.inr rfl, ⟨Or.inr rfl, ⟨Or.inl rfl, ⟨Or.inl rfl, ⟨Or.inl rfl, trivial⟩⟩⟩⟩⟩⟩⟩⟩⟩⟩⟩ k
                · have k := k.2 c44
                  show rx_aw 236 192 [.ref 90, .int x1, .int x2, .int x3, .int x4, .int (x5 / (5 : Int32)), .int ((x6 &&& (1 : Int32)) &&& (1 : Int32)), .int x7, .int (x5 - x5 / (5 : Int32) * (5 : Int32)), .int (1 : Int32), .int z18] [.int x7, .ref 133] (rx_hp L t hi18 hl18 v18) Q
                  refine rx_aw_s 3 (pc := 192) rfl ?_
                  show rx_aw 236 198 [.ref 90, .int x1, .int x2, .int x3, .int x4, .int (x5 / (5 : Int32)), .int ((x6 &&& (1 : Int32)) &&& (1 : Int32)), .int x7, .int (x5 - x5 / (5 : Int32) * (5 : Int32)), .int (1 : Int32), .int z18] [.int z18, .ref 127, .int x7, .ref 133] (rx_hp L t hi18 hl18 v18) Q
                  obtain ⟨j47, ej47, hj47, k⟩ := k
                  refine rx_aw_iald (pc := 198) (n := 64) j47 ej47 rfl rfl rfl hj47 (by decide) ?_
                  show rx_aw 236 199 [.ref 90, .int x1, .int x2, .int x3, .int x4, .int (x5 / (5 : Int32)), .int ((x6 &&& (1 : Int32)) &&& (1 : Int32)), .int x7, .int (x5 - x5 / (5 : Int32) * (5 : Int32)), .int (1 : Int32), .int z18] [.int (hi18 127 j47), .int x7, .ref 133] (rx_hp L t hi18 hl18 v18) Q
                  refine rx_aw_s 1 (pc := 199) rfl ?_
                  show rx_aw 236 209 [.ref 90, .int x1, .int x2, .int x3, .int x4, .int (x5 / (5 : Int32)), .int ((x6 &&& (1 : Int32)) &&& (1 : Int32)), .int x7, .int (x5 - x5 / (5 : Int32) * (5 : Int32)), .int (1 : Int32), .int z18] [.int (hi18 127 j47), .int x7, .ref 133] (rx_hp L t hi18 hl18 v18) Q
                  obtain ⟨j48, ej48, hj48, k⟩ := k
                  refine rx_aw_iast (pc := 209) (n := 3) j48 ej48 rfl rfl (by decide) rfl hj48 (by decide) ?_
                  show rx_aw 236 210 [.ref 90, .int x1, .int x2, .int x3, .int x4, .int (x5 / (5 : Int32)), .int ((x6 &&& (1 : Int32)) &&& (1 : Int32)), .int x7, .int (x5 - x5 / (5 : Int32) * (5 : Int32)), .int (1 : Int32), .int z18] [] (rx_hp L t (rx_u hi18 133 j48 (hi18 127 j47)) hl18 v18) Q
                  refine rx_aw_s 2 (pc := 210) rfl ?_
                  show rx_aw 236 36 [.ref 90, .int x1, .int x2, .int x3, .int x4, .int (x5 / (5 : Int32)), .int ((x6 &&& (1 : Int32)) &&& (1 : Int32)), .int (x7 + (1 : Int32)), .int (x5 - x5 / (5 : Int32) * (5 : Int32)), .int (1 : Int32), .int z18] [] (rx_hp L t (rx_u hi18 133 j48 (hi18 127 j47)) hl18 v18) Q
                  exact rx_aw_le (ls := [.ref 90, .int x1, .int x2, .int x3, .int x4, .int (x5 / (5 : Int32)), .int ((x6 &&& (1 : Int32)) &&& (1 : Int32)), .int (x7 + (1 : Int32)), rx_no, rx_no, rx_no]) ⟨Or.inr rfl, ⟨Or.inr rfl, ⟨Or.inr rfl, ⟨Or.inr rfl, ⟨Or.inr rfl, ⟨Or.inr rfl, ⟨Or.inr rfl, ⟨Or.inr rfl, ⟨Or.inl rfl, ⟨Or.inl rfl, ⟨Or.inl rfl, trivial⟩⟩⟩⟩⟩⟩⟩⟩⟩⟩⟩ k
      · have k := k.2 c12
        show rx_aw 236 77 [.ref 90, .int x1, .int x2, .int x3, .int x4, .int (x5 / (5 : Int32)), .int x6, .int x7, .int (x5 - x5 / (5 : Int32) * (5 : Int32)), rx_no, rx_no] [] (rx_hp L t hi hl v) Q
        refine rx_aw_s 8 (pc := 77) rfl ?_
        show rx_aw 236 92 [.ref 90, .int x1, .int x2, .int x3, .int x4, .int (x5 / (5 : Int32)), .int x6, .int x7, .int (x5 - x5 / (5 : Int32) * (5 : Int32)), .int (0 : Int32), rx_no] [.int x7, .ref 132, .int x7, .ref 133] (rx_hp L t hi hl v) Q
        obtain ⟨j49, ej49, hj49, k⟩ := k
        refine rx_aw_iald (pc := 92) (n := 3) j49 ej49 rfl rfl rfl hj49 (by decide) ?_
        show rx_aw 236 93 [.ref 90, .int x1, .int x2, .int x3, .int x4, .int (x5 / (5 : Int32)), .int x6, .int x7, .int (x5 - x5 / (5 : Int32) * (5 : Int32)), .int (0 : Int32), rx_no] [.int (hi 132 j49), .int x7, .ref 133] (rx_hp L t hi hl v) Q
        obtain ⟨j50, ej50, hj50, k⟩ := k
        refine rx_aw_iast (pc := 93) (n := 3) j50 ej50 rfl rfl (by decide) rfl hj50 (by decide) ?_
        show rx_aw 236 94 [.ref 90, .int x1, .int x2, .int x3, .int x4, .int (x5 / (5 : Int32)), .int x6, .int x7, .int (x5 - x5 / (5 : Int32) * (5 : Int32)), .int (0 : Int32), rx_no] [] (rx_hp L t (rx_u hi 133 j50 (hi 132 j49)) hl v) Q
        refine rx_aw_s 5 (pc := 94) rfl ?_
        refine rx_w_ifn (c := (x5 - x5 / (5 : Int32) * (5 : Int32)) = 0) ⟨fun c51 => ?_, fun c51 => ?_⟩
        · have k := k.1 c51
          show rx_aw 236 106 [.ref 90, .int x1, .int x2, .int x3, .int x4, .int (x5 / (5 : Int32)), .int x6, .int x7, .int (x5 - x5 / (5 : Int32) * (5 : Int32)), .int (0 : Int32), rx_no] [.int x6] (rx_hp L t (rx_u hi 133 j50 (hi 132 j49)) hl v) Q
          refine rx_aw_s 8 (pc := 106) rfl ?_
          show rx_aw 236 36 [.ref 90, .int x1, .int x2, .int x3, .int x4, .int (x5 / (5 : Int32)), .int (x6 &&& (1 : Int32)), .int (x7 + (1 : Int32)), .int (x5 - x5 / (5 : Int32) * (5 : Int32)), .int (0 : Int32), rx_no] [] (rx_hp L t (rx_u hi 133 j50 (hi 132 j49)) hl v) Q
          exact rx_aw_le (ls := [.ref 90, .int x1, .int x2, .int x3, .int x4, .int (x5 / (5 : Int32)), .int (x6 &&& (1 : Int32)), .int (x7 + (1 : Int32)), rx_no, rx_no, rx_no]) ⟨Or.inr rfl, ⟨Or.inr rfl, ⟨Or.inr rfl, ⟨Or.inr rfl, ⟨Or.inr rfl, ⟨Or.inr rfl, ⟨Or.inr rfl, ⟨Or.inr rfl, ⟨Or.inl rfl, ⟨Or.inl rfl, ⟨Or.inl rfl, trivial⟩⟩⟩⟩⟩⟩⟩⟩⟩⟩⟩ k
        · have k := k.2 c51
          show rx_aw 236 110 [.ref 90, .int x1, .int x2, .int x3, .int x4, .int (x5 / (5 : Int32)), .int x6, .int x7, .int (x5 - x5 / (5 : Int32) * (5 : Int32)), .int (0 : Int32), rx_no] [.int x6] (rx_hp L t (rx_u hi 133 j50 (hi 132 j49)) hl v) Q
          refine rx_aw_s 7 (pc := 110) rfl ?_
          show rx_aw 236 36 [.ref 90, .int x1, .int x2, .int x3, .int x4, .int (x5 / (5 : Int32)), .int (x6 &&& (0 : Int32)), .int (x7 + (1 : Int32)), .int (x5 - x5 / (5 : Int32) * (5 : Int32)), .int (0 : Int32), rx_no] [] (rx_hp L t (rx_u hi 133 j50 (hi 132 j49)) hl v) Q
          exact rx_aw_le (ls := [.ref 90, .int x1, .int x2, .int x3, .int x4, .int (x5 / (5 : Int32)), .int (x6 &&& (0 : Int32)), .int (x7 + (1 : Int32)), rx_no, rx_no, rx_no]) ⟨Or.inr rfl, ⟨Or.inr rfl, ⟨Or.inr rfl, ⟨Or.inr rfl, ⟨Or.inr rfl, ⟨Or.inr rfl, ⟨Or.inr rfl, ⟨Or.inr rfl, ⟨Or.inl rfl, ⟨Or.inl rfl, ⟨Or.inl rfl, trivial⟩⟩⟩⟩⟩⟩⟩⟩⟩⟩⟩ k
set_option maxRecDepth 100000 in
/-- CartFloorModel.isStep()Z -/
theorem w237_isStep_r {L : Nat} {t : List (Nat × Nat)} {hi : Nat → Nat → Int32} {hl : Nat → Nat → Int64} {v : Nat → Nat → Option Nat} {Q : Option Value → rx_H → Prop}  (k : rx_aw 237 4 [.ref 90, .int (1 : Int32), .int (0 : Int32), rx_no] [] (rx_hp L t hi hl v) Q) : rx_me 237 [.ref 90] (rx_hp L t hi hl v) Q := by
  show rx_aw 237 0 [.ref 90, rx_no, rx_no, rx_no] [] (rx_hp L t hi hl v) Q
  refine rx_aw_s 4 (pc := 0) rfl ?_
  show rx_aw 237 4 [.ref 90, .int (1 : Int32), .int (0 : Int32), rx_no] [] (rx_hp L t hi hl v) Q
  exact k
set_option maxRecDepth 100000 in
theorem w237_isStep_r_4 {L : Nat} {t : List (Nat × Nat)} {hi : Nat → Nat → Int32} {hl : Nat → Nat → Int64} {v : Nat → Nat → Option Nat} {Q : Option Value → rx_H → Prop} {x1 : Int32} {x2 : Int32} (k : (((hi 90 53) ≤ x2 → ((x1 = 0 ∨ x1 = 1) ∧ Q (some (.int x1)) (rx_hp L t hi hl v))) ∧ (¬ ((hi 90 53) ≤ x2) → (∃ j2 : Nat, x2 = nI j2 ∧ j2 < 3 ∧ (∃ j3 : Nat, x2 = nI j3 ∧ j3 < 3 ∧ (∃ j4 : Nat, (hi 133 j3) = nI j4 ∧ j4 < 20 ∧ rx_me 169 [.int (hi 126 j4)] (rx_hp L t hi hl v) (fun r h2 => ∃ z5 : Int64, r = some (.long z5) ∧ rx_ok2 L t h2 (fun hi5 hl5 v5 => (((lg_cmp ((hl 131 j2) &&& z5) (0 : Int64)) = 0 → rx_aw 237 48 [.ref 90, .int (x1 &&& (1 : Int32)), .int x2, .int (0 : Int32)] [] (rx_hp L t hi5 hl5 v5) Q) ∧ (¬ ((lg_cmp ((hl 131 j2) &&& z5) (0 : Int64)) = 0) → rx_aw 237 48 [.ref 90, .int (x1 &&& (0 : Int32)), .int x2, .int (0 : Int32)] [] (rx_hp L t hi5 hl5 v5) Q)))))))))) : rx_aw 237 4 [.ref 90, .int x1, .int x2, rx_no] [] (rx_hp L t hi hl v) Q := by
  refine rx_aw_s 4 (pc := 4) rfl ?_
  refine rx_w_if (c := (hi 90 53) ≤ x2) ⟨fun c1 => ?_, fun c1 => ?_⟩
  · have k := k.1 c1
    show rx_aw 237 118 [.ref 90, .int x1, .int x2, rx_no] [] (rx_hp L t hi hl v) Q
    refine rx_aw_s 1 (pc := 118) rfl ?_
    show rx_aw 237 119 [.ref 90, .int x1, .int x2, rx_no] [.int x1] (rx_hp L t hi hl v) Q
    exact rx_w_zret (pc := 119) rfl rfl k
  · have k := k.2 c1
    show rx_aw 237 12 [.ref 90, .int x1, .int x2, rx_no] [] (rx_hp L t hi hl v) Q
    refine rx_aw_s 4 (pc := 12) rfl ?_
    show rx_aw 237 18 [.ref 90, .int x1, .int x2, rx_no] [.int x2, .ref 131, .int x1] (rx_hp L t hi hl v) Q
    obtain ⟨j2, ej2, hj2, k⟩ := k
    refine rx_aw_lald (pc := 18) (n := 3) j2 ej2 rfl rfl (by decide) rfl hj2 (by decide) ?_
    show rx_aw 237 19 [.ref 90, .int x1, .int x2, rx_no] [.long (hl 131 j2), .int x1] (rx_hp L t hi hl v) Q
    refine rx_aw_s 5 (pc := 19) rfl ?_
    show rx_aw 237 28 [.ref 90, .int x1, .int x2, rx_no] [.int x2, .ref 133, .ref 126, .long (hl 131 j2), .int x1] (rx_hp L t hi hl v) Q
    obtain ⟨j3, ej3, hj3, k⟩ := k
    refine rx_aw_iald (pc := 28) (n := 3) j3 ej3 rfl rfl rfl hj3 (by decide) ?_
    show rx_aw 237 29 [.ref 90, .int x1, .int x2, rx_no] [.int (hi 133 j3), .ref 126, .long (hl 131 j2), .int x1] (rx_hp L t hi hl v) Q
    obtain ⟨j4, ej4, hj4, k⟩ := k
    refine rx_aw_iald (pc := 29) (n := 20) j4 ej4 rfl rfl rfl hj4 (by decide) ?_
    show rx_aw 237 30 [.ref 90, .int x1, .int x2, rx_no] [.int (hi 126 j4), .long (hl 131 j2), .int x1] (rx_hp L t hi hl v) Q
    refine rx_w_callL (j := 169) (pc := 30) rfl rfl rfl rfl rfl ?_
    refine rx_aw.mono k (fun r h2 k => ?_)
    obtain ⟨z5, rfl, hi5, hl5, v5, rfl, k⟩ := k
    refine ⟨z5, rfl, ?_⟩
    show rx_aw 237 33 [.ref 90, .int x1, .int x2, rx_no] [.long z5, .long (hl 131 j2), .int x1] (rx_hp L t hi5 hl5 v5) Q
    refine rx_aw_s 4 (pc := 33) rfl ?_
    refine rx_w_ifn (c := (lg_cmp ((hl 131 j2) &&& z5) (0 : Int64)) = 0) ⟨fun c6 => ?_, fun c6 => ?_⟩
    · have k := k.1 c6
      show rx_aw 237 39 [.ref 90, .int x1, .int x2, rx_no] [.int x1] (rx_hp L t hi5 hl5 v5) Q
      refine rx_aw_s 6 (pc := 39) rfl ?_
      show rx_aw 237 48 [.ref 90, .int (x1 &&& (1 : Int32)), .int x2, .int (0 : Int32)] [] (rx_hp L t hi5 hl5 v5) Q
      exact k
    · have k := k.2 c6
      show rx_aw 237 43 [.ref 90, .int x1, .int x2, rx_no] [.int x1] (rx_hp L t hi5 hl5 v5) Q
      refine rx_aw_s 5 (pc := 43) rfl ?_
      show rx_aw 237 48 [.ref 90, .int (x1 &&& (0 : Int32)), .int x2, .int (0 : Int32)] [] (rx_hp L t hi5 hl5 v5) Q
      exact k
set_option maxRecDepth 100000 in
theorem w237_isStep_r_48 {L : Nat} {t : List (Nat × Nat)} {hi : Nat → Nat → Int32} {hl : Nat → Nat → Int64} {v : Nat → Nat → Option Nat} {Q : Option Value → rx_H → Prop} {x1 : Int32} {x2 : Int32} {x3 : Int32} (k : ((x2 ≤ x3 → rx_aw 237 4 [.ref 90, .int x1, .int (x2 + (1 : Int32)), rx_no] [] (rx_hp L t hi hl v) Q) ∧ (¬ (x2 ≤ x3) → (∃ j8 : Nat, x2 = nI j8 ∧ j8 < 3 ∧ (∃ j9 : Nat, x3 = nI j9 ∧ j9 < 3 ∧ (((hi 133 j8) = (hi 133 j9) → rx_aw 237 48 [.ref 90, .int (x1 &&& (0 : Int32)), .int x2, .int (x3 + (1 : Int32))] [] (rx_hp L t hi hl v) Q) ∧ (¬ ((hi 133 j8) = (hi 133 j9)) → (∃ j11 : Nat, x2 = nI j11 ∧ j11 < 3 ∧ (∃ j12 : Nat, x3 = nI j12 ∧ j12 < 3 ∧ (((hi 133 j11) = (hi 132 j12) → (∃ j14 : Nat, x3 = nI j14 ∧ j14 < 3 ∧ (∃ j15 : Nat, x2 = nI j15 ∧ j15 < 3 ∧ (((hi 133 j14) = (hi 132 j15) → rx_aw 237 48 [.ref 90, .int (x1 &&& (0 : Int32)), .int x2, .int (x3 + (1 : Int32))] [] (rx_hp L t hi hl v) Q) ∧ (¬ ((hi 133 j14) = (hi 132 j15)) → rx_aw 237 48 [.ref 90, .int (x1 &&& (1 : Int32)), .int x2, .int (x3 + (1 : Int32))] [] (rx_hp L t hi hl v) Q))))) ∧ (¬ ((hi 133 j11) = (hi 132 j12)) → rx_aw 237 48 [.ref 90, .int (x1 &&& (1 : Int32)), .int x2, .int (x3 + (1 : Int32))] [] (rx_hp L t hi hl v) Q))))))))))) : rx_aw 237 48 [.ref 90, .int x1, .int x2, .int x3] [] (rx_hp L t hi hl v) Q := by
  refine rx_aw_s 3 (pc := 48) rfl ?_
  refine rx_w_if (c := x2 ≤ x3) ⟨fun c7 => ?_, fun c7 => ?_⟩
  · have k := k.1 c7
    show rx_aw 237 112 [.ref 90, .int x1, .int x2, .int x3] [] (rx_hp L t hi hl v) Q
    refine rx_aw_s 2 (pc := 112) rfl ?_
    show rx_aw 237 4 [.ref 90, .int x1, .int (x2 + (1 : Int32)), .int x3] [] (rx_hp L t hi hl v) Q
    exact rx_aw_le (ls := [.ref 90, .int x1, .int (x2 + (1 : Int32)), rx_no]) ⟨Or.inr rfl, ⟨Or.inr rfl, ⟨Or.inr rfl, ⟨Or.inl rfl, trivial⟩⟩⟩⟩ k
  · have k := k.2 c7
    show rx_aw 237 53 [.ref 90, .int x1, .int x2, .int x3] [] (rx_hp L t hi hl v) Q
    refine rx_aw_s 4 (pc := 53) rfl ?_
    show rx_aw 237 59 [.ref 90, .int x1, .int x2, .int x3] [.int x2, .ref 133, .int x1] (rx_hp L t hi hl v) Q
    obtain ⟨j8, ej8, hj8, k⟩ := k
    refine rx_aw_iald (pc := 59) (n := 3) j8 ej8 rfl rfl rfl hj8 (by decide) ?_
    show rx_aw 237 60 [.ref 90, .int x1, .int x2, .int x3] [.int (hi 133 j8), .int x1] (rx_hp L t hi hl v) Q
    refine rx_aw_s 3 (pc := 60) rfl ?_
    show rx_aw 237 65 [.ref 90, .int x1, .int x2, .int x3] [.int x3, .ref 133, .int (hi 133 j8), .int x1] (rx_hp L t hi hl v) Q
    obtain ⟨j9, ej9, hj9, k⟩ := k
    refine rx_aw_iald (pc := 65) (n := 3) j9 ej9 rfl rfl rfl hj9 (by decide) ?_
    show rx_aw 237 66 [.ref 90, .int x1, .int x2, .int x3] [.int (hi 133 j9), .int (hi 133 j8), .int x1] (rx_hp L t hi hl v) Q
    refine rx_aw_s 1 (pc := 66) rfl ?_
    refine rx_w_if (c := (hi 133 j8) = (hi 133 j9)) ⟨fun c10 => ?_, fun c10 => ?_⟩
    · have k := k.1 c10
      show rx_aw 237 103 [.ref 90, .int x1, .int x2, .int x3] [.int x1] (rx_hp L t hi hl v) Q
      refine rx_aw_s 5 (pc := 103) rfl ?_
      show rx_aw 237 48 [.ref 90, .int (x1 &&& (0 : Int32)), .int x2, .int (x3 + (1 : Int32))] [] (rx_hp L t hi hl v) Q
      exact k
    · have k := k.2 c10
      show rx_aw 237 69 [.ref 90, .int x1, .int x2, .int x3] [.int x1] (rx_hp L t hi hl v) Q
      refine rx_aw_s 3 (pc := 69) rfl ?_
      show rx_aw 237 74 [.ref 90, .int x1, .int x2, .int x3] [.int x2, .ref 133, .int x1] (rx_hp L t hi hl v) Q
      obtain ⟨j11, ej11, hj11, k⟩ := k
      refine rx_aw_iald (pc := 74) (n := 3) j11 ej11 rfl rfl rfl hj11 (by decide) ?_
      show rx_aw 237 75 [.ref 90, .int x1, .int x2, .int x3] [.int (hi 133 j11), .int x1] (rx_hp L t hi hl v) Q
      refine rx_aw_s 3 (pc := 75) rfl ?_
      show rx_aw 237 80 [.ref 90, .int x1, .int x2, .int x3] [.int x3, .ref 132, .int (hi 133 j11), .int x1] (rx_hp L t hi hl v) Q
      obtain ⟨j12, ej12, hj12, k⟩ := k
      refine rx_aw_iald (pc := 80) (n := 3) j12 ej12 rfl rfl rfl hj12 (by decide) ?_
      show rx_aw 237 81 [.ref 90, .int x1, .int x2, .int x3] [.int (hi 132 j12), .int (hi 133 j11), .int x1] (rx_hp L t hi hl v) Q
      refine rx_aw_s 1 (pc := 81) rfl ?_
      refine rx_w_ifn (c := (hi 133 j11) = (hi 132 j12)) ⟨fun c13 => ?_, fun c13 => ?_⟩
      · have k := k.1 c13
        show rx_aw 237 84 [.ref 90, .int x1, .int x2, .int x3] [.int x1] (rx_hp L t hi hl v) Q
        refine rx_aw_s 3 (pc := 84) rfl ?_
        show rx_aw 237 89 [.ref 90, .int x1, .int x2, .int x3] [.int x3, .ref 133, .int x1] (rx_hp L t hi hl v) Q
        obtain ⟨j14, ej14, hj14, k⟩ := k
        refine rx_aw_iald (pc := 89) (n := 3) j14 ej14 rfl rfl rfl hj14 (by decide) ?_
        show rx_aw 237 90 [.ref 90, .int x1, .int x2, .int x3] [.int (hi 133 j14), .int x1] (rx_hp L t hi hl v) Q
        refine rx_aw_s 3 (pc := 90) rfl ?_
        show rx_aw 237 95 [.ref 90, .int x1, .int x2, .int x3] [.int x2, .ref 132, .int (hi 133 j14), .int x1] (rx_hp L t hi hl v) Q
        obtain ⟨j15, ej15, hj15, k⟩ := k
        refine rx_aw_iald (pc := 95) (n := 3) j15 ej15 rfl rfl rfl hj15 (by decide) ?_
        show rx_aw 237 96 [.ref 90, .int x1, .int x2, .int x3] [.int (hi 132 j15), .int (hi 133 j14), .int x1] (rx_hp L t hi hl v) Q
        refine rx_aw_s 1 (pc := 96) rfl ?_
        refine rx_w_if (c := (hi 133 j14) = (hi 132 j15)) ⟨fun c16 => ?_, fun c16 => ?_⟩
        · have k := k.1 c16
          show rx_aw 237 103 [.ref 90, .int x1, .int x2, .int x3] [.int x1] (rx_hp L t hi hl v) Q
          refine rx_aw_s 5 (pc := 103) rfl ?_
          show rx_aw 237 48 [.ref 90, .int (x1 &&& (0 : Int32)), .int x2, .int (x3 + (1 : Int32))] [] (rx_hp L t hi hl v) Q
          exact k
        · have k := k.2 c16
          show rx_aw 237 99 [.ref 90, .int x1, .int x2, .int x3] [.int x1] (rx_hp L t hi hl v) Q
          refine rx_aw_s 6 (pc := 99) rfl ?_
          show rx_aw 237 48 [.ref 90, .int (x1 &&& (1 : Int32)), .int x2, .int (x3 + (1 : Int32))] [] (rx_hp L t hi hl v) Q
          exact k
      · have k := k.2 c13
        show rx_aw 237 99 [.ref 90, .int x1, .int x2, .int x3] [.int x1] (rx_hp L t hi hl v) Q
        refine rx_aw_s 6 (pc := 99) rfl ?_
        show rx_aw 237 48 [.ref 90, .int (x1 &&& (1 : Int32)), .int x2, .int (x3 + (1 : Int32))] [] (rx_hp L t hi hl v) Q
        exact k
set_option maxRecDepth 100000 in
/-- CartFloorModel.hang(III)I -/
theorem w238_hang_r {L : Nat} {t : List (Nat × Nat)} {hi : Nat → Nat → Int32} {hl : Nat → Nat → Int64} {v : Nat → Nat → Option Nat} {Q : Option Value → rx_H → Prop} {a0 : Int32} {a1 : Int32} {a2 : Int32} (k : ((a1 < 0 → Q (some (.int (-2 : Int32))) (rx_hp L t hi hl v)) ∧ (¬ (a1 < 0) → ((a1 ≤ (2 : Int32) → ((a0 < 0 → Q (some (.int (-11 : Int32))) (rx_hp L t hi hl v)) ∧ (¬ (a0 < 0) → ((a0 ≤ (9 : Int32) → ((a1 = (1 : Int32) → rx_me 161 [.ref 90, .int a2] (rx_hp L t hi hl v) (fun r h2 => ∃ z6 : Int32, r = some (.int z6) ∧ rx_ok2 L t h2 (fun hi6 hl6 v6 => ((z6 = 0 → Q (some (.int (-10 : Int32))) (rx_hp L t hi6 hl6 v6)) ∧ (¬ (z6 = 0) → ((a1 = (2 : Int32) → ((a2 < 0 → Q (some (.int (-10 : Int32))) (rx_hp L t hi6 hl6 v6)) ∧ (¬ (a2 < 0) → ((a2 < (hi6 90 21) → (∃ j11 : Nat, a0 = nI j11 ∧ j11 < 10 ∧ (∃ j12 : Nat, a0 = nI j12 ∧ j12 < 10 ∧ (∃ j13 : Nat, a0 = nI j13 ∧ j13 < 10 ∧ Q (some (.int (hi6 110 j11))) (rx_hp L t (rx_u (rx_u hi6 110 j12 a1) 111 j13 a2) hl6 v6))))) ∧ (¬ (a2 < (hi6 90 21)) → Q (some (.int (-10 : Int32))) (rx_hp L t hi6 hl6 v6)))))) ∧ (¬ (a1 = (2 : Int32)) → (∃ j14 : Nat, a0 = nI j14 ∧ j14 < 10 ∧ (∃ j15 : Nat, a0 = nI j15 ∧ j15 < 10 ∧ (∃ j16 : Nat, a0 = nI j16 ∧ j16 < 10 ∧ Q (some (.int (hi6 110 j14))) (rx_hp L t (rx_u (rx_u hi6 110 j15 a1) 111 j16 a2) hl6 v6))))))))))) ∧ (¬ (a1 = (1 : Int32)) → ((a1 = (2 : Int32) → ((a2 < 0 → Q (some (.int (-10 : Int32))) (rx_hp L t hi hl v)) ∧ (¬ (a2 < 0) → ((a2 < (hi 90 21) → (∃ j20 : Nat, a0 = nI j20 ∧ j20 < 10 ∧ (∃ j21 : Nat, a0 = nI j21 ∧ j21 < 10 ∧ (∃ j22 : Nat, a0 = nI j22 ∧ j22 < 10 ∧ Q (some (.int (hi 110 j20))) (rx_hp L t (rx_u (rx_u hi 110 j21 a1) 111 j22 a2) hl v))))) ∧ (¬ (a2 < (hi 90 21)) → Q (some (.int (-10 : Int32))) (rx_hp L t hi hl v)))))) ∧ (¬ (a1 = (2 : Int32)) → (∃ j23 : Nat, a0 = nI j23 ∧ j23 < 10 ∧ (∃ j24 : Nat, a0 = nI j24 ∧ j24 < 10 ∧ (∃ j25 : Nat, a0 = nI j25 ∧ j25 < 10 ∧ Q (some (.int (hi 110 j23))) (rx_hp L t (rx_u (rx_u hi 110 j24 a1) 111 j25 a2) hl v))))))))) ∧ (¬ (a0 ≤ (9 : Int32)) → Q (some (.int (-11 : Int32))) (rx_hp L t hi hl v)))))) ∧ (¬ (a1 ≤ (2 : Int32)) → Q (some (.int (-2 : Int32))) (rx_hp L t hi hl v)))))) : rx_me 238 [.ref 90, .int a0, .int a1, .int a2] (rx_hp L t hi hl v) Q := by
  show rx_aw 238 0 [.ref 90, .int a0, .int a1, .int a2, rx_no] [] (rx_hp L t hi hl v) Q
  refine rx_aw_s 2 (pc := 0) rfl ?_
  refine rx_w_if (c := a1 < 0) ⟨fun c1 => ?_, fun c1 => ?_⟩
  · have k := k.1 c1
    show rx_aw 238 9 [.ref 90, .int a0, .int a1, .int a2, rx_no] [] (rx_hp L t hi hl v) Q
    refine rx_aw_s 1 (pc := 9) rfl ?_
    show rx_aw 238 11 [.ref 90, .int a0, .int a1, .int a2, rx_no] [.int (-2 : Int32)] (rx_hp L t hi hl v) Q
    exact rx_aw_ret (pc := 11) rfl k
  · have k := k.2 c1
    show rx_aw 238 4 [.ref 90, .int a0, .int a1, .int a2, rx_no] [] (rx_hp L t hi hl v) Q
    refine rx_aw_s 3 (pc := 4) rfl ?_
    refine rx_w_if (c := a1 ≤ (2 : Int32)) ⟨fun c2 => ?_, fun c2 => ?_⟩
    · have k := k.1 c2
      show rx_aw 238 12 [.ref 90, .int a0, .int a1, .int a2, rx_no] [] (rx_hp L t hi hl v) Q
      refine rx_aw_s 2 (pc := 12) rfl ?_
      refine rx_w_if (c := a0 < 0) ⟨fun c3 => ?_, fun c3 => ?_⟩
      · have k := k.1 c3
        show rx_aw 238 22 [.ref 90, .int a0, .int a1, .int a2, rx_no] [] (rx_hp L t hi hl v) Q
        refine rx_aw_s 1 (pc := 22) rfl ?_
        show rx_aw 238 24 [.ref 90, .int a0, .int a1, .int a2, rx_no] [.int (-11 : Int32)] (rx_hp L t hi hl v) Q
        exact rx_aw_ret (pc := 24) rfl k
      · have k := k.2 c3
        show rx_aw 238 16 [.ref 90, .int a0, .int a1, .int a2, rx_no] [] (rx_hp L t hi hl v) Q
        refine rx_aw_s 3 (pc := 16) rfl ?_
        refine rx_w_if (c := a0 ≤ (9 : Int32)) ⟨fun c4 => ?_, fun c4 => ?_⟩
        · have k := k.1 c4
          show rx_aw 238 25 [.ref 90, .int a0, .int a1, .int a2, rx_no] [] (rx_hp L t hi hl v) Q
          refine rx_aw_s 3 (pc := 25) rfl ?_
          refine rx_w_ifn (c := a1 = (1 : Int32)) ⟨fun c5 => ?_, fun c5 => ?_⟩
          · have k := k.1 c5
            show rx_aw 238 30 [.ref 90, .int a0, .int a1, .int a2, rx_no] [] (rx_hp L t hi hl v) Q
            refine rx_aw_s 2 (pc := 30) rfl ?_
            show rx_aw 238 32 [.ref 90, .int a0, .int a1, .int a2, rx_no] [.int a2, .ref 90] (rx_hp L t hi hl v) Q
            refine rx_w_callI (j := 161) (pc := 32) rfl rfl rfl rfl rfl ?_
            refine rx_aw.mono k (fun r h2 k => ?_)
            obtain ⟨z6, rfl, hi6, hl6, v6, rfl, k⟩ := k
            refine ⟨z6, rfl, ?_⟩
            show rx_aw 238 35 [.ref 90, .int a0, .int a1, .int a2, rx_no] [.int z6] (rx_hp L t hi6 hl6 v6) Q
            refine rx_aw_s 1 (pc := 35) rfl ?_
            refine rx_w_if (c := z6 = 0) ⟨fun c7 => ?_, fun c7 => ?_⟩
            · have k := k.1 c7
              show rx_aw 238 55 [.ref 90, .int a0, .int a1, .int a2, rx_no] [] (rx_hp L t hi6 hl6 v6) Q
              refine rx_aw_s 1 (pc := 55) rfl ?_
              show rx_aw 238 57 [.ref 90, .int a0, .int a1, .int a2, rx_no] [.int (-10 : Int32)] (rx_hp L t hi6 hl6 v6) Q
              exact rx_aw_ret (pc := 57) rfl k
            · have k := k.2 c7
              show rx_aw 238 38 [.ref 90, .int a0, .int a1, .int a2, rx_no] [] (rx_hp L t hi6 hl6 v6) Q
              refine rx_aw_s 3 (pc := 38) rfl ?_
              refine rx_w_ifn (c := a1 = (2 : Int32)) ⟨fun c8 => ?_, fun c8 => ?_⟩
              · have k := k.1 c8
                show rx_aw 238 43 [.ref 90, .int a0, .int a1, .int a2, rx_no] [] (rx_hp L t hi6 hl6 v6) Q
                refine rx_aw_s 2 (pc := 43) rfl ?_
                refine rx_w_if (c := a2 < 0) ⟨fun c9 => ?_, fun c9 => ?_⟩
                · have k := k.1 c9
                  show rx_aw 238 55 [.ref 90, .int a0, .int a1, .int a2, rx_no] [] (rx_hp L t hi6 hl6 v6) Q
                  refine rx_aw_s 1 (pc := 55) rfl ?_
                  show rx_aw 238 57 [.ref 90, .int a0, .int a1, .int a2, rx_no] [.int (-10 : Int32)] (rx_hp L t hi6 hl6 v6) Q
                  exact rx_aw_ret (pc := 57) rfl k
                · have k := k.2 c9
                  show rx_aw 238 47 [.ref 90, .int a0, .int a1, .int a2, rx_no] [] (rx_hp L t hi6 hl6 v6) Q
                  refine rx_aw_s 4 (pc := 47) rfl ?_
                  refine rx_w_if (c := a2 < (hi6 90 21)) ⟨fun c10 => ?_, fun c10 => ?_⟩
                  · have k := k.1 c10
                    show rx_aw 238 58 [.ref 90, .int a0, .int a1, .int a2, rx_no] [] (rx_hp L t hi6 hl6 v6) Q
                    refine rx_aw_s 3 (pc := 58) rfl ?_
                    show rx_aw 238 63 [.ref 90, .int a0, .int a1, .int a2, rx_no] [.int a0, .ref 110] (rx_hp L t hi6 hl6 v6) Q
                    obtain ⟨j11, ej11, hj11, k⟩ := k
                    refine rx_aw_iald (pc := 63) (n := 10) j11 ej11 rfl rfl rfl hj11 (by decide) ?_
                    show rx_aw 238 64 [.ref 90, .int a0, .int a1, .int a2, rx_no] [.int (hi6 110 j11)] (rx_hp L t hi6 hl6 v6) Q
                    refine rx_aw_s 5 (pc := 64) rfl ?_
                    show rx_aw 238 72 [.ref 90, .int a0, .int a1, .int a2, .int (hi6 110 j11)] [.int a1, .int a0, .ref 110] (rx_hp L t hi6 hl6 v6) Q
                    obtain ⟨j12, ej12, hj12, k⟩ := k
                    refine rx_aw_iast (pc := 72) (n := 10) j12 ej12 rfl rfl (by decide) rfl hj12 (by decide) ?_
                    show rx_aw 238 73 [.ref 90, .int a0, .int a1, .int a2, .int (hi6 110 j11)] [] (rx_hp L t (rx_u hi6 110 j12 a1) hl6 v6) Q
                    refine rx_aw_s 4 (pc := 73) rfl ?_
                    show rx_aw 238 79 [.ref 90, .int a0, .int a1, .int a2, .int (hi6 110 j11)] [.int a2, .int a0, .ref 111] (rx_hp L t (rx_u hi6 110 j12 a1) hl6 v6) Q
                    obtain ⟨j13, ej13, hj13, k⟩ := k
                    refine rx_aw_iast (pc := 79) (n := 10) j13 ej13 rfl rfl (by decide) rfl hj13 (by decide) ?_
                    show rx_aw 238 80 [.ref 90, .int a0, .int a1, .int a2, .int (hi6 110 j11)] [] (rx_hp L t (rx_u (rx_u hi6 110 j12 a1) 111 j13 a2) hl6 v6) Q
                    refine rx_aw_s 1 (pc := 80) rfl ?_
                    show rx_aw 238 82 [.ref 90, .int a0, .int a1, .int a2, .int (hi6 110 j11)] [.int (hi6 110 j11)] (rx_hp L t (rx_u (rx_u hi6 110 j12 a1) 111 j13 a2) hl6 v6) Q
                    exact rx_aw_ret (pc := 82) rfl k
                  · have k := k.2 c10
                    show rx_aw 238 55 [.ref 90, .int a0, .int a1, .int a2, rx_no] [] (rx_hp L t hi6 hl6 v6) Q
                    refine rx_aw_s 1 (pc := 55) rfl ?_
                    show rx_aw 238 57 [.ref 90, .int a0, .int a1, .int a2, rx_no] [.int (-10 : Int32)] (rx_hp L t hi6 hl6 v6) Q
                    exact rx_aw_ret (pc := 57) rfl k
              · have k := k.2 c8
                show rx_aw 238 58 [.ref 90, .int a0, .int a1, .int a2, rx_no] [] (rx_hp L t hi6 hl6 v6) Q
                refine rx_aw_s 3 (pc := 58) rfl ?_
                show rx_aw 238 63 [.ref 90, .int a0, .int a1, .int a2, rx_no] [.int a0, .ref 110] (rx_hp L t hi6 hl6 v6) Q
                obtain ⟨j14, ej14, hj14, k⟩ := k
                refine rx_aw_iald (pc := 63) (n := 10) j14 ej14 rfl rfl rfl hj14 (by decide) ?_
                show rx_aw 238 64 [.ref 90, .int a0, .int a1, .int a2, rx_no] [.int (hi6 110 j14)] (rx_hp L t hi6 hl6 v6) Q
                refine rx_aw_s 5 (pc := 64) rfl ?_
                show rx_aw 238 72 [.ref 90, .int a0, .int a1, .int a2, .int (hi6 110 j14)] [.int a1, .int a0, .ref 110] (rx_hp L t hi6 hl6 v6) Q
                obtain ⟨j15, ej15, hj15, k⟩ := k
                refine rx_aw_iast (pc := 72) (n := 10) j15 ej15 rfl rfl (by decide) rfl hj15 (by decide) ?_
                show rx_aw 238 73 [.ref 90, .int a0, .int a1, .int a2, .int (hi6 110 j14)] [] (rx_hp L t (rx_u hi6 110 j15 a1) hl6 v6) Q
                refine rx_aw_s 4 (pc := 73) rfl ?_
                show rx_aw 238 79 [.ref 90, .int a0, .int a1, .int a2, .int (hi6 110 j14)] [.int a2, .int a0, .ref 111] (rx_hp L t (rx_u hi6 110 j15 a1) hl6 v6) Q
                obtain ⟨j16, ej16, hj16, k⟩ := k
                refine rx_aw_iast (pc := 79) (n := 10) j16 ej16 rfl rfl (by decide) rfl hj16 (by decide) ?_
                show rx_aw 238 80 [.ref 90, .int a0, .int a1, .int a2, .int (hi6 110 j14)] [] (rx_hp L t (rx_u (rx_u hi6 110 j15 a1) 111 j16 a2) hl6 v6) Q
                refine rx_aw_s 1 (pc := 80) rfl ?_
                show rx_aw 238 82 [.ref 90, .int a0, .int a1, .int a2, .int (hi6 110 j14)] [.int (hi6 110 j14)] (rx_hp L t (rx_u (rx_u hi6 110 j15 a1) 111 j16 a2) hl6 v6) Q
                exact rx_aw_ret (pc := 82) rfl k
          · have k := k.2 c5
            show rx_aw 238 38 [.ref 90, .int a0, .int a1, .int a2, rx_no] [] (rx_hp L t hi hl v) Q
            refine rx_aw_s 3 (pc := 38) rfl ?_
            refine rx_w_ifn (c := a1 = (2 : Int32)) ⟨fun c17 => ?_, fun c17 => ?_⟩
            · have k := k.1 c17
              show rx_aw 238 43 [.ref 90, .int a0, .int a1, .int a2, rx_no] [] (rx_hp L t hi hl v) Q
              refine rx_aw_s 2 (pc := 43) rfl ?_
              refine rx_w_if (c := a2 < 0) ⟨fun c18 => ?_, fun c18 => ?_⟩
              · have k := k.1 c18
                show rx_aw 238 55 [.ref 90, .int a0, .int a1, .int a2, rx_no] [] (rx_hp L t hi hl v) Q
                refine rx_aw_s 1 (pc := 55) rfl ?_
                show rx_aw 238 57 [.ref 90, .int a0, .int a1, .int a2, rx_no] [.int (-10 : Int32)] (rx_hp L t hi hl v) Q
                exact rx_aw_ret (pc := 57) rfl k
              · have k := k.2 c18
                show rx_aw 238 47 [.ref 90, .int a0, .int a1, .int a2, rx_no] [] (rx_hp L t hi hl v) Q
                refine rx_aw_s 4 (pc := 47) rfl ?_
                refine rx_w_if (c := a2 < (hi 90 21)) ⟨fun c19 => ?_, fun c19 => ?_⟩
                · have k := k.1 c19
                  show rx_aw 238 58 [.ref 90, .int a0, .int a1, .int a2, rx_no] [] (rx_hp L t hi hl v) Q
                  refine rx_aw_s 3 (pc := 58) rfl ?_
                  show rx_aw 238 63 [.ref 90, .int a0, .int a1, .int a2, rx_no] [.int a0, .ref 110] (rx_hp L t hi hl v) Q
                  obtain ⟨j20, ej20, hj20, k⟩ := k
                  refine rx_aw_iald (pc := 63) (n := 10) j20 ej20 rfl rfl rfl hj20 (by decide) ?_
                  show rx_aw 238 64 [.ref 90, .int a0, .int a1, .int a2, rx_no] [.int (hi 110 j20)] (rx_hp L t hi hl v) Q
                  refine rx_aw_s 5 (pc := 64) rfl ?_
                  show rx_aw 238 72 [.ref 90, .int a0, .int a1, .int a2, .int (hi 110 j20)] [.int a1, .int a0, .ref 110] (rx_hp L t hi hl v) Q
                  obtain ⟨j21, ej21, hj21, k⟩ := k
                  refine rx_aw_iast (pc := 72) (n := 10) j21 ej21 rfl rfl (by decide) rfl hj21 (by decide) ?_
                  show rx_aw 238 73 [.ref 90, .int a0, .int a1, .int a2, .int (hi 110 j20)] [] (rx_hp L t (rx_u hi 110 j21 a1) hl v) Q
                  refine rx_aw_s 4 (pc := 73) rfl ?_
                  show rx_aw 238 79 [.ref 90, .int a0, .int a1, .int a2, .int (hi 110 j20)] [.int a2, .int a0, .ref 111] (rx_hp L t (rx_u hi 110 j21 a1) hl v) Q
                  obtain ⟨j22, ej22, hj22, k⟩ := k
                  refine rx_aw_iast (pc := 79) (n := 10) j22 ej22 rfl rfl (by decide) rfl hj22 (by decide) ?_
                  show rx_aw 238 80 [.ref 90, .int a0, .int a1, .int a2, .int (hi 110 j20)] [] (rx_hp L t (rx_u (rx_u hi 110 j21 a1) 111 j22 a2) hl v) Q
                  refine rx_aw_s 1 (pc := 80) rfl ?_
                  show rx_aw 238 82 [.ref 90, .int a0, .int a1, .int a2, .int (hi 110 j20)] [.int (hi 110 j20)] (rx_hp L t (rx_u (rx_u hi 110 j21 a1) 111 j22 a2) hl v) Q
                  exact rx_aw_ret (pc := 82) rfl k
                · have k := k.2 c19
                  show rx_aw 238 55 [.ref 90, .int a0, .int a1, .int a2, rx_no] [] (rx_hp L t hi hl v) Q
                  refine rx_aw_s 1 (pc := 55) rfl ?_
                  show rx_aw 238 57 [.ref 90, .int a0, .int a1, .int a2, rx_no] [.int (-10 : Int32)] (rx_hp L t hi hl v) Q
                  exact rx_aw_ret (pc := 57) rfl k
            · have k := k.2 c17
              show rx_aw 238 58 [.ref 90, .int a0, .int a1, .int a2, rx_no] [] (rx_hp L t hi hl v) Q
              refine rx_aw_s 3 (pc := 58) rfl ?_
              show rx_aw 238 63 [.ref 90, .int a0, .int a1, .int a2, rx_no] [.int a0, .ref 110] (rx_hp L t hi hl v) Q
              obtain ⟨j23, ej23, hj23, k⟩ := k
              refine rx_aw_iald (pc := 63) (n := 10) j23 ej23 rfl rfl rfl hj23 (by decide) ?_
              show rx_aw 238 64 [.ref 90, .int a0, .int a1, .int a2, rx_no] [.int (hi 110 j23)] (rx_hp L t hi hl v) Q
              refine rx_aw_s 5 (pc := 64) rfl ?_
              show rx_aw 238 72 [.ref 90, .int a0, .int a1, .int a2, .int (hi 110 j23)] [.int a1, .int a0, .ref 110] (rx_hp L t hi hl v) Q
              obtain ⟨j24, ej24, hj24, k⟩ := k
              refine rx_aw_iast (pc := 72) (n := 10) j24 ej24 rfl rfl (by decide) rfl hj24 (by decide) ?_
              show rx_aw 238 73 [.ref 90, .int a0, .int a1, .int a2, .int (hi 110 j23)] [] (rx_hp L t (rx_u hi 110 j24 a1) hl v) Q
              refine rx_aw_s 4 (pc := 73) rfl ?_
              show rx_aw 238 79 [.ref 90, .int a0, .int a1, .int a2, .int (hi 110 j23)] [.int a2, .int a0, .ref 111] (rx_hp L t (rx_u hi 110 j24 a1) hl v) Q
              obtain ⟨j25, ej25, hj25, k⟩ := k
              refine rx_aw_iast (pc := 79) (n := 10) j25 ej25 rfl rfl (by decide) rfl hj25 (by decide) ?_
              show rx_aw 238 80 [.ref 90, .int a0, .int a1, .int a2, .int (hi 110 j23)] [] (rx_hp L t (rx_u (rx_u hi 110 j24 a1) 111 j25 a2) hl v) Q
              refine rx_aw_s 1 (pc := 80) rfl ?_
              show rx_aw 238 82 [.ref 90, .int a0, .int a1, .int a2, .int (hi 110 j23)] [.int (hi 110 j23)] (rx_hp L t (rx_u (rx_u hi 110 j24 a1) 111 j25 a2) hl v) Q
              exact rx_aw_ret (pc := 82) rfl k
        · have k := k.2 c4
          show rx_aw 238 22 [.ref 90, .int a0, .int a1, .int a2, rx_no] [] (rx_hp L t hi hl v) Q
          refine rx_aw_s 1 (pc := 22) rfl ?_
          show rx_aw 238 24 [.ref 90, .int a0, .int a1, .int a2, rx_no] [.int (-11 : Int32)] (rx_hp L t hi hl v) Q
          exact rx_aw_ret (pc := 24) rfl k
    · have k := k.2 c2
      show rx_aw 238 9 [.ref 90, .int a0, .int a1, .int a2, rx_no] [] (rx_hp L t hi hl v) Q
      refine rx_aw_s 1 (pc := 9) rfl ?_
      show rx_aw 238 11 [.ref 90, .int a0, .int a1, .int a2, rx_no] [.int (-2 : Int32)] (rx_hp L t hi hl v) Q
      exact rx_aw_ret (pc := 11) rfl k
set_option maxRecDepth 100000 in
/-- CartFloorModel.take(II)I -/
theorem w239_take_r {L : Nat} {t : List (Nat × Nat)} {hi : Nat → Nat → Int32} {hl : Nat → Nat → Int64} {v : Nat → Nat → Option Nat} {Q : Option Value → rx_H → Prop} {a0 : Int32} {a1 : Int32} (k : ((a1 < 0 → Q (some (.int (-2 : Int32))) (rx_hp L t hi hl v)) ∧ (¬ (a1 < 0) → ((a1 ≤ (4 : Int32) → ((a0 < 0 → Q (some (.int (-11 : Int32))) (rx_hp L t hi hl v)) ∧ (¬ (a0 < 0) → ((a0 ≤ (9 : Int32) → (∃ j5 : Nat, a0 = nI j5 ∧ j5 < 10 ∧ (((hi 110 j5) = 0 → Q (some (.int (-10 : Int32))) (rx_hp L t hi hl v)) ∧ (¬ ((hi 110 j5) = 0) → ((a1 = (4 : Int32) → (∃ j8 : Nat, a0 = nI j8 ∧ j8 < 10 ∧ (((hi 110 j8) = (2 : Int32) → (∃ j10 : Nat, a0 = nI j10 ∧ j10 < 10 ∧ Q (some (.int (hi 111 j10))) (rx_hp L t hi hl v))) ∧ (¬ ((hi 110 j8) = (2 : Int32)) → Q (some (.int (-12 : Int32))) (rx_hp L t hi hl v))))) ∧ (¬ (a1 = (4 : Int32)) → (∃ j11 : Nat, a0 = nI j11 ∧ j11 < 10 ∧ (((hi 110 j11) = (1 : Int32) → (∃ j13 : Nat, a0 = nI j13 ∧ j13 < 10 ∧ (∃ j14 : Nat, (hi 111 j13) = nI j14 ∧ j14 < 6 ∧ (((hi 93 j14) < a1 → Q (some (.int (-12 : Int32))) (rx_hp L t hi hl v)) ∧ (¬ ((hi 93 j14) < a1) → (∃ j16 : Nat, a0 = nI j16 ∧ j16 < 10 ∧ Q (some (.int (hi 111 j16))) (rx_hp L t hi hl v))))))) ∧ (¬ ((hi 110 j11) = (1 : Int32)) → Q (some (.int (-12 : Int32))) (rx_hp L t hi hl v)))))))))) ∧ (¬ (a0 ≤ (9 : Int32)) → Q (some (.int (-11 : Int32))) (rx_hp L t hi hl v)))))) ∧ (¬ (a1 ≤ (4 : Int32)) → Q (some (.int (-2 : Int32))) (rx_hp L t hi hl v)))))) : rx_me 239 [.ref 90, .int a0, .int a1] (rx_hp L t hi hl v) Q := by
  show rx_aw 239 0 [.ref 90, .int a0, .int a1, rx_no] [] (rx_hp L t hi hl v) Q
  refine rx_aw_s 2 (pc := 0) rfl ?_
  refine rx_w_if (c := a1 < 0) ⟨fun c1 => ?_, fun c1 => ?_⟩
  · have k := k.1 c1
    show rx_aw 239 9 [.ref 90, .int a0, .int a1, rx_no] [] (rx_hp L t hi hl v) Q
    refine rx_aw_s 1 (pc := 9) rfl ?_
    show rx_aw 239 11 [.ref 90, .int a0, .int a1, rx_no] [.int (-2 : Int32)] (rx_hp L t hi hl v) Q
    exact rx_aw_ret (pc := 11) rfl k
  · have k := k.2 c1
    show rx_aw 239 4 [.ref 90, .int a0, .int a1, rx_no] [] (rx_hp L t hi hl v) Q
    refine rx_aw_s 3 (pc := 4) rfl ?_
    refine rx_w_if (c := a1 ≤ (4 : Int32)) ⟨fun c2 => ?_, fun c2 => ?_⟩
    · have k := k.1 c2
      show rx_aw 239 12 [.ref 90, .int a0, .int a1, rx_no] [] (rx_hp L t hi hl v) Q
      refine rx_aw_s 2 (pc := 12) rfl ?_
      refine rx_w_if (c := a0 < 0) ⟨fun c3 => ?_, fun c3 => ?_⟩
      · have k := k.1 c3
        show rx_aw 239 22 [.ref 90, .int a0, .int a1, rx_no] [] (rx_hp L t hi hl v) Q
        refine rx_aw_s 1 (pc := 22) rfl ?_
        show rx_aw 239 24 [.ref 90, .int a0, .int a1, rx_no] [.int (-11 : Int32)] (rx_hp L t hi hl v) Q
        exact rx_aw_ret (pc := 24) rfl k
      · have k := k.2 c3
        show rx_aw 239 16 [.ref 90, .int a0, .int a1, rx_no] [] (rx_hp L t hi hl v) Q
        refine rx_aw_s 3 (pc := 16) rfl ?_
        refine rx_w_if (c := a0 ≤ (9 : Int32)) ⟨fun c4 => ?_, fun c4 => ?_⟩
        · have k := k.1 c4
          show rx_aw 239 25 [.ref 90, .int a0, .int a1, rx_no] [] (rx_hp L t hi hl v) Q
          refine rx_aw_s 3 (pc := 25) rfl ?_
          show rx_aw 239 30 [.ref 90, .int a0, .int a1, rx_no] [.int a0, .ref 110] (rx_hp L t hi hl v) Q
          obtain ⟨j5, ej5, hj5, k⟩ := k
          refine rx_aw_iald (pc := 30) (n := 10) j5 ej5 rfl rfl rfl hj5 (by decide) ?_
          show rx_aw 239 31 [.ref 90, .int a0, .int a1, rx_no] [.int (hi 110 j5)] (rx_hp L t hi hl v) Q
          refine rx_aw_s 1 (pc := 31) rfl ?_
          refine rx_w_ifn (c := (hi 110 j5) = 0) ⟨fun c6 => ?_, fun c6 => ?_⟩
          · have k := k.1 c6
            show rx_aw 239 34 [.ref 90, .int a0, .int a1, rx_no] [] (rx_hp L t hi hl v) Q
            refine rx_aw_s 1 (pc := 34) rfl ?_
            show rx_aw 239 36 [.ref 90, .int a0, .int a1, rx_no] [.int (-10 : Int32)] (rx_hp L t hi hl v) Q
            exact rx_aw_ret (pc := 36) rfl k
          · have k := k.2 c6
            show rx_aw 239 37 [.ref 90, .int a0, .int a1, rx_no] [] (rx_hp L t hi hl v) Q
            refine rx_aw_s 3 (pc := 37) rfl ?_
            refine rx_w_ifn (c := a1 = (4 : Int32)) ⟨fun c7 => ?_, fun c7 => ?_⟩
            · have k := k.1 c7
              show rx_aw 239 42 [.ref 90, .int a0, .int a1, rx_no] [] (rx_hp L t hi hl v) Q
              refine rx_aw_s 3 (pc := 42) rfl ?_
              show rx_aw 239 47 [.ref 90, .int a0, .int a1, rx_no] [.int a0, .ref 110] (rx_hp L t hi hl v) Q
              obtain ⟨j8, ej8, hj8, k⟩ := k
              refine rx_aw_iald (pc := 47) (n := 10) j8 ej8 rfl rfl rfl hj8 (by decide) ?_
              show rx_aw 239 48 [.ref 90, .int a0, .int a1, rx_no] [.int (hi 110 j8)] (rx_hp L t hi hl v) Q
              refine rx_aw_s 2 (pc := 48) rfl ?_
              refine rx_w_ifn (c := (hi 110 j8) = (2 : Int32)) ⟨fun c9 => ?_, fun c9 => ?_⟩
              · have k := k.1 c9
                show rx_aw 239 52 [.ref 90, .int a0, .int a1, rx_no] [] (rx_hp L t hi hl v) Q
                refine rx_aw_s 8 (pc := 52) rfl ?_
                show rx_aw 239 100 [.ref 90, .int a0, .int a1, .int (1 : Int32)] [.int a0, .ref 111] (rx_hp L t hi hl v) Q
                obtain ⟨j10, ej10, hj10, k⟩ := k
                refine rx_aw_iald (pc := 100) (n := 10) j10 ej10 rfl rfl rfl hj10 (by decide) ?_
                show rx_aw 239 101 [.ref 90, .int a0, .int a1, .int (1 : Int32)] [.int (hi 111 j10)] (rx_hp L t hi hl v) Q
                refine rx_aw_s 1 (pc := 101) rfl ?_
                show rx_aw 239 106 [.ref 90, .int a0, .int a1, .int (1 : Int32)] [.int (hi 111 j10)] (rx_hp L t hi hl v) Q
                exact rx_aw_ret (pc := 106) rfl k
              · have k := k.2 c9
                show rx_aw 239 56 [.ref 90, .int a0, .int a1, rx_no] [] (rx_hp L t hi hl v) Q
                refine rx_aw_s 6 (pc := 56) rfl ?_
                show rx_aw 239 106 [.ref 90, .int a0, .int a1, .int (0 : Int32)] [.int (-12 : Int32)] (rx_hp L t hi hl v) Q
                exact rx_aw_ret (pc := 106) rfl k
            · have k := k.2 c7
              show rx_aw 239 60 [.ref 90, .int a0, .int a1, rx_no] [] (rx_hp L t hi hl v) Q
              refine rx_aw_s 3 (pc := 60) rfl ?_
              show rx_aw 239 65 [.ref 90, .int a0, .int a1, rx_no] [.int a0, .ref 110] (rx_hp L t hi hl v) Q
              obtain ⟨j11, ej11, hj11, k⟩ := k
              refine rx_aw_iald (pc := 65) (n := 10) j11 ej11 rfl rfl rfl hj11 (by decide) ?_
              show rx_aw 239 66 [.ref 90, .int a0, .int a1, rx_no] [.int (hi 110 j11)] (rx_hp L t hi hl v) Q
              refine rx_aw_s 2 (pc := 66) rfl ?_
              refine rx_w_ifn (c := (hi 110 j11) = (1 : Int32)) ⟨fun c12 => ?_, fun c12 => ?_⟩
              · have k := k.1 c12
                show rx_aw 239 70 [.ref 90, .int a0, .int a1, rx_no] [] (rx_hp L t hi hl v) Q
                refine rx_aw_s 5 (pc := 70) rfl ?_
                show rx_aw 239 79 [.ref 90, .int a0, .int a1, rx_no] [.int a0, .ref 111, .ref 93] (rx_hp L t hi hl v) Q
                obtain ⟨j13, ej13, hj13, k⟩ := k
                refine rx_aw_iald (pc := 79) (n := 10) j13 ej13 rfl rfl rfl hj13 (by decide) ?_
                show rx_aw 239 80 [.ref 90, .int a0, .int a1, rx_no] [.int (hi 111 j13), .ref 93] (rx_hp L t hi hl v) Q
                obtain ⟨j14, ej14, hj14, k⟩ := k
                refine rx_aw_iald (pc := 80) (n := 6) j14 ej14 rfl rfl rfl hj14 (by decide) ?_
                show rx_aw 239 81 [.ref 90, .int a0, .int a1, rx_no] [.int (hi 93 j14)] (rx_hp L t hi hl v) Q
                refine rx_aw_s 2 (pc := 81) rfl ?_
                refine rx_w_if (c := (hi 93 j14) < a1) ⟨fun c15 => ?_, fun c15 => ?_⟩
                · have k := k.1 c15
                  show rx_aw 239 89 [.ref 90, .int a0, .int a1, rx_no] [] (rx_hp L t hi hl v) Q
                  refine rx_aw_s 5 (pc := 89) rfl ?_
                  show rx_aw 239 106 [.ref 90, .int a0, .int a1, .int (0 : Int32)] [.int (-12 : Int32)] (rx_hp L t hi hl v) Q
                  exact rx_aw_ret (pc := 106) rfl k
                · have k := k.2 c15
                  show rx_aw 239 85 [.ref 90, .int a0, .int a1, rx_no] [] (rx_hp L t hi hl v) Q
                  refine rx_aw_s 8 (pc := 85) rfl ?_
                  show rx_aw 239 100 [.ref 90, .int a0, .int a1, .int (1 : Int32)] [.int a0, .ref 111] (rx_hp L t hi hl v) Q
                  obtain ⟨j16, ej16, hj16, k⟩ := k
                  refine rx_aw_iald (pc := 100) (n := 10) j16 ej16 rfl rfl rfl hj16 (by decide) ?_
                  show rx_aw 239 101 [.ref 90, .int a0, .int a1, .int (1 : Int32)] [.int (hi 111 j16)] (rx_hp L t hi hl v) Q
                  refine rx_aw_s 1 (pc := 101) rfl ?_
                  show rx_aw 239 106 [.ref 90, .int a0, .int a1, .int (1 : Int32)] [.int (hi 111 j16)] (rx_hp L t hi hl v) Q
                  exact rx_aw_ret (pc := 106) rfl k
              · have k := k.2 c12
                show rx_aw 239 89 [.ref 90, .int a0, .int a1, rx_no] [] (rx_hp L t hi hl v) Q
                refine rx_aw_s 5 (pc := 89) rfl ?_
                show rx_aw 239 106 [.ref 90, .int a0, .int a1, .int (0 : Int32)] [.int (-12 : Int32)] (rx_hp L t hi hl v) Q
                exact rx_aw_ret (pc := 106) rfl k
        · have k := k.2 c4
          show rx_aw 239 22 [.ref 90, .int a0, .int a1, rx_no] [] (rx_hp L t hi hl v) Q
          refine rx_aw_s 1 (pc := 22) rfl ?_
          show rx_aw 239 24 [.ref 90, .int a0, .int a1, rx_no] [.int (-11 : Int32)] (rx_hp L t hi hl v) Q
          exact rx_aw_ret (pc := 24) rfl k
    · have k := k.2 c2
      show rx_aw 239 9 [.ref 90, .int a0, .int a1, rx_no] [] (rx_hp L t hi hl v) Q
      refine rx_aw_s 1 (pc := 9) rfl ?_
      show rx_aw 239 11 [.ref 90, .int a0, .int a1, rx_no] [.int (-2 : Int32)] (rx_hp L t hi hl v) Q
      exact rx_aw_ret (pc := 11) rfl k
set_option maxRecDepth 100000 in
/-- CartFloorModel.mark(III)I -/
theorem w241_mark_r {L : Nat} {t : List (Nat × Nat)} {hi : Nat → Nat → Int32} {hl : Nat → Nat → Int64} {v : Nat → Nat → Option Nat} {Q : Option Value → rx_H → Prop} {a0 : Int32} {a1 : Int32} {a2 : Int32} (k : ((a1 < 0 → Q (some (.int (-11 : Int32))) (rx_hp L t hi hl v)) ∧ (¬ (a1 < 0) → ((a1 < (hi 90 1) → (∃ j3 : Nat, a1 = nI j3 ∧ j3 < 8 ∧ (((hi 92 j3) = 0 → ((a0 < 0 → Q (some (.int (-11 : Int32))) (rx_hp L t hi hl v)) ∧ (¬ (a0 < 0) → ((a0 < (hi 90 0) → (∃ j7 : Nat, (((8 : Int32) * a1) + a0) = nI j7 ∧ j7 < 64 ∧ (∃ j8 : Nat, (((8 : Int32) * a1) + a0) = nI j8 ∧ j8 < 64 ∧ Q (some (.int ((1000 : Int32) + (hi 112 j7)))) (rx_hp L t (rx_u hi 112 j8 ((Int32.toInt8 a2).toInt32)) hl v)))) ∧ (¬ (a0 < (hi 90 0)) → Q (some (.int (-11 : Int32))) (rx_hp L t hi hl v)))))) ∧ (¬ ((hi 92 j3) = 0) → Q (some (.int (-10 : Int32))) (rx_hp L t hi hl v))))) ∧ (¬ (a1 < (hi 90 1)) → Q (some (.int (-11 : Int32))) (rx_hp L t hi hl v)))))) : rx_me 241 [.ref 90, .int a0, .int a1, .int a2] (rx_hp L t hi hl v) Q := by
  show rx_aw 241 0 [.ref 90, .int a0, .int a1, .int a2, rx_no] [] (rx_hp L t hi hl v) Q
  refine rx_aw_s 2 (pc := 0) rfl ?_
  refine rx_w_if (c := a1 < 0) ⟨fun c1 => ?_, fun c1 => ?_⟩
  · have k := k.1 c1
    show rx_aw 241 12 [.ref 90, .int a0, .int a1, .int a2, rx_no] [] (rx_hp L t hi hl v) Q
    refine rx_aw_s 1 (pc := 12) rfl ?_
    show rx_aw 241 14 [.ref 90, .int a0, .int a1, .int a2, rx_no] [.int (-11 : Int32)] (rx_hp L t hi hl v) Q
    exact rx_aw_ret (pc := 14) rfl k
  · have k := k.2 c1
    show rx_aw 241 4 [.ref 90, .int a0, .int a1, .int a2, rx_no] [] (rx_hp L t hi hl v) Q
    refine rx_aw_s 4 (pc := 4) rfl ?_
    refine rx_w_if (c := a1 < (hi 90 1)) ⟨fun c2 => ?_, fun c2 => ?_⟩
    · have k := k.1 c2
      show rx_aw 241 15 [.ref 90, .int a0, .int a1, .int a2, rx_no] [] (rx_hp L t hi hl v) Q
      refine rx_aw_s 3 (pc := 15) rfl ?_
      show rx_aw 241 20 [.ref 90, .int a0, .int a1, .int a2, rx_no] [.int a1, .ref 92] (rx_hp L t hi hl v) Q
      obtain ⟨j3, ej3, hj3, k⟩ := k
      refine rx_aw_bald (pc := 20) (n := 8) j3 ej3 rfl (Or.inr rfl) (by decide) rfl hj3 (by decide) ?_
      show rx_aw 241 21 [.ref 90, .int a0, .int a1, .int a2, rx_no] [.int (hi 92 j3)] (rx_hp L t hi hl v) Q
      refine rx_aw_s 1 (pc := 21) rfl ?_
      refine rx_w_if (c := (hi 92 j3) = 0) ⟨fun c4 => ?_, fun c4 => ?_⟩
      · have k := k.1 c4
        show rx_aw 241 27 [.ref 90, .int a0, .int a1, .int a2, rx_no] [] (rx_hp L t hi hl v) Q
        refine rx_aw_s 2 (pc := 27) rfl ?_
        refine rx_w_if (c := a0 < 0) ⟨fun c5 => ?_, fun c5 => ?_⟩
        · have k := k.1 c5
          show rx_aw 241 39 [.ref 90, .int a0, .int a1, .int a2, rx_no] [] (rx_hp L t hi hl v) Q
          refine rx_aw_s 1 (pc := 39) rfl ?_
          show rx_aw 241 41 [.ref 90, .int a0, .int a1, .int a2, rx_no] [.int (-11 : Int32)] (rx_hp L t hi hl v) Q
          exact rx_aw_ret (pc := 41) rfl k
        · have k := k.2 c5
          show rx_aw 241 31 [.ref 90, .int a0, .int a1, .int a2, rx_no] [] (rx_hp L t hi hl v) Q
          refine rx_aw_s 4 (pc := 31) rfl ?_
          refine rx_w_if (c := a0 < (hi 90 0)) ⟨fun c6 => ?_, fun c6 => ?_⟩
          · have k := k.1 c6
            show rx_aw 241 42 [.ref 90, .int a0, .int a1, .int a2, rx_no] [] (rx_hp L t hi hl v) Q
            refine rx_aw_s 7 (pc := 42) rfl ?_
            show rx_aw 241 52 [.ref 90, .int a0, .int a1, .int a2, rx_no] [.int (((8 : Int32) * a1) + a0), .ref 112] (rx_hp L t hi hl v) Q
            obtain ⟨j7, ej7, hj7, k⟩ := k
            refine rx_aw_iald (pc := 52) (n := 64) j7 ej7 rfl rfl rfl hj7 (by decide) ?_
            show rx_aw 241 53 [.ref 90, .int a0, .int a1, .int a2, rx_no] [.int (hi 112 j7)] (rx_hp L t hi hl v) Q
            refine rx_aw_s 10 (pc := 53) rfl ?_
            show rx_aw 241 67 [.ref 90, .int a0, .int a1, .int a2, .int (hi 112 j7)] [.int ((Int32.toInt8 a2).toInt32), .int (((8 : Int32) * a1) + a0), .ref 112] (rx_hp L t hi hl v) Q
            obtain ⟨j8, ej8, hj8, k⟩ := k
            refine rx_aw_iast (pc := 67) (n := 64) j8 ej8 rfl rfl (by decide) rfl hj8 (by decide) ?_
            show rx_aw 241 68 [.ref 90, .int a0, .int a1, .int a2, .int (hi 112 j7)] [] (rx_hp L t (rx_u hi 112 j8 ((Int32.toInt8 a2).toInt32)) hl v) Q
            refine rx_aw_s 3 (pc := 68) rfl ?_
            show rx_aw 241 74 [.ref 90, .int a0, .int a1, .int a2, .int (hi 112 j7)] [.int ((1000 : Int32) + (hi 112 j7))] (rx_hp L t (rx_u hi 112 j8 ((Int32.toInt8 a2).toInt32)) hl v) Q
            exact rx_aw_ret (pc := 74) rfl k
          · have k := k.2 c6
            show rx_aw 241 39 [.ref 90, .int a0, .int a1, .int a2, rx_no] [] (rx_hp L t hi hl v) Q
            refine rx_aw_s 1 (pc := 39) rfl ?_
            show rx_aw 241 41 [.ref 90, .int a0, .int a1, .int a2, rx_no] [.int (-11 : Int32)] (rx_hp L t hi hl v) Q
            exact rx_aw_ret (pc := 41) rfl k
      · have k := k.2 c4
        show rx_aw 241 24 [.ref 90, .int a0, .int a1, .int a2, rx_no] [] (rx_hp L t hi hl v) Q
        refine rx_aw_s 1 (pc := 24) rfl ?_
        show rx_aw 241 26 [.ref 90, .int a0, .int a1, .int a2, rx_no] [.int (-10 : Int32)] (rx_hp L t hi hl v) Q
        exact rx_aw_ret (pc := 26) rfl k
    · have k := k.2 c2
      show rx_aw 241 12 [.ref 90, .int a0, .int a1, .int a2, rx_no] [] (rx_hp L t hi hl v) Q
      refine rx_aw_s 1 (pc := 12) rfl ?_
      show rx_aw 241 14 [.ref 90, .int a0, .int a1, .int a2, rx_no] [.int (-11 : Int32)] (rx_hp L t hi hl v) Q
      exact rx_aw_ret (pc := 14) rfl k
set_option maxRecDepth 100000 in
/-- CartFloorModel.copy(IIIII)I -/
theorem w242_copy_r {L : Nat} {t : List (Nat × Nat)} {hi : Nat → Nat → Int32} {hl : Nat → Nat → Int64} {v : Nat → Nat → Option Nat} {Q : Option Value → rx_H → Prop} {a0 : Int32} {a1 : Int32} {a2 : Int32} {a3 : Int32} {a4 : Int32} (k : ((a0 < 0 → Q (some (.int (-11 : Int32))) (rx_hp L t hi hl v)) ∧ (¬ (a0 < 0) → (((hi 90 1) ≤ a0 → Q (some (.int (-11 : Int32))) (rx_hp L t hi hl v)) ∧ (¬ ((hi 90 1) ≤ a0) → ((a2 < 0 → Q (some (.int (-11 : Int32))) (rx_hp L t hi hl v)) ∧ (¬ (a2 < 0) → ((a2 < (hi 90 1) → (∃ j5 : Nat, a0 = nI j5 ∧ j5 < 8 ∧ (((hi 92 j5) = 0 → (∃ j7 : Nat, a2 = nI j7 ∧ j7 < 8 ∧ (((hi 92 j7) = 0 → ((a1 < 0 → Q (some (.int (-11 : Int32))) (rx_hp L t hi hl v)) ∧ (¬ (a1 < 0) → ((a3 < 0 → Q (some (.int (-11 : Int32))) (rx_hp L t hi hl v)) ∧ (¬ (a3 < 0) → ((a4 < 0 → Q (some (.int (-11 : Int32))) (rx_hp L t hi hl v)) ∧ (¬ (a4 < 0) → (((hi 90 0) < a4 → Q (some (.int (-11 : Int32))) (rx_hp L t hi hl v)) ∧ (¬ ((hi 90 0) < a4) → ((((hi 90 0) - a4) < a1 → Q (some (.int (-11 : Int32))) (rx_hp L t hi hl v)) ∧ (¬ (((hi 90 0) - a4) < a1) → ((a3 ≤ ((hi 90 0) - a4) → rx_aw 242 100 [.ref 90, .int a0, .int a1, .int a2, .int a3, .int a4, .int (0 : Int32), rx_no] [] (rx_hp L t hi hl v) Q) ∧ (¬ (a3 ≤ ((hi 90 0) - a4)) → Q (some (.int (-11 : Int32))) (rx_hp L t hi hl v)))))))))))))) ∧ (¬ ((hi 92 j7) = 0) → Q (some (.int (-10 : Int32))) (rx_hp L t hi hl v))))) ∧ (¬ ((hi 92 j5) = 0) → Q (some (.int (-10 : Int32))) (rx_hp L t hi hl v))))) ∧ (¬ (a2 < (hi 90 1)) → Q (some (.int (-11 : Int32))) (rx_hp L t hi hl v)))))))))) : rx_me 242 [.ref 90, .int a0, .int a1, .int a2, .int a3, .int a4] (rx_hp L t hi hl v) Q := by
  show rx_aw 242 0 [.ref 90, .int a0, .int a1, .int a2, .int a3, .int a4, rx_no, rx_no] [] (rx_hp L t hi hl v) Q
  refine rx_aw_s 2 (pc := 0) rfl ?_
  refine rx_w_if (c := a0 < 0) ⟨fun c1 => ?_, fun c1 => ?_⟩
  · have k := k.1 c1
    show rx_aw 242 24 [.ref 90, .int a0, .int a1, .int a2, .int a3, .int a4, rx_no, rx_no] [] (rx_hp L t hi hl v) Q
    refine rx_aw_s 1 (pc := 24) rfl ?_
    show rx_aw 242 26 [.ref 90, .int a0, .int a1, .int a2, .int a3, .int a4, rx_no, rx_no] [.int (-11 : Int32)] (rx_hp L t hi hl v) Q
    exact rx_aw_ret (pc := 26) rfl k
  · have k := k.2 c1
    show rx_aw 242 4 [.ref 90, .int a0, .int a1, .int a2, .int a3, .int a4, rx_no, rx_no] [] (rx_hp L t hi hl v) Q
    refine rx_aw_s 4 (pc := 4) rfl ?_
    refine rx_w_if (c := (hi 90 1) ≤ a0) ⟨fun c2 => ?_, fun c2 => ?_⟩
    · have k := k.1 c2
      show rx_aw 242 24 [.ref 90, .int a0, .int a1, .int a2, .int a3, .int a4, rx_no, rx_no] [] (rx_hp L t hi hl v) Q
      refine rx_aw_s 1 (pc := 24) rfl ?_
      show rx_aw 242 26 [.ref 90, .int a0, .int a1, .int a2, .int a3, .int a4, rx_no, rx_no] [.int (-11 : Int32)] (rx_hp L t hi hl v) Q
      exact rx_aw_ret (pc := 26) rfl k
    · have k := k.2 c2
      show rx_aw 242 12 [.ref 90, .int a0, .int a1, .int a2, .int a3, .int a4, rx_no, rx_no] [] (rx_hp L t hi hl v) Q
      refine rx_aw_s 2 (pc := 12) rfl ?_
      refine rx_w_if (c := a2 < 0) ⟨fun c3 => ?_, fun c3 => ?_⟩
      · have k := k.1 c3
        show rx_aw 242 24 [.ref 90, .int a0, .int a1, .int a2, .int a3, .int a4, rx_no, rx_no] [] (rx_hp L t hi hl v) Q
        refine rx_aw_s 1 (pc := 24) rfl ?_
        show rx_aw 242 26 [.ref 90, .int a0, .int a1, .int a2, .int a3, .int a4, rx_no, rx_no] [.int (-11 : Int32)] (rx_hp L t hi hl v) Q
        exact rx_aw_ret (pc := 26) rfl k
      · have k := k.2 c3
        show rx_aw 242 16 [.ref 90, .int a0, .int a1, .int a2, .int a3, .int a4, rx_no, rx_no] [] (rx_hp L t hi hl v) Q
        refine rx_aw_s 4 (pc := 16) rfl ?_
        refine rx_w_if (c := a2 < (hi 90 1)) ⟨fun c4 => ?_, fun c4 => ?_⟩
        · have k := k.1 c4
          show rx_aw 242 27 [.ref 90, .int a0, .int a1, .int a2, .int a3, .int a4, rx_no, rx_no] [] (rx_hp L t hi hl v) Q
          refine rx_aw_s 3 (pc := 27) rfl ?_
          show rx_aw 242 32 [.ref 90, .int a0, .int a1, .int a2, .int a3, .int a4, rx_no, rx_no] [.int a0, .ref 92] (rx_hp L t hi hl v) Q
          obtain ⟨j5, ej5, hj5, k⟩ := k
          refine rx_aw_bald (pc := 32) (n := 8) j5 ej5 rfl (Or.inr rfl) (by decide) rfl hj5 (by decide) ?_
          show rx_aw 242 33 [.ref 90, .int a0, .int a1, .int a2, .int a3, .int a4, rx_no, rx_no] [.int (hi 92 j5)] (rx_hp L t hi hl v) Q
          refine rx_aw_s 1 (pc := 33) rfl ?_
          refine rx_w_ifn (c := (hi 92 j5) = 0) ⟨fun c6 => ?_, fun c6 => ?_⟩
          · have k := k.1 c6
            show rx_aw 242 36 [.ref 90, .int a0, .int a1, .int a2, .int a3, .int a4, rx_no, rx_no] [] (rx_hp L t hi hl v) Q
            refine rx_aw_s 3 (pc := 36) rfl ?_
            show rx_aw 242 41 [.ref 90, .int a0, .int a1, .int a2, .int a3, .int a4, rx_no, rx_no] [.int a2, .ref 92] (rx_hp L t hi hl v) Q
            obtain ⟨j7, ej7, hj7, k⟩ := k
            refine rx_aw_bald (pc := 41) (n := 8) j7 ej7 rfl (Or.inr rfl) (by decide) rfl hj7 (by decide) ?_
            show rx_aw 242 42 [.ref 90, .int a0, .int a1, .int a2, .int a3, .int a4, rx_no, rx_no] [.int (hi 92 j7)] (rx_hp L t hi hl v) Q
            refine rx_aw_s 1 (pc := 42) rfl ?_
            refine rx_w_if (c := (hi 92 j7) = 0) ⟨fun c8 => ?_, fun c8 => ?_⟩
            · have k := k.1 c8
              show rx_aw 242 48 [.ref 90, .int a0, .int a1, .int a2, .int a3, .int a4, rx_no, rx_no] [] (rx_hp L t hi hl v) Q
              refine rx_aw_s 2 (pc := 48) rfl ?_
              refine rx_w_if (c := a1 < 0) ⟨fun c9 => ?_, fun c9 => ?_⟩
              · have k := k.1 c9
                show rx_aw 242 94 [.ref 90, .int a0, .int a1, .int a2, .int a3, .int a4, rx_no, rx_no] [] (rx_hp L t hi hl v) Q
                refine rx_aw_s 1 (pc := 94) rfl ?_
                show rx_aw 242 96 [.ref 90, .int a0, .int a1, .int a2, .int a3, .int a4, rx_no, rx_no] [.int (-11 : Int32)] (rx_hp L t hi hl v) Q
                exact rx_aw_ret (pc := 96) rfl k
              · have k := k.2 c9
                show rx_aw 242 52 [.ref 90, .int a0, .int a1, .int a2, .int a3, .int a4, rx_no, rx_no] [] (rx_hp L t hi hl v) Q
                refine rx_aw_s 2 (pc := 52) rfl ?_
                refine rx_w_if (c := a3 < 0) ⟨fun c10 => ?_, fun c10 => ?_⟩
                · have k := k.1 c10
                  show rx_aw 242 94 [.ref 90, .int a0, .int a1, .int a2, .int a3, .int a4, rx_no, rx_no] [] (rx_hp L t hi hl v) Q
                  refine rx_aw_s 1 (pc := 94) rfl ?_
                  show rx_aw 242 96 [.ref 90, .int a0, .int a1, .int a2, .int a3, .int a4, rx_no, rx_no] [.int (-11 : Int32)] (rx_hp L t hi hl v) Q
                  exact rx_aw_ret (pc := 96) rfl k
                · have k := k.2 c10
                  show rx_aw 242 57 [.ref 90, .int a0, .int a1, .int a2, .int a3, .int a4, rx_no, rx_no] [] (rx_hp L t hi hl v) Q
                  refine rx_aw_s 2 (pc := 57) rfl ?_
                  refine rx_w_if (c := a4 < 0) ⟨fun c11 => ?_, fun c11 => ?_⟩
                  · have k := k.1 c11
                    show rx_aw 242 94 [.ref 90, .int a0, .int a1, .int a2, .int a3, .int a4, rx_no, rx_no] [] (rx_hp L t hi hl v) Q
                    refine rx_aw_s 1 (pc := 94) rfl ?_
                    show rx_aw 242 96 [.ref 90, .int a0, .int a1, .int a2, .int a3, .int a4, rx_no, rx_no] [.int (-11 : Int32)] (rx_hp L t hi hl v) Q
                    exact rx_aw_ret (pc := 96) rfl k
                  · have k := k.2 c11
                    show rx_aw 242 62 [.ref 90, .int a0, .int a1, .int a2, .int a3, .int a4, rx_no, rx_no] [] (rx_hp L t hi hl v) Q
                    refine rx_aw_s 4 (pc := 62) rfl ?_
                    refine rx_w_if (c := (hi 90 0) < a4) ⟨fun c12 => ?_, fun c12 => ?_⟩
                    · have k := k.1 c12
                      show rx_aw 242 94 [.ref 90, .int a0, .int a1, .int a2, .int a3, .int a4, rx_no, rx_no] [] (rx_hp L t hi hl v) Q
                      refine rx_aw_s 1 (pc := 94) rfl ?_
                      show rx_aw 242 96 [.ref 90, .int a0, .int a1, .int a2, .int a3, .int a4, rx_no, rx_no] [.int (-11 : Int32)] (rx_hp L t hi hl v) Q
                      exact rx_aw_ret (pc := 96) rfl k
                    · have k := k.2 c12
                      show rx_aw 242 71 [.ref 90, .int a0, .int a1, .int a2, .int a3, .int a4, rx_no, rx_no] [] (rx_hp L t hi hl v) Q
                      refine rx_aw_s 6 (pc := 71) rfl ?_
                      refine rx_w_if (c := ((hi 90 0) - a4) < a1) ⟨fun c13 => ?_, fun c13 => ?_⟩
                      · have k := k.1 c13
                        show rx_aw 242 94 [.ref 90, .int a0, .int a1, .int a2, .int a3, .int a4, rx_no, rx_no] [] (rx_hp L t hi hl v) Q
                        refine rx_aw_s 1 (pc := 94) rfl ?_
                        show rx_aw 242 96 [.ref 90, .int a0, .int a1, .int a2, .int a3, .int a4, rx_no, rx_no] [.int (-11 : Int32)] (rx_hp L t hi hl v) Q
                        exact rx_aw_ret (pc := 96) rfl k
                      · have k := k.2 c13
                        show rx_aw 242 82 [.ref 90, .int a0, .int a1, .int a2, .int a3, .int a4, rx_no, rx_no] [] (rx_hp L t hi hl v) Q
                        refine rx_aw_s 6 (pc := 82) rfl ?_
                        refine rx_w_if (c := a3 ≤ ((hi 90 0) - a4)) ⟨fun c14 => ?_, fun c14 => ?_⟩
                        · have k := k.1 c14
                          show rx_aw 242 97 [.ref 90, .int a0, .int a1, .int a2, .int a3, .int a4, rx_no, rx_no] [] (rx_hp L t hi hl v) Q
                          refine rx_aw_s 2 (pc := 97) rfl ?_
                          show rx_aw 242 100 [.ref 90, .int a0, .int a1, .int a2, .int a3, .int a4, .int (0 : Int32), rx_no] [] (rx_hp L t hi hl v) Q
                          exact k
                        · have k := k.2 c14
                          show rx_aw 242 94 [.ref 90, .int a0, .int a1, .int a2, .int a3, .int a4, rx_no, rx_no] [] (rx_hp L t hi hl v) Q
                          refine rx_aw_s 1 (pc := 94) rfl ?_
                          show rx_aw 242 96 [.ref 90, .int a0, .int a1, .int a2, .int a3, .int a4, rx_no, rx_no] [.int (-11 : Int32)] (rx_hp L t hi hl v) Q
                          exact rx_aw_ret (pc := 96) rfl k
            · have k := k.2 c8
              show rx_aw 242 45 [.ref 90, .int a0, .int a1, .int a2, .int a3, .int a4, rx_no, rx_no] [] (rx_hp L t hi hl v) Q
              refine rx_aw_s 1 (pc := 45) rfl ?_
              show rx_aw 242 47 [.ref 90, .int a0, .int a1, .int a2, .int a3, .int a4, rx_no, rx_no] [.int (-10 : Int32)] (rx_hp L t hi hl v) Q
              exact rx_aw_ret (pc := 47) rfl k
          · have k := k.2 c6
            show rx_aw 242 45 [.ref 90, .int a0, .int a1, .int a2, .int a3, .int a4, rx_no, rx_no] [] (rx_hp L t hi hl v) Q
            refine rx_aw_s 1 (pc := 45) rfl ?_
            show rx_aw 242 47 [.ref 90, .int a0, .int a1, .int a2, .int a3, .int a4, rx_no, rx_no] [.int (-10 : Int32)] (rx_hp L t hi hl v) Q
            exact rx_aw_ret (pc := 47) rfl k
        · have k := k.2 c4
          show rx_aw 242 24 [.ref 90, .int a0, .int a1, .int a2, .int a3, .int a4, rx_no, rx_no] [] (rx_hp L t hi hl v) Q
          refine rx_aw_s 1 (pc := 24) rfl ?_
          show rx_aw 242 26 [.ref 90, .int a0, .int a1, .int a2, .int a3, .int a4, rx_no, rx_no] [.int (-11 : Int32)] (rx_hp L t hi hl v) Q
          exact rx_aw_ret (pc := 26) rfl k
set_option maxRecDepth 100000 in
theorem w242_copy_r_100 {L : Nat} {t : List (Nat × Nat)} {hi : Nat → Nat → Int32} {hl : Nat → Nat → Int64} {v : Nat → Nat → Option Nat} {Q : Option Value → rx_H → Prop} {x1 : Int32} {x2 : Int32} {x3 : Int32} {x4 : Int32} {x5 : Int32} {x6 : Int32} (k : (((hi 90 0) ≤ x6 → rx_aw 242 137 [.ref 90, .int x1, .int x2, .int x3, .int x4, .int x5, .int (0 : Int32), rx_no] [] (rx_hp L t hi hl v) Q) ∧ (¬ ((hi 90 0) ≤ x6) → (∃ j16 : Nat, (((8 : Int32) * x1) + x6) = nI j16 ∧ j16 < 64 ∧ (∃ j17 : Nat, x6 = nI j17 ∧ j17 < 8 ∧ rx_aw 242 100 [.ref 90, .int x1, .int x2, .int x3, .int x4, .int x5, .int (x6 + (1 : Int32)), rx_no] [] (rx_hp L t (rx_u hi 113 j17 (hi 112 j16)) hl v) Q))))) : rx_aw 242 100 [.ref 90, .int x1, .int x2, .int x3, .int x4, .int x5, .int x6, rx_no] [] (rx_hp L t hi hl v) Q := by
  refine rx_aw_s 4 (pc := 100) rfl ?_
  refine rx_w_if (c := (hi 90 0) ≤ x6) ⟨fun c15 => ?_, fun c15 => ?_⟩
  · have k := k.1 c15
    show rx_aw 242 134 [.ref 90, .int x1, .int x2, .int x3, .int x4, .int x5, .int x6, rx_no] [] (rx_hp L t hi hl v) Q
    refine rx_aw_s 2 (pc := 134) rfl ?_
    show rx_aw 242 137 [.ref 90, .int x1, .int x2, .int x3, .int x4, .int x5, .int (0 : Int32), rx_no] [] (rx_hp L t hi hl v) Q
    exact k
  · have k := k.2 c15
    show rx_aw 242 109 [.ref 90, .int x1, .int x2, .int x3, .int x4, .int x5, .int x6, rx_no] [] (rx_hp L t hi hl v) Q
    refine rx_aw_s 10 (pc := 109) rfl ?_
    show rx_aw 242 126 [.ref 90, .int x1, .int x2, .int x3, .int x4, .int x5, .int x6, rx_no] [.int (((8 : Int32) * x1) + x6), .ref 112, .int x6, .ref 113] (rx_hp L t hi hl v) Q
    obtain ⟨j16, ej16, hj16, k⟩ := k
    refine rx_aw_iald (pc := 126) (n := 64) j16 ej16 rfl rfl rfl hj16 (by decide) ?_
    show rx_aw 242 127 [.ref 90, .int x1, .int x2, .int x3, .int x4, .int x5, .int x6, rx_no] [.int (hi 112 j16), .int x6, .ref 113] (rx_hp L t hi hl v) Q
    obtain ⟨j17, ej17, hj17, k⟩ := k
    refine rx_aw_iast (pc := 127) (n := 8) j17 ej17 rfl rfl (by decide) rfl hj17 (by decide) ?_
    show rx_aw 242 128 [.ref 90, .int x1, .int x2, .int x3, .int x4, .int x5, .int x6, rx_no] [] (rx_hp L t (rx_u hi 113 j17 (hi 112 j16)) hl v) Q
    refine rx_aw_s 2 (pc := 128) rfl ?_
    show rx_aw 242 100 [.ref 90, .int x1, .int x2, .int x3, .int x4, .int x5, .int (x6 + (1 : Int32)), rx_no] [] (rx_hp L t (rx_u hi 113 j17 (hi 112 j16)) hl v) Q
    exact k
set_option maxRecDepth 100000 in
theorem w242_copy_r_137 {L : Nat} {t : List (Nat × Nat)} {hi : Nat → Nat → Int32} {hl : Nat → Nat → Int64} {v : Nat → Nat → Option Nat} {Q : Option Value → rx_H → Prop} {x1 : Int32} {x2 : Int32} {x3 : Int32} {x4 : Int32} {x5 : Int32} {x6 : Int32} (k : ((x5 ≤ x6 → rx_aw 242 182 [.ref 90, .int x1, .int x2, .int x3, .int x4, .int x5, .int (10000 : Int32), .int (0 : Int32)] [] (rx_hp L t hi hl v) Q) ∧ (¬ (x5 ≤ x6) → (∃ j19 : Nat, (x2 + x6) = nI j19 ∧ j19 < 8 ∧ (∃ j20 : Nat, ((((8 : Int32) * x3) + x4) + x6) = nI j20 ∧ j20 < 64 ∧ rx_aw 242 137 [.ref 90, .int x1, .int x2, .int x3, .int x4, .int x5, .int (x6 + (1 : Int32)), rx_no] [] (rx_hp L t (rx_u hi 112 j20 (hi 113 j19)) hl v) Q))))) : rx_aw 242 137 [.ref 90, .int x1, .int x2, .int x3, .int x4, .int x5, .int x6, rx_no] [] (rx_hp L t hi hl v) Q := by
  refine rx_aw_s 3 (pc := 137) rfl ?_
  refine rx_w_if (c := x5 ≤ x6) ⟨fun c18 => ?_, fun c18 => ?_⟩
  · have k := k.1 c18
    show rx_aw 242 174 [.ref 90, .int x1, .int x2, .int x3, .int x4, .int x5, .int x6, rx_no] [] (rx_hp L t hi hl v) Q
    refine rx_aw_s 4 (pc := 174) rfl ?_
    show rx_aw 242 182 [.ref 90, .int x1, .int x2, .int x3, .int x4, .int x5, .int (10000 : Int32), .int (0 : Int32)] [] (rx_hp L t hi hl v) Q
    exact k
  · have k := k.2 c18
    show rx_aw 242 144 [.ref 90, .int x1, .int x2, .int x3, .int x4, .int x5, .int x6, rx_no] [] (rx_hp L t hi hl v) Q
    refine rx_aw_s 14 (pc := 144) rfl ?_
    show rx_aw 242 166 [.ref 90, .int x1, .int x2, .int x3, .int x4, .int x5, .int x6, rx_no] [.int (x2 + x6), .ref 113, .int ((((8 : Int32) * x3) + x4) + x6), .ref 112] (rx_hp L t hi hl v) Q
    obtain ⟨j19, ej19, hj19, k⟩ := k
    refine rx_aw_iald (pc := 166) (n := 8) j19 ej19 rfl rfl rfl hj19 (by decide) ?_
    show rx_aw 242 167 [.ref 90, .int x1, .int x2, .int x3, .int x4, .int x5, .int x6, rx_no] [.int (hi 113 j19), .int ((((8 : Int32) * x3) + x4) + x6), .ref 112] (rx_hp L t hi hl v) Q
    obtain ⟨j20, ej20, hj20, k⟩ := k
    refine rx_aw_iast (pc := 167) (n := 64) j20 ej20 rfl rfl (by decide) rfl hj20 (by decide) ?_
    show rx_aw 242 168 [.ref 90, .int x1, .int x2, .int x3, .int x4, .int x5, .int x6, rx_no] [] (rx_hp L t (rx_u hi 112 j20 (hi 113 j19)) hl v) Q
    refine rx_aw_s 2 (pc := 168) rfl ?_
    show rx_aw 242 137 [.ref 90, .int x1, .int x2, .int x3, .int x4, .int x5, .int (x6 + (1 : Int32)), rx_no] [] (rx_hp L t (rx_u hi 112 j20 (hi 113 j19)) hl v) Q
    exact k
set_option maxRecDepth 100000 in
theorem w242_copy_r_182 {L : Nat} {t : List (Nat × Nat)} {hi : Nat → Nat → Int32} {hl : Nat → Nat → Int64} {v : Nat → Nat → Option Nat} {Q : Option Value → rx_H → Prop} {x1 : Int32} {x2 : Int32} {x3 : Int32} {x4 : Int32} {x5 : Int32} {x6 : Int32} {x7 : Int32} (k : (((hi 90 0) ≤ x7 → Q (some (.int x6)) (rx_hp L t hi hl v)) ∧ (¬ ((hi 90 0) ≤ x7) → (∃ j22 : Nat, (((8 : Int32) * x3) + x7) = nI j22 ∧ j22 < 64 ∧ rx_aw 242 182 [.ref 90, .int x1, .int x2, .int x3, .int x4, .int x5, .int (x6 + (hi 112 j22)), .int (x7 + (1 : Int32))] [] (rx_hp L t hi hl v) Q)))) : rx_aw 242 182 [.ref 90, .int x1, .int x2, .int x3, .int x4, .int x5, .int x6, .int x7] [] (rx_hp L t hi hl v) Q := by
  refine rx_aw_s 4 (pc := 182) rfl ?_
  refine rx_w_if (c := (hi 90 0) ≤ x7) ⟨fun c21 => ?_, fun c21 => ?_⟩
  · have k := k.1 c21
    show rx_aw 242 214 [.ref 90, .int x1, .int x2, .int x3, .int x4, .int x5, .int x6, .int x7] [] (rx_hp L t hi hl v) Q
    refine rx_aw_s 1 (pc := 214) rfl ?_
    show rx_aw 242 216 [.ref 90, .int x1, .int x2, .int x3, .int x4, .int x5, .int x6, .int x7] [.int x6] (rx_hp L t hi hl v) Q
    exact rx_aw_ret (pc := 216) rfl k
  · have k := k.2 c21
    show rx_aw 242 191 [.ref 90, .int x1, .int x2, .int x3, .int x4, .int x5, .int x6, .int x7] [] (rx_hp L t hi hl v) Q
    refine rx_aw_s 8 (pc := 191) rfl ?_
    show rx_aw 242 204 [.ref 90, .int x1, .int x2, .int x3, .int x4, .int x5, .int x6, .int x7] [.int (((8 : Int32) * x3) + x7), .ref 112, .int x6] (rx_hp L t hi hl v) Q
    obtain ⟨j22, ej22, hj22, k⟩ := k
    refine rx_aw_iald (pc := 204) (n := 64) j22 ej22 rfl rfl rfl hj22 (by decide) ?_
    show rx_aw 242 205 [.ref 90, .int x1, .int x2, .int x3, .int x4, .int x5, .int x6, .int x7] [.int (hi 112 j22), .int x6] (rx_hp L t hi hl v) Q
    refine rx_aw_s 4 (pc := 205) rfl ?_
    show rx_aw 242 182 [.ref 90, .int x1, .int x2, .int x3, .int x4, .int x5, .int (x6 + (hi 112 j22)), .int (x7 + (1 : Int32))] [] (rx_hp L t hi hl v) Q
    exact k
set_option maxRecDepth 100000 in
/-- CartFloorModel.line(II)I -/
theorem w243_line_r {L : Nat} {t : List (Nat × Nat)} {hi : Nat → Nat → Int32} {hl : Nat → Nat → Int64} {v : Nat → Nat → Option Nat} {Q : Option Value → rx_H → Prop} {a0 : Int32} {a1 : Int32} (k : ((a0 < 0 → Q (some (.int (-2 : Int32))) (rx_hp L t hi hl v)) ∧ (¬ (a0 < 0) → (((3 : Int32) < a0 → Q (some (.int (-2 : Int32))) (rx_hp L t hi hl v)) ∧ (¬ ((3 : Int32) < a0) → ((a1 ≤ (40 : Int32) → ((0 ≤ a1 → rx_aw 243 37 [.ref 90, .int a0, .int a1, .int (0 : Int32)] [] (rx_hp L t (rx_u (rx_u hi 90 30 a1) 90 31 a0) hl v) Q) ∧ (¬ (0 ≤ a1) → Q (some (.int (-13 : Int32))) (rx_hp L t hi hl v)))) ∧ (¬ (a1 ≤ (40 : Int32)) → Q (some (.int (-2 : Int32))) (rx_hp L t hi hl v)))))))) : rx_me 243 [.ref 90, .int a0, .int a1] (rx_hp L t hi hl v) Q := by
  show rx_aw 243 0 [.ref 90, .int a0, .int a1, rx_no] [] (rx_hp L t hi hl v) Q
  refine rx_aw_s 2 (pc := 0) rfl ?_
  refine rx_w_if (c := a0 < 0) ⟨fun c1 => ?_, fun c1 => ?_⟩
  · have k := k.1 c1
    show rx_aw 243 15 [.ref 90, .int a0, .int a1, rx_no] [] (rx_hp L t hi hl v) Q
    refine rx_aw_s 1 (pc := 15) rfl ?_
    show rx_aw 243 17 [.ref 90, .int a0, .int a1, rx_no] [.int (-2 : Int32)] (rx_hp L t hi hl v) Q
    exact rx_aw_ret (pc := 17) rfl k
  · have k := k.2 c1
    show rx_aw 243 4 [.ref 90, .int a0, .int a1, rx_no] [] (rx_hp L t hi hl v) Q
    refine rx_aw_s 3 (pc := 4) rfl ?_
    refine rx_w_if (c := (3 : Int32) < a0) ⟨fun c2 => ?_, fun c2 => ?_⟩
    · have k := k.1 c2
      show rx_aw 243 15 [.ref 90, .int a0, .int a1, rx_no] [] (rx_hp L t hi hl v) Q
      refine rx_aw_s 1 (pc := 15) rfl ?_
      show rx_aw 243 17 [.ref 90, .int a0, .int a1, rx_no] [.int (-2 : Int32)] (rx_hp L t hi hl v) Q
      exact rx_aw_ret (pc := 17) rfl k
    · have k := k.2 c2
      show rx_aw 243 9 [.ref 90, .int a0, .int a1, rx_no] [] (rx_hp L t hi hl v) Q
      refine rx_aw_s 3 (pc := 9) rfl ?_
      refine rx_w_if (c := a1 ≤ (40 : Int32)) ⟨fun c3 => ?_, fun c3 => ?_⟩
      · have k := k.1 c3
        show rx_aw 243 18 [.ref 90, .int a0, .int a1, rx_no] [] (rx_hp L t hi hl v) Q
        refine rx_aw_s 2 (pc := 18) rfl ?_
        refine rx_w_if (c := 0 ≤ a1) ⟨fun c4 => ?_, fun c4 => ?_⟩
        · have k := k.1 c4
          show rx_aw 243 25 [.ref 90, .int a0, .int a1, rx_no] [] (rx_hp L t hi hl v) Q
          refine rx_aw_s 8 (pc := 25) rfl ?_
          show rx_aw 243 37 [.ref 90, .int a0, .int a1, .int (0 : Int32)] [] (rx_hp L t (rx_u (rx_u hi 90 30 a1) 90 31 a0) hl v) Q
          exact k
        · have k := k.2 c4
          show rx_aw 243 22 [.ref 90, .int a0, .int a1, rx_no] [] (rx_hp L t hi hl v) Q
          refine rx_aw_s 1 (pc := 22) rfl ?_
          show rx_aw 243 24 [.ref 90, .int a0, .int a1, rx_no] [.int (-13 : Int32)] (rx_hp L t hi hl v) Q
          exact rx_aw_ret (pc := 24) rfl k
      · have k := k.2 c3
        show rx_aw 243 15 [.ref 90, .int a0, .int a1, rx_no] [] (rx_hp L t hi hl v) Q
        refine rx_aw_s 1 (pc := 15) rfl ?_
        show rx_aw 243 17 [.ref 90, .int a0, .int a1, rx_no] [.int (-2 : Int32)] (rx_hp L t hi hl v) Q
        exact rx_aw_ret (pc := 17) rfl k
set_option maxRecDepth 100000 in
theorem w243_line_r_37 {L : Nat} {t : List (Nat × Nat)} {hi : Nat → Nat → Int32} {hl : Nat → Nat → Int64} {v : Nat → Nat → Option Nat} {Q : Option Value → rx_H → Prop} {x1 : Int32} {x2 : Int32} {x3 : Int32} (k : (((40 : Int32) ≤ x3 → Q (some (.int x2)) (rx_hp L t hi hl v)) ∧ (¬ ((40 : Int32) ≤ x3) → (∃ j6 : Nat, x3 = nI j6 ∧ j6 < 40 ∧ rx_aw 243 37 [.ref 90, .int x1, .int x2, .int (x3 + (1 : Int32))] [] (rx_hp L t (rx_u hi 114 j6 (-1 : Int32)) hl v) Q)))) : rx_aw 243 37 [.ref 90, .int x1, .int x2, .int x3] [] (rx_hp L t hi hl v) Q := by
  refine rx_aw_s 3 (pc := 37) rfl ?_
  refine rx_w_if (c := (40 : Int32) ≤ x3) ⟨fun c5 => ?_, fun c5 => ?_⟩
  · have k := k.1 c5
    show rx_aw 243 56 [.ref 90, .int x1, .int x2, .int x3] [] (rx_hp L t hi hl v) Q
    refine rx_aw_s 1 (pc := 56) rfl ?_
    show rx_aw 243 57 [.ref 90, .int x1, .int x2, .int x3] [.int x2] (rx_hp L t hi hl v) Q
    exact rx_aw_ret (pc := 57) rfl k
  · have k := k.2 c5
    show rx_aw 243 43 [.ref 90, .int x1, .int x2, .int x3] [] (rx_hp L t hi hl v) Q
    refine rx_aw_s 4 (pc := 43) rfl ?_
    show rx_aw 243 49 [.ref 90, .int x1, .int x2, .int x3] [.int (-1 : Int32), .int x3, .ref 114] (rx_hp L t hi hl v) Q
    obtain ⟨j6, ej6, hj6, k⟩ := k
    refine rx_aw_iast (pc := 49) (n := 40) j6 ej6 rfl rfl (by decide) rfl hj6 (by decide) ?_
    show rx_aw 243 50 [.ref 90, .int x1, .int x2, .int x3] [] (rx_hp L t (rx_u hi 114 j6 (-1 : Int32)) hl v) Q
    refine rx_aw_s 2 (pc := 50) rfl ?_
    show rx_aw 243 37 [.ref 90, .int x1, .int x2, .int (x3 + (1 : Int32))] [] (rx_hp L t (rx_u hi 114 j6 (-1 : Int32)) hl v) Q
    exact k
set_option maxRecDepth 100000 in
/-- CartFloorModel.slot(II)I -/
theorem w244_slot_r {L : Nat} {t : List (Nat × Nat)} {hi : Nat → Nat → Int32} {hl : Nat → Nat → Int64} {v : Nat → Nat → Option Nat} {Q : Option Value → rx_H → Prop} {a0 : Int32} {a1 : Int32} (k : rx_me 161 [.ref 90, .int a1] (rx_hp L t hi hl v) (fun r h2 => ∃ z1 : Int32, r = some (.int z1) ∧ rx_ok2 L t h2 (fun hi1 hl1 v1 => ((z1 = 0 → Q (some (.int (-2 : Int32))) (rx_hp L t hi1 hl1 v1)) ∧ (¬ (z1 = 0) → ((0 ≤ (hi1 90 30) → ((a0 < 0 → Q (some (.int (-11 : Int32))) (rx_hp L t hi1 hl1 v1)) ∧ (¬ (a0 < 0) → ((a0 < (hi1 90 30) → (∃ j6 : Nat, a1 = nI j6 ∧ j6 < 6 ∧ (((hi1 90 31) ≤ (hi1 93 j6) → (∃ j8 : Nat, a0 = nI j8 ∧ j8 < 40 ∧ rx_aw 244 64 [.ref 90, .int a0, .int a1, .int (0 : Int32), .int (0 : Int32)] [] (rx_hp L t (rx_u hi1 114 j8 a1) hl1 v1) Q)) ∧ (¬ ((hi1 90 31) ≤ (hi1 93 j6)) → Q (some (.int (-14 : Int32))) (rx_hp L t hi1 hl1 v1))))) ∧ (¬ (a0 < (hi1 90 30)) → Q (some (.int (-11 : Int32))) (rx_hp L t hi1 hl1 v1)))))) ∧ (¬ (0 ≤ (hi1 90 30)) → Q (some (.int (-10 : Int32))) (rx_hp L t hi1 hl1 v1)))))))) : rx_me 244 [.ref 90, .int a0, .int a1] (rx_hp L t hi hl v) Q := by
  show rx_aw 244 0 [.ref 90, .int a0, .int a1, rx_no, rx_no] [] (rx_hp L t hi hl v) Q
  refine rx_aw_s 2 (pc := 0) rfl ?_
  show rx_aw 244 2 [.ref 90, .int a0, .int a1, rx_no, rx_no] [.int a1, .ref 90] (rx_hp L t hi hl v) Q
  refine rx_w_callI (j := 161) (pc := 2) rfl rfl rfl rfl rfl ?_
  refine rx_aw.mono k (fun r h2 k => ?_)
  obtain ⟨z1, rfl, hi1, hl1, v1, rfl, k⟩ := k
  refine ⟨z1, rfl, ?_⟩
  show rx_aw 244 5 [.ref 90, .int a0, .int a1, rx_no, rx_no] [.int z1] (rx_hp L t hi1 hl1 v1) Q
  refine rx_aw_s 1 (pc := 5) rfl ?_
  refine rx_w_ifn (c := z1 = 0) ⟨fun c2 => ?_, fun c2 => ?_⟩
  · have k := k.1 c2
    show rx_aw 244 8 [.ref 90, .int a0, .int a1, rx_no, rx_no] [] (rx_hp L t hi1 hl1 v1) Q
    refine rx_aw_s 1 (pc := 8) rfl ?_
    show rx_aw 244 10 [.ref 90, .int a0, .int a1, rx_no, rx_no] [.int (-2 : Int32)] (rx_hp L t hi1 hl1 v1) Q
    exact rx_aw_ret (pc := 10) rfl k
  · have k := k.2 c2
    show rx_aw 244 11 [.ref 90, .int a0, .int a1, rx_no, rx_no] [] (rx_hp L t hi1 hl1 v1) Q
    refine rx_aw_s 3 (pc := 11) rfl ?_
    refine rx_w_if (c := 0 ≤ (hi1 90 30)) ⟨fun c3 => ?_, fun c3 => ?_⟩
    · have k := k.1 c3
      show rx_aw 244 21 [.ref 90, .int a0, .int a1, rx_no, rx_no] [] (rx_hp L t hi1 hl1 v1) Q
      refine rx_aw_s 2 (pc := 21) rfl ?_
      refine rx_w_if (c := a0 < 0) ⟨fun c4 => ?_, fun c4 => ?_⟩
      · have k := k.1 c4
        show rx_aw 244 33 [.ref 90, .int a0, .int a1, rx_no, rx_no] [] (rx_hp L t hi1 hl1 v1) Q
        refine rx_aw_s 1 (pc := 33) rfl ?_
        show rx_aw 244 35 [.ref 90, .int a0, .int a1, rx_no, rx_no] [.int (-11 : Int32)] (rx_hp L t hi1 hl1 v1) Q
        exact rx_aw_ret (pc := 35) rfl k
      · have k := k.2 c4
        show rx_aw 244 25 [.ref 90, .int a0, .int a1, rx_no, rx_no] [] (rx_hp L t hi1 hl1 v1) Q
        refine rx_aw_s 4 (pc := 25) rfl ?_
        refine rx_w_if (c := a0 < (hi1 90 30)) ⟨fun c5 => ?_, fun c5 => ?_⟩
        · have k := k.1 c5
          show rx_aw 244 36 [.ref 90, .int a0, .int a1, rx_no, rx_no] [] (rx_hp L t hi1 hl1 v1) Q
          refine rx_aw_s 3 (pc := 36) rfl ?_
          show rx_aw 244 41 [.ref 90, .int a0, .int a1, rx_no, rx_no] [.int a1, .ref 93] (rx_hp L t hi1 hl1 v1) Q
          obtain ⟨j6, ej6, hj6, k⟩ := k
          refine rx_aw_iald (pc := 41) (n := 6) j6 ej6 rfl rfl rfl hj6 (by decide) ?_
          show rx_aw 244 42 [.ref 90, .int a0, .int a1, rx_no, rx_no] [.int (hi1 93 j6)] (rx_hp L t hi1 hl1 v1) Q
          refine rx_aw_s 3 (pc := 42) rfl ?_
          refine rx_w_if (c := (hi1 90 31) ≤ (hi1 93 j6)) ⟨fun c7 => ?_, fun c7 => ?_⟩
          · have k := k.1 c7
            show rx_aw 244 52 [.ref 90, .int a0, .int a1, rx_no, rx_no] [] (rx_hp L t hi1 hl1 v1) Q
            refine rx_aw_s 4 (pc := 52) rfl ?_
            show rx_aw 244 58 [.ref 90, .int a0, .int a1, rx_no, rx_no] [.int a1, .int a0, .ref 114] (rx_hp L t hi1 hl1 v1) Q
            obtain ⟨j8, ej8, hj8, k⟩ := k
            refine rx_aw_iast (pc := 58) (n := 40) j8 ej8 rfl rfl (by decide) rfl hj8 (by decide) ?_
            show rx_aw 244 59 [.ref 90, .int a0, .int a1, rx_no, rx_no] [] (rx_hp L t (rx_u hi1 114 j8 a1) hl1 v1) Q
            refine rx_aw_s 4 (pc := 59) rfl ?_
            show rx_aw 244 64 [.ref 90, .int a0, .int a1, .int (0 : Int32), .int (0 : Int32)] [] (rx_hp L t (rx_u hi1 114 j8 a1) hl1 v1) Q
            exact k
          · have k := k.2 c7
            show rx_aw 244 49 [.ref 90, .int a0, .int a1, rx_no, rx_no] [] (rx_hp L t hi1 hl1 v1) Q
            refine rx_aw_s 1 (pc := 49) rfl ?_
            show rx_aw 244 51 [.ref 90, .int a0, .int a1, rx_no, rx_no] [.int (-14 : Int32)] (rx_hp L t hi1 hl1 v1) Q
            exact rx_aw_ret (pc := 51) rfl k
        · have k := k.2 c5
          show rx_aw 244 33 [.ref 90, .int a0, .int a1, rx_no, rx_no] [] (rx_hp L t hi1 hl1 v1) Q
          refine rx_aw_s 1 (pc := 33) rfl ?_
          show rx_aw 244 35 [.ref 90, .int a0, .int a1, rx_no, rx_no] [.int (-11 : Int32)] (rx_hp L t hi1 hl1 v1) Q
          exact rx_aw_ret (pc := 35) rfl k
    · have k := k.2 c3
      show rx_aw 244 18 [.ref 90, .int a0, .int a1, rx_no, rx_no] [] (rx_hp L t hi1 hl1 v1) Q
      refine rx_aw_s 1 (pc := 18) rfl ?_
      show rx_aw 244 20 [.ref 90, .int a0, .int a1, rx_no, rx_no] [.int (-10 : Int32)] (rx_hp L t hi1 hl1 v1) Q
      exact rx_aw_ret (pc := 20) rfl k
set_option maxRecDepth 100000 in
theorem w244_slot_r_64 {L : Nat} {t : List (Nat × Nat)} {hi : Nat → Nat → Int32} {hl : Nat → Nat → Int64} {v : Nat → Nat → Option Nat} {Q : Option Value → rx_H → Prop} {x1 : Int32} {x2 : Int32} {x3 : Int32} {x4 : Int32} (k : (((hi 90 30) ≤ x4 → Q (some (.int x3)) (rx_hp L t hi hl v)) ∧ (¬ ((hi 90 30) ≤ x4) → (∃ j10 : Nat, x4 = nI j10 ∧ j10 < 40 ∧ (((hi 114 j10) < 0 → rx_aw 244 64 [.ref 90, .int x1, .int x2, .int (x3 + (0 : Int32)), .int (x4 + (1 : Int32))] [] (rx_hp L t hi hl v) Q) ∧ (¬ ((hi 114 j10) < 0) → rx_aw 244 64 [.ref 90, .int x1, .int x2, .int (x3 + (1 : Int32)), .int (x4 + (1 : Int32))] [] (rx_hp L t hi hl v) Q)))))) : rx_aw 244 64 [.ref 90, .int x1, .int x2, .int x3, .int x4] [] (rx_hp L t hi hl v) Q := by
  refine rx_aw_s 4 (pc := 64) rfl ?_
  refine rx_w_if (c := (hi 90 30) ≤ x4) ⟨fun c9 => ?_, fun c9 => ?_⟩
  · have k := k.1 c9
    show rx_aw 244 97 [.ref 90, .int x1, .int x2, .int x3, .int x4] [] (rx_hp L t hi hl v) Q
    refine rx_aw_s 1 (pc := 97) rfl ?_
    show rx_aw 244 98 [.ref 90, .int x1, .int x2, .int x3, .int x4] [.int x3] (rx_hp L t hi hl v) Q
    exact rx_aw_ret (pc := 98) rfl k
  · have k := k.2 c9
    show rx_aw 244 73 [.ref 90, .int x1, .int x2, .int x3, .int x4] [] (rx_hp L t hi hl v) Q
    refine rx_aw_s 4 (pc := 73) rfl ?_
    show rx_aw 244 80 [.ref 90, .int x1, .int x2, .int x3, .int x4] [.int x4, .ref 114, .int x3] (rx_hp L t hi hl v) Q
    obtain ⟨j10, ej10, hj10, k⟩ := k
    refine rx_aw_iald (pc := 80) (n := 40) j10 ej10 rfl rfl rfl hj10 (by decide) ?_
    show rx_aw 244 81 [.ref 90, .int x1, .int x2, .int x3, .int x4] [.int (hi 114 j10), .int x3] (rx_hp L t hi hl v) Q
    refine rx_aw_s 1 (pc := 81) rfl ?_
    refine rx_w_if (c := (hi 114 j10) < 0) ⟨fun c11 => ?_, fun c11 => ?_⟩
    · have k := k.1 c11
      show rx_aw 244 88 [.ref 90, .int x1, .int x2, .int x3, .int x4] [.int x3] (rx_hp L t hi hl v) Q
      refine rx_aw_s 5 (pc := 88) rfl ?_
      show rx_aw 244 64 [.ref 90, .int x1, .int x2, .int (x3 + (0 : Int32)), .int (x4 + (1 : Int32))] [] (rx_hp L t hi hl v) Q
      exact k
    · have k := k.2 c11
      show rx_aw 244 84 [.ref 90, .int x1, .int x2, .int x3, .int x4] [.int x3] (rx_hp L t hi hl v) Q
      refine rx_aw_s 6 (pc := 84) rfl ?_
      show rx_aw 244 64 [.ref 90, .int x1, .int x2, .int (x3 + (1 : Int32)), .int (x4 + (1 : Int32))] [] (rx_hp L t hi hl v) Q
      exact k
set_option maxRecDepth 100000 in
/-- CartFloorModel.mean(I)I -/
theorem w245_mean_r {L : Nat} {t : List (Nat × Nat)} {hi : Nat → Nat → Int32} {hl : Nat → Nat → Int64} {v : Nat → Nat → Option Nat} {Q : Option Value → rx_H → Prop} {a0 : Int32} (k : ((0 ≤ (hi 90 30) → ((a0 = 0 → Q (some (.int (-15 : Int32))) (rx_hp L t hi hl v)) ∧ (¬ (a0 = 0) → rx_aw 245 21 [.ref 90, .int a0, .int (0 : Int32), .int (0 : Int32)] [] (rx_hp L t hi hl v) Q))) ∧ (¬ (0 ≤ (hi 90 30)) → Q (some (.int (-10 : Int32))) (rx_hp L t hi hl v)))) : rx_me 245 [.ref 90, .int a0] (rx_hp L t hi hl v) Q := by
  show rx_aw 245 0 [.ref 90, .int a0, rx_no, rx_no] [] (rx_hp L t hi hl v) Q
  refine rx_aw_s 3 (pc := 0) rfl ?_
  refine rx_w_if (c := 0 ≤ (hi 90 30)) ⟨fun c1 => ?_, fun c1 => ?_⟩
  · have k := k.1 c1
    show rx_aw 245 10 [.ref 90, .int a0, rx_no, rx_no] [] (rx_hp L t hi hl v) Q
    refine rx_aw_s 2 (pc := 10) rfl ?_
    refine rx_w_ifn (c := a0 = 0) ⟨fun c2 => ?_, fun c2 => ?_⟩
    · have k := k.1 c2
      show rx_aw 245 14 [.ref 90, .int a0, rx_no, rx_no] [] (rx_hp L t hi hl v) Q
      refine rx_aw_s 1 (pc := 14) rfl ?_
      show rx_aw 245 16 [.ref 90, .int a0, rx_no, rx_no] [.int (-15 : Int32)] (rx_hp L t hi hl v) Q
      exact rx_aw_ret (pc := 16) rfl k
    · have k := k.2 c2
      show rx_aw 245 17 [.ref 90, .int a0, rx_no, rx_no] [] (rx_hp L t hi hl v) Q
      refine rx_aw_s 4 (pc := 17) rfl ?_
      show rx_aw 245 21 [.ref 90, .int a0, .int (0 : Int32), .int (0 : Int32)] [] (rx_hp L t hi hl v) Q
      exact k
  · have k := k.2 c1
    show rx_aw 245 7 [.ref 90, .int a0, rx_no, rx_no] [] (rx_hp L t hi hl v) Q
    refine rx_aw_s 1 (pc := 7) rfl ?_
    show rx_aw 245 9 [.ref 90, .int a0, rx_no, rx_no] [.int (-10 : Int32)] (rx_hp L t hi hl v) Q
    exact rx_aw_ret (pc := 9) rfl k
set_option maxRecDepth 100000 in
theorem w245_mean_r_21 {L : Nat} {t : List (Nat × Nat)} {hi : Nat → Nat → Int32} {hl : Nat → Nat → Int64} {v : Nat → Nat → Option Nat} {Q : Option Value → rx_H → Prop} {x1 : Int32} {x2 : Int32} {x3 : Int32} (k : (((hi 90 30) ≤ x3 → (¬ x1 = 0 ∧ Q (some (.int (x2 / x1))) (rx_hp L t hi hl v))) ∧ (¬ ((hi 90 30) ≤ x3) → (∃ j4 : Nat, x3 = nI j4 ∧ j4 < 40 ∧ (((hi 114 j4) < 0 → rx_aw 245 21 [.ref 90, .int x1, .int (x2 + (0 : Int32)), .int (x3 + (1 : Int32))] [] (rx_hp L t hi hl v) Q) ∧ (¬ ((hi 114 j4) < 0) → (∃ j6 : Nat, x3 = nI j6 ∧ j6 < 40 ∧ (∃ j7 : Nat, (hi 114 j6) = nI j7 ∧ j7 < 6 ∧ rx_aw 245 21 [.ref 90, .int x1, .int (x2 + (hi 94 j7)), .int (x3 + (1 : Int32))] [] (rx_hp L t hi hl v) Q)))))))) : rx_aw 245 21 [.ref 90, .int x1, .int x2, .int x3] [] (rx_hp L t hi hl v) Q := by
  refine rx_aw_s 4 (pc := 21) rfl ?_
  refine rx_w_if (c := (hi 90 30) ≤ x3) ⟨fun c3 => ?_, fun c3 => ?_⟩
  · have k := k.1 c3
    show rx_aw 245 62 [.ref 90, .int x1, .int x2, .int x3] [] (rx_hp L t hi hl v) Q
    refine rx_aw_s 2 (pc := 62) rfl ?_
    show rx_aw 245 64 [.ref 90, .int x1, .int x2, .int x3] [.int x1, .int x2] (rx_hp L t hi hl v) Q
    refine rx_aw_div (pc := 64) rfl k.1 ?_
    have k := k.2
    show rx_aw 245 65 [.ref 90, .int x1, .int x2, .int x3] [.int (x2 / x1)] (rx_hp L t hi hl v) Q
    exact rx_aw_ret (pc := 65) rfl k
  · have k := k.2 c3
    show rx_aw 245 29 [.ref 90, .int x1, .int x2, .int x3] [] (rx_hp L t hi hl v) Q
    refine rx_aw_s 4 (pc := 29) rfl ?_
    show rx_aw 245 35 [.ref 90, .int x1, .int x2, .int x3] [.int x3, .ref 114, .int x2] (rx_hp L t hi hl v) Q
    obtain ⟨j4, ej4, hj4, k⟩ := k
    refine rx_aw_iald (pc := 35) (n := 40) j4 ej4 rfl rfl rfl hj4 (by decide) ?_
    show rx_aw 245 36 [.ref 90, .int x1, .int x2, .int x3] [.int (hi 114 j4), .int x2] (rx_hp L t hi hl v) Q
    refine rx_aw_s 1 (pc := 36) rfl ?_
    refine rx_w_if (c := (hi 114 j4) < 0) ⟨fun c5 => ?_, fun c5 => ?_⟩
    · have k := k.1 c5
      show rx_aw 245 53 [.ref 90, .int x1, .int x2, .int x3] [.int x2] (rx_hp L t hi hl v) Q
      refine rx_aw_s 5 (pc := 53) rfl ?_
      show rx_aw 245 21 [.ref 90, .int x1, .int (x2 + (0 : Int32)), .int (x3 + (1 : Int32))] [] (rx_hp L t hi hl v) Q
      exact k
    · have k := k.2 c5
      show rx_aw 245 39 [.ref 90, .int x1, .int x2, .int x3] [.int x2] (rx_hp L t hi hl v) Q
      refine rx_aw_s 5 (pc := 39) rfl ?_
      show rx_aw 245 48 [.ref 90, .int x1, .int x2, .int x3] [.int x3, .ref 114, .ref 94, .int x2] (rx_hp L t hi hl v) Q
      obtain ⟨j6, ej6, hj6, k⟩ := k
      refine rx_aw_iald (pc := 48) (n := 40) j6 ej6 rfl rfl rfl hj6 (by decide) ?_
      show rx_aw 245 49 [.ref 90, .int x1, .int x2, .int x3] [.int (hi 114 j6), .ref 94, .int x2] (rx_hp L t hi hl v) Q
      obtain ⟨j7, ej7, hj7, k⟩ := k
      refine rx_aw_iald (pc := 49) (n := 6) j7 ej7 rfl rfl rfl hj7 (by decide) ?_
      show rx_aw 245 50 [.ref 90, .int x1, .int x2, .int x3] [.int (hi 94 j7), .int x2] (rx_hp L t hi hl v) Q
      refine rx_aw_s 5 (pc := 50) rfl ?_
      show rx_aw 245 21 [.ref 90, .int x1, .int (x2 + (hi 94 j7)), .int (x3 + (1 : Int32))] [] (rx_hp L t hi hl v) Q
      exact k
