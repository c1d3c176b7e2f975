/-! Methods walked by program (gen/wp.py): what is left to show of each. -/
set_option maxRecDepth 100000 in
/-- CartFloor$Search.advanceLong(I)V -/
theorem w70_advanceLong {L : Nat} {t : List (Nat × Nat)} {hi : Nat → Nat → Int32} {hl : Nat → Nat → Int64} {v : Nat → Nat → Option Nat} {Q : Option Value → rx_H → Prop} {a0 : Int32} (k : rx_me 71 [.ref 77, .int (a0 + (1 : Int32))] (rx_hp L t hi hl v) (fun r h2 => ∃ z1 : Int64, r = some (.long z1) ∧ rx_ok2 L t h2 (fun hi1 hl1 v1 => rx_me 71 [.ref 77, .int a0] (rx_hp L t hi1 hl1 v1) (fun r h2 => ∃ z2 : Int64, r = some (.long z2) ∧ rx_ok2 L t h2 (fun hi2 hl2 v2 => rx_aw 70 28 [.ref 77, .int a0, .long (z1 ^^^ (-1 : Int64)), rx_no, .long ((z1 ^^^ (-1 : Int64)) &&& (z2 ^^^ (-1 : Int64))), rx_no, .int (0 : Int32), rx_no, rx_no, rx_no, rx_no, rx_no, rx_no] [] (rx_hp L t hi2 hl2 v2) Q))))) : rx_me 70 [.ref 77, .int a0] (rx_hp L t hi hl v) Q := by
  show rx_aw 70 0 [.ref 77, .int a0, rx_no, rx_no, rx_no, rx_no, rx_no, rx_no, rx_no, rx_no, rx_no, rx_no, rx_no] [] (rx_hp L t hi hl v) Q
  refine rx_aw_s 4 (pc := 0) rfl ?_
  show rx_aw 70 4 [.ref 77, .int a0, rx_no, rx_no, rx_no, rx_no, rx_no, rx_no, rx_no, rx_no, rx_no, rx_no, rx_no] [.int (a0 + (1 : Int32)), .ref 77] (rx_hp L t hi hl v) Q
  refine rx_w_callL (j := 71) (pc := 4) rfl rfl rfl rfl rfl ?_
  refine rx_aw.mono k (fun r h2 k => ?_)
  obtain ⟨z1, rfl, hi1, hl1, v1, rfl, k⟩ := k
  refine ⟨z1, rfl, ?_⟩
  show rx_aw 70 7 [.ref 77, .int a0, rx_no, rx_no, rx_no, rx_no, rx_no, rx_no, rx_no, rx_no, rx_no, rx_no, rx_no] [.long z1] (rx_hp L t hi1 hl1 v1) Q
  refine rx_aw_s 6 (pc := 7) rfl ?_
  show rx_aw 70 15 [.ref 77, .int a0, .long (z1 ^^^ (-1 : Int64)), rx_no, rx_no, rx_no, rx_no, rx_no, rx_no, rx_no, rx_no, rx_no, rx_no] [.int a0, .ref 77, .long (z1 ^^^ (-1 : Int64))] (rx_hp L t hi1 hl1 v1) Q
  refine rx_w_callL (j := 71) (pc := 15) rfl rfl rfl rfl rfl ?_
  refine rx_aw.mono k (fun r h2 k => ?_)
  obtain ⟨z2, rfl, hi2, hl2, v2, rfl, k⟩ := k
  refine ⟨z2, rfl, ?_⟩
  show rx_aw 70 18 [.ref 77, .int a0, .long (z1 ^^^ (-1 : Int64)), rx_no, rx_no, rx_no, rx_no, rx_no, rx_no, rx_no, rx_no, rx_no, rx_no] [.long z2, .long (z1 ^^^ (-1 : Int64))] (rx_hp L t hi2 hl2 v2) Q
  refine rx_aw_s 6 (pc := 18) rfl ?_
  show rx_aw 70 28 [.ref 77, .int a0, .long (z1 ^^^ (-1 : Int64)), rx_no, .long ((z1 ^^^ (-1 : Int64)) &&& (z2 ^^^ (-1 : Int64))), rx_no, .int (0 : Int32), rx_no, rx_no, rx_no, rx_no, rx_no, rx_no] [] (rx_hp L t hi2 hl2 v2) Q
  exact k
set_option maxRecDepth 100000 in
theorem w70_advanceLong_28 {L : Nat} {t : List (Nat × Nat)} {hi : Nat → Nat → Int32} {hl : Nat → Nat → Int64} {v : Nat → Nat → Option Nat} {Q : Option Value → rx_H → Prop} {x1 : Int32} {x2 : Int64} {x4 : Int64} {x6 : Int32} (k : (((4 : Int32) ≤ x6 → Q none (rx_hp L t hi hl v)) ∧ (¬ ((4 : Int32) ≤ x6) → (∃ j4 : Nat, (((4 : Int32) * x1) + x6) = nI j4 ∧ j4 < 1608 ∧ rx_me 12 [.ref 7, .long (hl 80 j4), .int x6] (rx_hp L t hi hl v) (fun r h2 => ∃ z5 : Int64, r = some (.long z5) ∧ rx_ok2 L t h2 (fun hi5 hl5 v5 => rx_me 12 [.ref 7, .long (hl 80 j4), .int (x6 ^^^ (2 : Int32))] (rx_hp L t hi5 hl5 v5) (fun r h2 => ∃ z6 : Int64, r = some (.long z6) ∧ rx_ok2 L t h2 (fun hi6 hl6 v6 => rx_me 12 [.ref 7, .long x2, .int x6] (rx_hp L t hi6 hl6 v6) (fun r h2 => ∃ z7 : Int64, r = some (.long z7) ∧ rx_ok2 L t h2 (fun hi7 hl7 v7 => (∃ j8 : Nat, (((4 : Int32) * x1) + ((x6 + (1 : Int32)) &&& (3 : Int32))) = nI j8 ∧ j8 < 1608 ∧ rx_me 72 [.ref 77, .long (hl7 80 j8), .int ((x6 + (1 : Int32)) &&& (3 : Int32)), .int x6, .long x4] (rx_hp L t hi7 hl7 v7) (fun r h2 => ∃ z9 : Int64, r = some (.long z9) ∧ rx_ok2 L t h2 (fun hi9 hl9 v9 => (∃ j10 : Nat, (((4 : Int32) * x1) + ((x6 + (3 : Int32)) &&& (3 : Int32))) = nI j10 ∧ j10 < 1608 ∧ rx_me 72 [.ref 77, .long (hl9 80 j10), .int ((x6 + (3 : Int32)) &&& (3 : Int32)), .int x6, .long x4] (rx_hp L t hi9 hl9 v9) (fun r h2 => ∃ z11 : Int64, r = some (.long z11) ∧ rx_ok2 L t h2 (fun hi11 hl11 v11 => (∃ j12 : Nat, ((((4 : Int32) * x1) + (4 : Int32)) + x6) = nI j12 ∧ j12 < 1608 ∧ rx_aw 70 28 [.ref 77, .int x1, .long x2, rx_no, .long x4, rx_no, .int (x6 + (1 : Int32)), rx_no, rx_no, rx_no, rx_no, rx_no, rx_no] [] (rx_hp L t hi11 (rx_u hl11 80 j12 (((((((hl 80 j4) ||| z5) ||| z6) &&& x2) &&& z7) ||| z9) ||| z11)) v11) Q))))))))))))))))) : rx_aw 70 28 [.ref 77, .int x1, .long x2, rx_no, .long x4, rx_no, .int x6, rx_no, rx_no, rx_no, rx_no, rx_no, rx_no] [] (rx_hp L t hi hl v) Q := by
  refine rx_aw_s 3 (pc := 28) rfl ?_
  refine rx_w_if (c := (4 : Int32) ≤ x6) ⟨fun c3 => ?_, fun c3 => ?_⟩
  · have k := k.1 c3
    show rx_aw 70 183 [.ref 77, .int x1, .long x2, rx_no, .long x4, rx_no, .int x6, rx_no, rx_no, rx_no, rx_no, rx_no, rx_no] [] (rx_hp L t hi hl v) Q
    exact rx_aw_ret (pc := 183) rfl k
  · have k := k.2 c3
    show rx_aw 70 34 [.ref 77, .int x1, .long x2, rx_no, .long x4, rx_no, .int x6, rx_no, rx_no, rx_no, rx_no, rx_no, rx_no] [] (rx_hp L t hi hl v) Q
    refine rx_aw_s 7 (pc := 34) rfl ?_
    show rx_aw 70 44 [.ref 77, .int x1, .long x2, rx_no, .long x4, rx_no, .int x6, rx_no, rx_no, rx_no, rx_no, rx_no, rx_no] [.int (((4 : Int32) * x1) + x6), .ref 80] (rx_hp L t hi hl v) Q
    obtain ⟨j4, ej4, hj4, k⟩ := k
    refine rx_aw_lald (pc := 44) (n := 1608) j4 ej4 rfl rfl (by decide) rfl hj4 (by decide) ?_
    show rx_aw 70 45 [.ref 77, .int x1, .long x2, rx_no, .long x4, rx_no, .int x6, rx_no, rx_no, rx_no, rx_no, rx_no, rx_no] [.long (hl 80 j4)] (rx_hp L t hi hl v) Q
    refine rx_aw_s 6 (pc := 45) rfl ?_
    show rx_aw 70 57 [.ref 77, .int x1, .long x2, rx_no, .long x4, rx_no, .int x6, .long (hl 80 j4), rx_no, rx_no, rx_no, rx_no, rx_no] [.int x6, .long (hl 80 j4), .ref 7, .long (hl 80 j4)] (rx_hp L t hi hl v) Q
    refine rx_w_callL (j := 12) (pc := 57) rfl rfl rfl rfl rfl ?_
    refine rx_aw.mono k (fun r h2 k => ?_)
    obtain ⟨z5, rfl, hi5, hl5, v5, rfl, k⟩ := k
    refine ⟨z5, rfl, ?_⟩
    show rx_aw 70 60 [.ref 77, .int x1, .long x2, rx_no, .long x4, rx_no, .int x6, .long (hl 80 j4), rx_no, rx_no, rx_no, rx_no, rx_no] [.long z5, .long (hl 80 j4)] (rx_hp L t hi5 hl5 v5) Q
    refine rx_aw_s 7 (pc := 60) rfl ?_
    show rx_aw 70 71 [.ref 77, .int x1, .long x2, rx_no, .long x4, rx_no, .int x6, .long (hl 80 j4), rx_no, rx_no, rx_no, rx_no, rx_no] [.int (x6 ^^^ (2 : Int32)), .long (hl 80 j4), .ref 7, .long ((hl 80 j4) ||| z5)] (rx_hp L t hi5 hl5 v5) Q
    refine rx_w_callL (j := 12) (pc := 71) rfl rfl rfl rfl rfl ?_
    refine rx_aw.mono k (fun r h2 k => ?_)
    obtain ⟨z6, rfl, hi6, hl6, v6, rfl, k⟩ := k
    refine ⟨z6, rfl, ?_⟩
    show rx_aw 70 74 [.ref 77, .int x1, .long x2, rx_no, .long x4, rx_no, .int x6, .long (hl 80 j4), rx_no, rx_no, rx_no, rx_no, rx_no] [.long z6, .long ((hl 80 j4) ||| z5)] (rx_hp L t hi6 hl6 v6) Q
    refine rx_aw_s 9 (pc := 74) rfl ?_
    show rx_aw 70 88 [.ref 77, .int x1, .long x2, rx_no, .long x4, rx_no, .int x6, .long (hl 80 j4), rx_no, .long (((hl 80 j4) ||| z5) ||| z6), rx_no, rx_no, rx_no] [.int x6, .long x2, .ref 7, .long ((((hl 80 j4) ||| z5) ||| z6) &&& x2)] (rx_hp L t hi6 hl6 v6) Q
    refine rx_w_callL (j := 12) (pc := 88) rfl rfl rfl rfl rfl ?_
    refine rx_aw.mono k (fun r h2 k => ?_)
    obtain ⟨z7, rfl, hi7, hl7, v7, rfl, k⟩ := k
    refine ⟨z7, rfl, ?_⟩
    show rx_aw 70 91 [.ref 77, .int x1, .long x2, rx_no, .long x4, rx_no, .int x6, .long (hl 80 j4), rx_no, .long (((hl 80 j4) ||| z5) ||| z6), rx_no, rx_no, rx_no] [.long z7, .long ((((hl 80 j4) ||| z5) ||| z6) &&& x2)] (rx_hp L t hi7 hl7 v7) Q
    refine rx_aw_s 15 (pc := 91) rfl ?_
    show rx_aw 70 111 [.ref 77, .int x1, .long x2, rx_no, .long x4, rx_no, .int x6, .long (hl 80 j4), rx_no, .long (((hl 80 j4) ||| z5) ||| z6), rx_no, .long (((((hl 80 j4) ||| z5) ||| z6) &&& x2) &&& z7), rx_no] [.int (((4 : Int32) * x1) + ((x6 + (1 : Int32)) &&& (3 : Int32))), .ref 80, .ref 77, .long (((((hl 80 j4) ||| z5) ||| z6) &&& x2) &&& z7)] (rx_hp L t hi7 hl7 v7) Q
    obtain ⟨j8, ej8, hj8, k⟩ := k
    refine rx_aw_lald (pc := 111) (n := 1608) j8 ej8 rfl rfl (by decide) rfl hj8 (by decide) ?_
    show rx_aw 70 112 [.ref 77, .int x1, .long x2, rx_no, .long x4, rx_no, .int x6, .long (hl 80 j4), rx_no, .long (((hl 80 j4) ||| z5) ||| z6), rx_no, .long (((((hl 80 j4) ||| z5) ||| z6) &&& x2) &&& z7), rx_no] [.long (hl7 80 j8), .ref 77, .long (((((hl 80 j4) ||| z5) ||| z6) &&& x2) &&& z7)] (rx_hp L t hi7 hl7 v7) Q
    refine rx_aw_s 7 (pc := 112) rfl ?_
    show rx_aw 70 122 [.ref 77, .int x1, .long x2, rx_no, .long x4, rx_no, .int x6, .long (hl 80 j4), rx_no, .long (((hl 80 j4) ||| z5) ||| z6), rx_no, .long (((((hl 80 j4) ||| z5) ||| z6) &&& x2) &&& z7), rx_no] [.long x4, .int x6, .int ((x6 + (1 : Int32)) &&& (3 : Int32)), .long (hl7 80 j8), .ref 77, .long (((((hl 80 j4) ||| z5) ||| z6) &&& x2) &&& z7)] (rx_hp L t hi7 hl7 v7) Q
    refine rx_w_callL (j := 72) (pc := 122) rfl rfl rfl rfl rfl ?_
    refine rx_aw.mono k (fun r h2 k => ?_)
    obtain ⟨z9, rfl, hi9, hl9, v9, rfl, k⟩ := k
    refine ⟨z9, rfl, ?_⟩
    show rx_aw 70 125 [.ref 77, .int x1, .long x2, rx_no, .long x4, rx_no, .int x6, .long (hl 80 j4), rx_no, .long (((hl 80 j4) ||| z5) ||| z6), rx_no, .long (((((hl 80 j4) ||| z5) ||| z6) &&& x2) &&& z7), rx_no] [.long z9, .long (((((hl 80 j4) ||| z5) ||| z6) &&& x2) &&& z7)] (rx_hp L t hi9 hl9 v9) Q
    refine rx_aw_s 15 (pc := 125) rfl ?_
    show rx_aw 70 145 [.ref 77, .int x1, .long x2, rx_no, .long x4, rx_no, .int x6, .long (hl 80 j4), rx_no, .long (((hl 80 j4) ||| z5) ||| z6), rx_no, .long ((((((hl 80 j4) ||| z5) ||| z6) &&& x2) &&& z7) ||| z9), rx_no] [.int (((4 : Int32) * x1) + ((x6 + (3 : Int32)) &&& (3 : Int32))), .ref 80, .ref 77, .long ((((((hl 80 j4) ||| z5) ||| z6) &&& x2) &&& z7) ||| z9)] (rx_hp L t hi9 hl9 v9) Q
    obtain ⟨j10, ej10, hj10, k⟩ := k
    refine rx_aw_lald (pc := 145) (n := 1608) j10 ej10 rfl rfl (by decide) rfl hj10 (by decide) ?_
    show rx_aw 70 146 [.ref 77, .int x1, .long x2, rx_no, .long x4, rx_no, .int x6, .long (hl 80 j4), rx_no, .long (((hl 80 j4) ||| z5) ||| z6), rx_no, .long ((((((hl 80 j4) ||| z5) ||| z6) &&& x2) &&& z7) ||| z9), rx_no] [.long (hl9 80 j10), .ref 77, .long ((((((hl 80 j4) ||| z5) ||| z6) &&& x2) &&& z7) ||| z9)] (rx_hp L t hi9 hl9 v9) Q
    refine rx_aw_s 7 (pc := 146) rfl ?_
    show rx_aw 70 156 [.ref 77, .int x1, .long x2, rx_no, .long x4, rx_no, .int x6, .long (hl 80 j4), rx_no, .long (((hl 80 j4) ||| z5) ||| z6), rx_no, .long ((((((hl 80 j4) ||| z5) ||| z6) &&& x2) &&& z7) ||| z9), rx_no] [.long x4, .int x6, .int ((x6 + (3 : Int32)) &&& (3 : Int32)), .long (hl9 80 j10), .ref 77, .long ((((((hl 80 j4) ||| z5) ||| z6) &&& x2) &&& z7) ||| z9)] (rx_hp L t hi9 hl9 v9) Q
    refine rx_w_callL (j := 72) (pc := 156) rfl rfl rfl rfl rfl ?_
    refine rx_aw.mono k (fun r h2 k => ?_)
    obtain ⟨z11, rfl, hi11, hl11, v11, rfl, k⟩ := k
    refine ⟨z11, rfl, ?_⟩
    show rx_aw 70 159 [.ref 77, .int x1, .long x2, rx_no, .long x4, rx_no, .int x6, .long (hl 80 j4), rx_no, .long (((hl 80 j4) ||| z5) ||| z6), rx_no, .long ((((((hl 80 j4) ||| z5) ||| z6) &&& x2) &&& z7) ||| z9), rx_no] [.long z11, .long ((((((hl 80 j4) ||| z5) ||| z6) &&& x2) &&& z7) ||| z9)] (rx_hp L t hi11 hl11 v11) Q
    refine rx_aw_s 12 (pc := 159) rfl ?_
    show rx_aw 70 176 [.ref 77, .int x1, .long x2, rx_no, .long x4, rx_no, .int x6, .long (hl 80 j4), rx_no, .long (((hl 80 j4) ||| z5) ||| z6), rx_no, .long (((((((hl 80 j4) ||| z5) ||| z6) &&& x2) &&& z7) ||| z9) ||| z11), rx_no] [.long (((((((hl 80 j4) ||| z5) ||| z6) &&& x2) &&& z7) ||| z9) ||| z11), .int ((((4 : Int32) * x1) + (4 : Int32)) + x6), .ref 80] (rx_hp L t hi11 hl11 v11) Q
    obtain ⟨j12, ej12, hj12, k⟩ := k
    refine rx_aw_last (pc := 176) (n := 1608) j12 ej12 rfl rfl (by decide) rfl hj12 (by decide) ?_
    show rx_aw 70 177 [.ref 77, .int x1, .long x2, rx_no, .long x4, rx_no, .int x6, .long (hl 80 j4), rx_no, .long (((hl 80 j4) ||| z5) ||| z6), rx_no, .long (((((((hl 80 j4) ||| z5) ||| z6) &&& x2) &&& z7) ||| z9) ||| z11), rx_no] [] (rx_hp L t hi11 (rx_u hl11 80 j12 (((((((hl 80 j4) ||| z5) ||| z6) &&& x2) &&& z7) ||| z9) ||| z11)) v11) Q
    refine rx_aw_s 2 (pc := 177) rfl ?_
    show rx_aw 70 28 [.ref 77, .int x1, .long x2, rx_no, .long x4, rx_no, .int (x6 + (1 : Int32)), .long (hl 80 j4), rx_no, .long (((hl 80 j4) ||| z5) ||| z6), rx_no, .long (((((((hl 80 j4) ||| z5) ||| z6) &&& x2) &&& z7) ||| z9) ||| z11), rx_no] [] (rx_hp L t hi11 (rx_u hl11 80 j12 (((((((hl 80 j4) ||| z5) ||| z6) &&& x2) &&& z7) ||| z9) ||| z11)) v11) Q
    exact rx_aw_le (ls := [.ref 77, .int x1, .long x2, rx_no, .long x4, rx_no, .int (x6 + (1 : Int32)), rx_no, rx_no, rx_no, rx_no, rx_no, rx_no]) ⟨Or.inr rfl, ⟨Or.inr rfl, ⟨Or.inr rfl, ⟨Or.inl rfl, ⟨Or.inr rfl, ⟨Or.inl rfl, ⟨Or.inr rfl, ⟨Or.inl rfl, ⟨Or.inl rfl, ⟨Or.inl rfl, ⟨Or.inl rfl, ⟨Or.inl rfl, ⟨Or.inl rfl, trivial⟩⟩⟩⟩⟩⟩⟩⟩⟩⟩⟩⟩⟩ k
set_option maxRecDepth 100000 in
/-- CartFloor$Search.tabooAt(I)J -/
theorem w71_tabooAt {L : Nat} {t : List (Nat × Nat)} {hi : Nat → Nat → Int32} {hl : Nat → Nat → Int64} {v : Nat → Nat → Option Nat} {Q : Option Value → rx_H → Prop} {a0 : Int32} (k : (∃ j1 : Nat, (if (hi 77 9) < a0 then (hi 77 9) else a0) = nI j1 ∧ j1 < 402 ∧ Q (some (.long (hl 78 j1))) (rx_hp L t hi hl v))) : rx_me 71 [.ref 77, .int a0] (rx_hp L t hi hl v) Q := by
  show rx_aw 71 0 [.ref 77, .int a0] [] (rx_hp L t hi hl v) Q
  refine rx_aw_s 6 (pc := 0) rfl ?_
  show rx_aw 71 12 [.ref 77, .int a0] [.int (if (hi 77 9) < a0 then (hi 77 9) else a0), .ref 78] (rx_hp L t hi hl v) Q
  obtain ⟨j1, ej1, hj1, k⟩ := k
  refine rx_aw_lald (pc := 12) (n := 402) j1 ej1 rfl rfl (by decide) rfl hj1 (by decide) ?_
  show rx_aw 71 13 [.ref 77, .int a0] [.long (hl 78 j1)] (rx_hp L t hi hl v) Q
  exact rx_aw_ret (pc := 13) rfl k
set_option maxRecDepth 100000 in
/-- CartFloor$Search.turned(JIIJ)J -/
theorem w72_turned {L : Nat} {t : List (Nat × Nat)} {hi : Nat → Nat → Int32} {hl : Nat → Nat → Int64} {v : Nat → Nat → Option Nat} {Q : Option Value → rx_H → Prop} {a0 : Int64} {a1 : Int32} {a2 : Int32} {a3 : Int64} (k : rx_me 12 [.ref 7, .long a3, .int (a2 ^^^ (2 : Int32))] (rx_hp L t hi hl v) (fun r h2 => ∃ z1 : Int64, r = some (.long z1) ∧ rx_ok2 L t h2 (fun hi1 hl1 v1 => rx_me 12 [.ref 7, .long a3, .int a1] (rx_hp L t hi1 hl1 v1) (fun r h2 => ∃ z2 : Int64, r = some (.long z2) ∧ rx_ok2 L t h2 (fun hi2 hl2 v2 => rx_me 12 [.ref 7, .long z1, .int a1] (rx_hp L t hi2 hl2 v2) (fun r h2 => ∃ z3 : Int64, r = some (.long z3) ∧ rx_ok2 L t h2 (fun hi3 hl3 v3 => rx_me 12 [.ref 7, .long ((((a0 &&& a3) &&& z2) &&& z1) &&& z3), .int (a1 ^^^ (2 : Int32))] (rx_hp L t hi3 hl3 v3) (fun r h2 => ∃ z4 : Int64, r = some (.long z4) ∧ rx_ok2 L t h2 (fun hi4 hl4 v4 => rx_me 12 [.ref 7, .long z4, .int a2] (rx_hp L t hi4 hl4 v4) (fun r h2 => ∃ z5 : Int64, r = some (.long z5) ∧ rx_ok2 L t h2 (fun hi5 hl5 v5 => Q (some (.long z5)) (rx_hp L t hi5 hl5 v5)))))))))))) : rx_me 72 [.ref 77, .long a0, .int a1, .int a2, .long a3] (rx_hp L t hi hl v) Q := by
  show rx_aw 72 0 [.ref 77, .long a0, rx_no, .int a1, .int a2, .long a3, rx_no, rx_no, rx_no, rx_no, rx_no] [] (rx_hp L t hi hl v) Q
  refine rx_aw_s 6 (pc := 0) rfl ?_
  show rx_aw 72 10 [.ref 77, .long a0, rx_no, .int a1, .int a2, .long a3, rx_no, rx_no, rx_no, rx_no, rx_no] [.int (a2 ^^^ (2 : Int32)), .long a3, .ref 7] (rx_hp L t hi hl v) Q
  refine rx_w_callL (j := 12) (pc := 10) rfl rfl rfl rfl rfl ?_
  refine rx_aw.mono k (fun r h2 k => ?_)
  obtain ⟨z1, rfl, hi1, hl1, v1, rfl, k⟩ := k
  refine ⟨z1, rfl, ?_⟩
  show rx_aw 72 13 [.ref 77, .long a0, rx_no, .int a1, .int a2, .long a3, rx_no, rx_no, rx_no, rx_no, rx_no] [.long z1] (rx_hp L t hi1 hl1 v1) Q
  refine rx_aw_s 8 (pc := 13) rfl ?_
  show rx_aw 72 26 [.ref 77, .long a0, rx_no, .int a1, .int a2, .long a3, rx_no, .long z1, rx_no, rx_no, rx_no] [.int a1, .long a3, .ref 7, .long (a0 &&& a3)] (rx_hp L t hi1 hl1 v1) Q
  refine rx_w_callL (j := 12) (pc := 26) rfl rfl rfl rfl rfl ?_
  refine rx_aw.mono k (fun r h2 k => ?_)
  obtain ⟨z2, rfl, hi2, hl2, v2, rfl, k⟩ := k
  refine ⟨z2, rfl, ?_⟩
  show rx_aw 72 29 [.ref 77, .long a0, rx_no, .int a1, .int a2, .long a3, rx_no, .long z1, rx_no, rx_no, rx_no] [.long z2, .long (a0 &&& a3)] (rx_hp L t hi2 hl2 v2) Q
  refine rx_aw_s 7 (pc := 29) rfl ?_
  show rx_aw 72 40 [.ref 77, .long a0, rx_no, .int a1, .int a2, .long a3, rx_no, .long z1, rx_no, rx_no, rx_no] [.int a1, .long z1, .ref 7, .long (((a0 &&& a3) &&& z2) &&& z1)] (rx_hp L t hi2 hl2 v2) Q
  refine rx_w_callL (j := 12) (pc := 40) rfl rfl rfl rfl rfl ?_
  refine rx_aw.mono k (fun r h2 k => ?_)
  obtain ⟨z3, rfl, hi3, hl3, v3, rfl, k⟩ := k
  refine ⟨z3, rfl, ?_⟩
  show rx_aw 72 43 [.ref 77, .long a0, rx_no, .int a1, .int a2, .long a3, rx_no, .long z1, rx_no, rx_no, rx_no] [.long z3, .long (((a0 &&& a3) &&& z2) &&& z1)] (rx_hp L t hi3 hl3 v3) Q
  refine rx_aw_s 10 (pc := 43) rfl ?_
  show rx_aw 72 59 [.ref 77, .long a0, rx_no, .int a1, .int a2, .long a3, rx_no, .long z1, rx_no, .long ((((a0 &&& a3) &&& z2) &&& z1) &&& z3), rx_no] [.int (a1 ^^^ (2 : Int32)), .long ((((a0 &&& a3) &&& z2) &&& z1) &&& z3), .ref 7, .ref 7] (rx_hp L t hi3 hl3 v3) Q
  refine rx_w_callL (j := 12) (pc := 59) rfl rfl rfl rfl rfl ?_
  refine rx_aw.mono k (fun r h2 k => ?_)
  obtain ⟨z4, rfl, hi4, hl4, v4, rfl, k⟩ := k
  refine ⟨z4, rfl, ?_⟩
  show rx_aw 72 62 [.ref 77, .long a0, rx_no, .int a1, .int a2, .long a3, rx_no, .long z1, rx_no, .long ((((a0 &&& a3) &&& z2) &&& z1) &&& z3), rx_no] [.long z4, .ref 7] (rx_hp L t hi4 hl4 v4) Q
  refine rx_aw_s 1 (pc := 62) rfl ?_
  show rx_aw 72 64 [.ref 77, .long a0, rx_no, .int a1, .int a2, .long a3, rx_no, .long z1, rx_no, .long ((((a0 &&& a3) &&& z2) &&& z1) &&& z3), rx_no] [.int a2, .long z4, .ref 7] (rx_hp L t hi4 hl4 v4) Q
  refine rx_w_callL (j := 12) (pc := 64) rfl rfl rfl rfl rfl ?_
  refine rx_aw.mono k (fun r h2 k => ?_)
  obtain ⟨z5, rfl, hi5, hl5, v5, rfl, k⟩ := k
  refine ⟨z5, rfl, ?_⟩
  show rx_aw 72 67 [.ref 77, .long a0, rx_no, .int a1, .int a2, .long a3, rx_no, .long z1, rx_no, .long ((((a0 &&& a3) &&& z2) &&& z1) &&& z3), rx_no] [.long z5] (rx_hp L t hi5 hl5 v5) Q
  exact rx_aw_ret (pc := 67) rfl k
set_option maxRecDepth 100000 in
/-- CartFloor$Search.advance(I)V -/
theorem w73_advance {L : Nat} {t : List (Nat × Nat)} {hi : Nat → Nat → Int32} {hl : Nat → Nat → Int64} {v : Nat → Nat → Option Nat} {Q : Option Value → rx_H → Prop} {a0 : Int32} (k : rx_me 74 [.ref 77, .int a0] (rx_hp L t hi hl v) (fun r h2 => r = none ∧ rx_ok2 L t h2 (fun hi1 hl1 v1 => rx_me 71 [.ref 77, .int (a0 + (1 : Int32))] (rx_hp L t hi1 hl1 v1) (fun r h2 => ∃ z2 : Int64, r = some (.long z2) ∧ rx_ok2 L t h2 (fun hi2 hl2 v2 => (∃ j3 : Nat, ((4 : Int32) * a0) = nI j3 ∧ j3 < 1608 ∧ (∃ j4 : Nat, (((4 : Int32) * a0) + (1 : Int32)) = nI j4 ∧ j4 < 1608 ∧ (∃ j5 : Nat, (((4 : Int32) * a0) + (2 : Int32)) = nI j5 ∧ j5 < 1608 ∧ (∃ j6 : Nat, (((4 : Int32) * a0) + (3 : Int32)) = nI j6 ∧ j6 < 1608 ∧ rx_aw 73 64 [.ref 77, .int a0, .long (z2 ^^^ (-1 : Int64)), rx_no, .int ((4 : Int32) * a0), .long ((((hl2 80 j3) ||| (hl2 80 j4)) ||| (hl2 80 j5)) ||| (hl2 80 j6)), rx_no, .int (0 : Int32)] [] (rx_hp L t hi2 hl2 v2) Q))))))))) : rx_me 73 [.ref 77, .int a0] (rx_hp L t hi hl v) Q := by
  show rx_aw 73 0 [.ref 77, .int a0, rx_no, rx_no, rx_no, rx_no, rx_no, rx_no] [] (rx_hp L t hi hl v) Q
  refine rx_aw_s 2 (pc := 0) rfl ?_
  show rx_aw 73 2 [.ref 77, .int a0, rx_no, rx_no, rx_no, rx_no, rx_no, rx_no] [.int a0, .ref 77] (rx_hp L t hi hl v) Q
  refine rx_w_callV (j := 74) (pc := 2) rfl rfl rfl rfl rfl ?_
  refine rx_aw.mono k (fun r h2 k => ?_)
  obtain ⟨rfl, hi1, hl1, v1, rfl, k⟩ := k
  refine ⟨rfl, ?_⟩
  show rx_aw 73 5 [.ref 77, .int a0, rx_no, rx_no, rx_no, rx_no, rx_no, rx_no] [] (rx_hp L t hi1 hl1 v1) Q
  refine rx_aw_s 4 (pc := 5) rfl ?_
  show rx_aw 73 9 [.ref 77, .int a0, rx_no, rx_no, rx_no, rx_no, rx_no, rx_no] [.int (a0 + (1 : Int32)), .ref 77] (rx_hp L t hi1 hl1 v1) Q
  refine rx_w_callL (j := 71) (pc := 9) rfl rfl rfl rfl rfl ?_
  refine rx_aw.mono k (fun r h2 k => ?_)
  obtain ⟨z2, rfl, hi2, hl2, v2, rfl, k⟩ := k
  refine ⟨z2, rfl, ?_⟩
  show rx_aw 73 12 [.ref 77, .int a0, rx_no, rx_no, rx_no, rx_no, rx_no, rx_no] [.long z2] (rx_hp L t hi2 hl2 v2) Q
  refine rx_aw_s 10 (pc := 12) rfl ?_
  show rx_aw 73 28 [.ref 77, .int a0, .long (z2 ^^^ (-1 : Int64)), rx_no, .int ((4 : Int32) * a0), rx_no, rx_no, rx_no] [.int ((4 : Int32) * a0), .ref 80] (rx_hp L t hi2 hl2 v2) Q
  obtain ⟨j3, ej3, hj3, k⟩ := k
  refine rx_aw_lald (pc := 28) (n := 1608) j3 ej3 rfl rfl (by decide) rfl hj3 (by decide) ?_
  show rx_aw 73 29 [.ref 77, .int a0, .long (z2 ^^^ (-1 : Int64)), rx_no, .int ((4 : Int32) * a0), rx_no, rx_no, rx_no] [.long (hl2 80 j3)] (rx_hp L t hi2 hl2 v2) Q
  refine rx_aw_s 5 (pc := 29) rfl ?_
  show rx_aw 73 37 [.ref 77, .int a0, .long (z2 ^^^ (-1 : Int64)), rx_no, .int ((4 : Int32) * a0), rx_no, rx_no, rx_no] [.int (((4 : Int32) * a0) + (1 : Int32)), .ref 80, .long (hl2 80 j3)] (rx_hp L t hi2 hl2 v2) Q
  obtain ⟨j4, ej4, hj4, k⟩ := k
  refine rx_aw_lald (pc := 37) (n := 1608) j4 ej4 rfl rfl (by decide) rfl hj4 (by decide) ?_
  show rx_aw 73 38 [.ref 77, .int a0, .long (z2 ^^^ (-1 : Int64)), rx_no, .int ((4 : Int32) * a0), rx_no, rx_no, rx_no] [.long (hl2 80 j4), .long (hl2 80 j3)] (rx_hp L t hi2 hl2 v2) Q
  refine rx_aw_s 6 (pc := 38) rfl ?_
  show rx_aw 73 47 [.ref 77, .int a0, .long (z2 ^^^ (-1 : Int64)), rx_no, .int ((4 : Int32) * a0), rx_no, rx_no, rx_no] [.int (((4 : Int32) * a0) + (2 : Int32)), .ref 80, .long ((hl2 80 j3) ||| (hl2 80 j4))] (rx_hp L t hi2 hl2 v2) Q
  obtain ⟨j5, ej5, hj5, k⟩ := k
  refine rx_aw_lald (pc := 47) (n := 1608) j5 ej5 rfl rfl (by decide) rfl hj5 (by decide) ?_
  show rx_aw 73 48 [.ref 77, .int a0, .long (z2 ^^^ (-1 : Int64)), rx_no, .int ((4 : Int32) * a0), rx_no, rx_no, rx_no] [.long (hl2 80 j5), .long ((hl2 80 j3) ||| (hl2 80 j4))] (rx_hp L t hi2 hl2 v2) Q
  refine rx_aw_s 6 (pc := 48) rfl ?_
  show rx_aw 73 57 [.ref 77, .int a0, .long (z2 ^^^ (-1 : Int64)), rx_no, .int ((4 : Int32) * a0), rx_no, rx_no, rx_no] [.int (((4 : Int32) * a0) + (3 : Int32)), .ref 80, .long (((hl2 80 j3) ||| (hl2 80 j4)) ||| (hl2 80 j5))] (rx_hp L t hi2 hl2 v2) Q
  obtain ⟨j6, ej6, hj6, k⟩ := k
  refine rx_aw_lald (pc := 57) (n := 1608) j6 ej6 rfl rfl (by decide) rfl hj6 (by decide) ?_
  show rx_aw 73 58 [.ref 77, .int a0, .long (z2 ^^^ (-1 : Int64)), rx_no, .int ((4 : Int32) * a0), rx_no, rx_no, rx_no] [.long (hl2 80 j6), .long (((hl2 80 j3) ||| (hl2 80 j4)) ||| (hl2 80 j5))] (rx_hp L t hi2 hl2 v2) Q
  refine rx_aw_s 4 (pc := 58) rfl ?_
  show rx_aw 73 64 [.ref 77, .int a0, .long (z2 ^^^ (-1 : Int64)), rx_no, .int ((4 : Int32) * a0), .long ((((hl2 80 j3) ||| (hl2 80 j4)) ||| (hl2 80 j5)) ||| (hl2 80 j6)), rx_no, .int (0 : Int32)] [] (rx_hp L t hi2 hl2 v2) Q
  exact k
set_option maxRecDepth 100000 in
theorem w73_advance_64 {L : Nat} {t : List (Nat × Nat)} {hi : Nat → Nat → Int32} {hl : Nat → Nat → Int64} {v : Nat → Nat → Option Nat} {Q : Option Value → rx_H → Prop} {x1 : Int32} {x2 : Int64} {x4 : Int32} {x5 : Int64} {x7 : Int32} (k : (((4 : Int32) ≤ x7 → Q none (rx_hp L t hi hl v)) ∧ (¬ ((4 : Int32) ≤ x7) → (∃ j8 : Nat, (x4 + x7) = nI j8 ∧ j8 < 1608 ∧ (∃ j9 : Nat, x7 = nI j9 ∧ j9 < 4 ∧ rx_me 12 [.ref 7, .long (x5 &&& ((hl 83 j9) ^^^ (-1 : Int64))), .int x7] (rx_hp L t hi hl v) (fun r h2 => ∃ z10 : Int64, r = some (.long z10) ∧ rx_ok2 L t h2 (fun hi10 hl10 v10 => (∃ j11 : Nat, ((x4 + (4 : Int32)) + x7) = nI j11 ∧ j11 < 1608 ∧ rx_aw 73 64 [.ref 77, .int x1, .long x2, rx_no, .int x4, .long x5, rx_no, .int (x7 + (1 : Int32))] [] (rx_hp L t hi10 (rx_u hl10 80 j11 (((hl 80 j8) ||| z10) &&& x2)) v10) Q)))))))) : rx_aw 73 64 [.ref 77, .int x1, .long x2, rx_no, .int x4, .long x5, rx_no, .int x7] [] (rx_hp L t hi hl v) Q := by
  refine rx_aw_s 3 (pc := 64) rfl ?_
  refine rx_w_if (c := (4 : Int32) ≤ x7) ⟨fun c7 => ?_, fun c7 => ?_⟩
  · have k := k.1 c7
    show rx_aw 73 124 [.ref 77, .int x1, .long x2, rx_no, .int x4, .long x5, rx_no, .int x7] [] (rx_hp L t hi hl v) Q
    exact rx_aw_ret (pc := 124) rfl k
  · have k := k.2 c7
    show rx_aw 73 70 [.ref 77, .int x1, .long x2, rx_no, .int x4, .long x5, rx_no, .int x7] [] (rx_hp L t hi hl v) Q
    refine rx_aw_s 12 (pc := 70) rfl ?_
    show rx_aw 73 90 [.ref 77, .int x1, .long x2, rx_no, .int x4, .long x5, rx_no, .int x7] [.int (x4 + x7), .ref 80, .int ((x4 + (4 : Int32)) + x7), .ref 80] (rx_hp L t hi hl v) Q
    obtain ⟨j8, ej8, hj8, k⟩ := k
    refine rx_aw_lald (pc := 90) (n := 1608) j8 ej8 rfl rfl (by decide) rfl hj8 (by decide) ?_
    show rx_aw 73 91 [.ref 77, .int x1, .long x2, rx_no, .int x4, .long x5, rx_no, .int x7] [.long (hl 80 j8), .int ((x4 + (4 : Int32)) + x7), .ref 80] (rx_hp L t hi hl v) Q
    refine rx_aw_s 6 (pc := 91) rfl ?_
    show rx_aw 73 103 [.ref 77, .int x1, .long x2, rx_no, .int x4, .long x5, rx_no, .int x7] [.int x7, .ref 83, .long x5, .ref 7, .long (hl 80 j8), .int ((x4 + (4 : Int32)) + x7), .ref 80] (rx_hp L t hi hl v) Q
    obtain ⟨j9, ej9, hj9, k⟩ := k
    refine rx_aw_lald (pc := 103) (n := 4) j9 ej9 rfl rfl (by decide) rfl hj9 (by decide) ?_
    show rx_aw 73 104 [.ref 77, .int x1, .long x2, rx_no, .int x4, .long x5, rx_no, .int x7] [.long (hl 83 j9), .long x5, .ref 7, .long (hl 80 j8), .int ((x4 + (4 : Int32)) + x7), .ref 80] (rx_hp L t hi hl v) Q
    refine rx_aw_s 4 (pc := 104) rfl ?_
    show rx_aw 73 111 [.ref 77, .int x1, .long x2, rx_no, .int x4, .long x5, rx_no, .int x7] [.int x7, .long (x5 &&& ((hl 83 j9) ^^^ (-1 : Int64))), .ref 7, .long (hl 80 j8), .int ((x4 + (4 : Int32)) + x7), .ref 80] (rx_hp L t hi hl v) Q
    refine rx_w_callL (j := 12) (pc := 111) rfl rfl rfl rfl rfl ?_
    refine rx_aw.mono k (fun r h2 k => ?_)
    obtain ⟨z10, rfl, hi10, hl10, v10, rfl, k⟩ := k
    refine ⟨z10, rfl, ?_⟩
    show rx_aw 73 114 [.ref 77, .int x1, .long x2, rx_no, .int x4, .long x5, rx_no, .int x7] [.long z10, .long (hl 80 j8), .int ((x4 + (4 : Int32)) + x7), .ref 80] (rx_hp L t hi10 hl10 v10) Q
    refine rx_aw_s 3 (pc := 114) rfl ?_
    show rx_aw 73 117 [.ref 77, .int x1, .long x2, rx_no, .int x4, .long x5, rx_no, .int x7] [.long (((hl 80 j8) ||| z10) &&& x2), .int ((x4 + (4 : Int32)) + x7), .ref 80] (rx_hp L t hi10 hl10 v10) Q
    obtain ⟨j11, ej11, hj11, k⟩ := k
    refine rx_aw_last (pc := 117) (n := 1608) j11 ej11 rfl rfl (by decide) rfl hj11 (by decide) ?_
    show rx_aw 73 118 [.ref 77, .int x1, .long x2, rx_no, .int x4, .long x5, rx_no, .int x7] [] (rx_hp L t hi10 (rx_u hl10 80 j11 (((hl 80 j8) ||| z10) &&& x2)) v10) Q
    refine rx_aw_s 2 (pc := 118) rfl ?_
    show rx_aw 73 64 [.ref 77, .int x1, .long x2, rx_no, .int x4, .long x5, rx_no, .int (x7 + (1 : Int32))] [] (rx_hp L t hi10 (rx_u hl10 80 j11 (((hl 80 j8) ||| z10) &&& x2)) v10) Q
    exact k
set_option maxRecDepth 100000 in
/-- CartFloor$Search.findFaced(I)V -/
theorem w74_findFaced {L : Nat} {t : List (Nat × Nat)} {hi : Nat → Nat → Int32} {hl : Nat → Nat → Int64} {v : Nat → Nat → Option Nat} {Q : Option Value → rx_H → Prop} {a0 : Int32} (k : rx_me 75 [.ref 83, .long (0 : Int64)] (rx_hp L t hi hl v) (fun r h2 => r = none ∧ rx_ok2 L t h2 (fun hi1 hl1 v1 => rx_aw 74 10 [.ref 77, .int a0, .int (0 : Int32), rx_no, rx_no, rx_no, rx_no, rx_no, rx_no] [] (rx_hp L t hi1 hl1 v1) Q))) : rx_me 74 [.ref 77, .int a0] (rx_hp L t hi hl v) Q := by
  show rx_aw 74 0 [.ref 77, .int a0, rx_no, rx_no, rx_no, rx_no, rx_no, rx_no, rx_no] [] (rx_hp L t hi hl v) Q
  refine rx_aw_s 3 (pc := 0) rfl ?_
  show rx_aw 74 5 [.ref 77, .int a0, rx_no, rx_no, rx_no, rx_no, rx_no, rx_no, rx_no] [.long (0 : Int64), .ref 83] (rx_hp L t hi hl v) Q
  refine rx_w_callV (j := 75) (pc := 5) rfl rfl rfl rfl rfl ?_
  refine rx_aw.mono k (fun r h2 k => ?_)
  obtain ⟨rfl, hi1, hl1, v1, rfl, k⟩ := k
  refine ⟨rfl, ?_⟩
  show rx_aw 74 8 [.ref 77, .int a0, rx_no, rx_no, rx_no, rx_no, rx_no, rx_no, rx_no] [] (rx_hp L t hi1 hl1 v1) Q
  refine rx_aw_s 2 (pc := 8) rfl ?_
  show rx_aw 74 10 [.ref 77, .int a0, .int (0 : Int32), rx_no, rx_no, rx_no, rx_no, rx_no, rx_no] [] (rx_hp L t hi1 hl1 v1) Q
  exact k
set_option maxRecDepth 100000 in
theorem w74_findFaced_10 {L : Nat} {t : List (Nat × Nat)} {hi : Nat → Nat → Int32} {hl : Nat → Nat → Int64} {v : Nat → Nat → Option Nat} {Q : Option Value → rx_H → Prop} {x1 : Int32} {x2 : Int32} (k : (((hi 13 3) ≤ x2 → Q none (rx_hp L t hi hl v)) ∧ (¬ ((hi 13 3) ≤ x2) → (((hi 77 9) ≤ x1 → Q none (rx_hp L t hi hl v)) ∧ (¬ ((hi 77 9) ≤ x1) → (∃ j4 : Nat, x2 = nI j4 ∧ j4 < 6 ∧ (∃ j5 : Nat, x1 = nI j5 ∧ j5 < 402 ∧ (∃ j6 : Nat, (x1 + (1 : Int32)) = nI j6 ∧ j6 < 402 ∧ (((v 77 8) = none ∧ (((lg_cmp ((hl (rx_ct j4 + 4) j5) &&& ((hl (rx_ct j4 + 4) j6) ^^^ (-1 : Int64))) (0 : Int64)) = 0 → rx_aw 74 10 [.ref 77, .int x1, .int (x2 + (1 : Int32)), rx_no, rx_no, rx_no, rx_no, rx_no, rx_no] [] (rx_hp L t hi hl v) Q) ∧ (¬ ((lg_cmp ((hl (rx_ct j4 + 4) j5) &&& ((hl (rx_ct j4 + 4) j6) ^^^ (-1 : Int64))) (0 : Int64)) = 0) → (∃ j9 : Nat, (x1 + (1 : Int32)) = nI j9 ∧ j9 < 402 ∧ (∃ j10 : Nat, x1 = nI j10 ∧ j10 < 402 ∧ rx_aw 74 99 [.ref 77, .int x1, .int x2, .ref (rx_ct j4), .long ((hl (rx_ct j4 + 4) j5) &&& ((hl (rx_ct j4 + 4) j6) ^^^ (-1 : Int64))), rx_no, .long ((hl (rx_ct j4 + 4) j9) &&& ((hl (rx_ct j4 + 4) j10) ^^^ (-1 : Int64))), rx_no, .int (0 : Int32)] [] (rx_hp L t hi hl v) Q))))) ∨ (∃ q7 : Nat, q7 < 6 ∧ (v 77 8) = some (rx_ct q7) ∧ (((some (rx_ct j4) : Option Nat) = (some (rx_ct q7) : Option Nat) → rx_aw 74 10 [.ref 77, .int x1, .int (x2 + (1 : Int32)), rx_no, rx_no, rx_no, rx_no, rx_no, rx_no] [] (rx_hp L t hi hl v) Q) ∧ (¬ ((some (rx_ct j4) : Option Nat) = (some (rx_ct q7) : Option Nat)) → (((lg_cmp ((hl (rx_ct j4 + 4) j5) &&& ((hl (rx_ct j4 + 4) j6) ^^^ (-1 : Int64))) (0 : Int64)) = 0 → rx_aw 74 10 [.ref 77, .int x1, .int (x2 + (1 : Int32)), rx_no, rx_no, rx_no, rx_no, rx_no, rx_no] [] (rx_hp L t hi hl v) Q) ∧ (¬ ((lg_cmp ((hl (rx_ct j4 + 4) j5) &&& ((hl (rx_ct j4 + 4) j6) ^^^ (-1 : Int64))) (0 : Int64)) = 0) → (∃ j13 : Nat, (x1 + (1 : Int32)) = nI j13 ∧ j13 < 402 ∧ (∃ j14 : Nat, x1 = nI j14 ∧ j14 < 402 ∧ rx_aw 74 99 [.ref 77, .int x1, .int x2, .ref (rx_ct j4), .long ((hl (rx_ct j4 + 4) j5) &&& ((hl (rx_ct j4 + 4) j6) ^^^ (-1 : Int64))), rx_no, .long ((hl (rx_ct j4 + 4) j13) &&& ((hl (rx_ct j4 + 4) j14) ^^^ (-1 : Int64))), rx_no, .int (0 : Int32)] [] (rx_hp L t hi hl v) Q)))))))))))))))) : rx_aw 74 10 [.ref 77, .int x1, .int x2, rx_no, rx_no, rx_no, rx_no, rx_no, rx_no] [] (rx_hp L t hi hl v) Q := by
  refine rx_aw_s 5 (pc := 10) rfl ?_
  refine rx_w_if (c := (hi 13 3) ≤ x2) ⟨fun c2 => ?_, fun c2 => ?_⟩
  · have k := k.1 c2
    show rx_aw 74 143 [.ref 77, .int x1, .int x2, rx_no, rx_no, rx_no, rx_no, rx_no, rx_no] [] (rx_hp L t hi hl v) Q
    exact rx_aw_ret (pc := 143) rfl k
  · have k := k.2 c2
    show rx_aw 74 21 [.ref 77, .int x1, .int x2, rx_no, rx_no, rx_no, rx_no, rx_no, rx_no] [] (rx_hp L t hi hl v) Q
    refine rx_aw_s 4 (pc := 21) rfl ?_
    refine rx_w_if (c := (hi 77 9) ≤ x1) ⟨fun c3 => ?_, fun c3 => ?_⟩
    · have k := k.1 c3
      show rx_aw 74 143 [.ref 77, .int x1, .int x2, rx_no, rx_no, rx_no, rx_no, rx_no, rx_no] [] (rx_hp L t hi hl v) Q
      exact rx_aw_ret (pc := 143) rfl k
    · have k := k.2 c3
      show rx_aw 74 29 [.ref 77, .int x1, .int x2, rx_no, rx_no, rx_no, rx_no, rx_no, rx_no] [] (rx_hp L t hi hl v) Q
      refine rx_aw_s 4 (pc := 29) rfl ?_
      show rx_aw 74 37 [.ref 77, .int x1, .int x2, rx_no, rx_no, rx_no, rx_no, rx_no, rx_no] [.int x2, .ref 14] (rx_hp L t hi hl v) Q
      obtain ⟨j4, ej4, hj4, k⟩ := k
      refine rx_w_carts (pc := 37) rfl ⟨j4, ej4, hj4, ?_⟩
      show rx_aw 74 38 [.ref 77, .int x1, .int x2, rx_no, rx_no, rx_no, rx_no, rx_no, rx_no] [.ref (rx_ct j4)] (rx_hp L t hi hl v) Q
      refine rx_aw_s 2 (pc := 38) rfl ?_
      show rx_aw 74 40 [.ref 77, .int x1, .int x2, .ref (rx_ct j4), rx_no, rx_no, rx_no, rx_no, rx_no] [.ref (rx_ct j4)] (rx_hp L t hi hl v) Q
      refine rx_w_cr hj4 (pc := 40) rfl (by decide) ?_
      show rx_aw 74 43 [.ref 77, .int x1, .int x2, .ref (rx_ct j4), rx_no, rx_no, rx_no, rx_no, rx_no] [.ref (rx_ct j4 + 4)] (rx_hp L t hi hl v) Q
      refine rx_aw_s 1 (pc := 43) rfl ?_
      show rx_aw 74 44 [.ref 77, .int x1, .int x2, .ref (rx_ct j4), rx_no, rx_no, rx_no, rx_no, rx_no] [.int x1, .ref (rx_ct j4 + 4)] (rx_hp L t hi hl v) Q
      obtain ⟨j5, ej5, hj5, k⟩ := k
      refine rx_aw_lald (pc := 44) (n := 402) j5 ej5 rfl (rx_ck (rx_cart_s hj4).2.2.2.2.1) (Nat.lt_of_lt_of_le (rx_ct_pos _) (Nat.le_add_right _ _)) (rx_cle (rx_cart_s hj4).2.2.2.2.1) hj5 (by decide) ?_
      show rx_aw 74 45 [.ref 77, .int x1, .int x2, .ref (rx_ct j4), rx_no, rx_no, rx_no, rx_no, rx_no] [.long (hl (rx_ct j4 + 4) j5)] (rx_hp L t hi hl v) Q
      refine rx_aw_s 1 (pc := 45) rfl ?_
      show rx_aw 74 46 [.ref 77, .int x1, .int x2, .ref (rx_ct j4), rx_no, rx_no, rx_no, rx_no, rx_no] [.ref (rx_ct j4), .long (hl (rx_ct j4 + 4) j5)] (rx_hp L t hi hl v) Q
      refine rx_w_cr hj4 (pc := 46) rfl (by decide) ?_
      show rx_aw 74 49 [.ref 77, .int x1, .int x2, .ref (rx_ct j4), rx_no, rx_no, rx_no, rx_no, rx_no] [.ref (rx_ct j4 + 4), .long (hl (rx_ct j4 + 4) j5)] (rx_hp L t hi hl v) Q
      refine rx_aw_s 3 (pc := 49) rfl ?_
      show rx_aw 74 52 [.ref 77, .int x1, .int x2, .ref (rx_ct j4), rx_no, rx_no, rx_no, rx_no, rx_no] [.int (x1 + (1 : Int32)), .ref (rx_ct j4 + 4), .long (hl (rx_ct j4 + 4) j5)] (rx_hp L t hi hl v) Q
      obtain ⟨j6, ej6, hj6, k⟩ := k
      refine rx_aw_lald (pc := 52) (n := 402) j6 ej6 rfl (rx_ck (rx_cart_s hj4).2.2.2.2.1) (Nat.lt_of_lt_of_le (rx_ct_pos _) (Nat.le_add_right _ _)) (rx_cle (rx_cart_s hj4).2.2.2.2.1) hj6 (by decide) ?_
      show rx_aw 74 53 [.ref 77, .int x1, .int x2, .ref (rx_ct j4), rx_no, rx_no, rx_no, rx_no, rx_no] [.long (hl (rx_ct j4 + 4) j6), .long (hl (rx_ct j4 + 4) j5)] (rx_hp L t hi hl v) Q
      refine rx_aw_s 7 (pc := 53) rfl ?_
      show rx_aw 74 65 [.ref 77, .int x1, .int x2, .ref (rx_ct j4), .long ((hl (rx_ct j4 + 4) j5) &&& ((hl (rx_ct j4 + 4) j6) ^^^ (-1 : Int64))), rx_no, rx_no, rx_no, rx_no] [va_rf (v 77 8), .ref (rx_ct j4)] (rx_hp L t hi hl v) Q
      rcases k with ⟨eq7, k⟩ | ⟨q7, hq7, eq7, k⟩
      · rw [eq7]
        show rx_aw 74 65 [.ref 77, .int x1, .int x2, .ref (rx_ct j4), .long ((hl (rx_ct j4 + 4) j5) &&& ((hl (rx_ct j4 + 4) j6) ^^^ (-1 : Int64))), rx_no, rx_no, rx_no, rx_no] [.null, .ref (rx_ct j4)] (rx_hp L t hi hl v) Q
        refine rx_aw_s 5 (pc := 65) rfl ?_
        refine rx_w_if (c := (lg_cmp ((hl (rx_ct j4 + 4) j5) &&& ((hl (rx_ct j4 + 4) j6) ^^^ (-1 : Int64))) (0 : Int64)) = 0) ⟨fun c8 => ?_, fun c8 => ?_⟩
        · have k := k.1 c8
          show rx_aw 74 137 [.ref 77, .int x1, .int x2, .ref (rx_ct j4), .long ((hl (rx_ct j4 + 4) j5) &&& ((hl (rx_ct j4 + 4) j6) ^^^ (-1 : Int64))), rx_no, rx_no, rx_no, rx_no] [] (rx_hp L t hi hl v) Q
          refine rx_aw_s 2 (pc := 137) rfl ?_
          show rx_aw 74 10 [.ref 77, .int x1, .int (x2 + (1 : Int32)), .ref (rx_ct j4), .long ((hl (rx_ct j4 + 4) j5) &&& ((hl (rx_ct j4 + 4) j6) ^^^ (-1 : Int64))), rx_no, rx_no, rx_no, rx_no] [] (rx_hp L t hi hl v) Q
          exact rx_aw_le (ls := [.ref 77, .int x1, .int (x2 + (1 : Int32)), rx_no, rx_no, rx_no, rx_no, rx_no, rx_no]) ⟨Or.inr rfl, ⟨Or.inr rfl, ⟨Or.inr rfl, ⟨Or.inl rfl, ⟨Or.inl rfl, ⟨Or.inl rfl, ⟨Or.inl rfl, ⟨Or.inl rfl, ⟨Or.inl rfl, trivial⟩⟩⟩⟩⟩⟩⟩⟩⟩ k
        · have k := k.2 c8
          show rx_aw 74 75 [.ref 77, .int x1, .int x2, .ref (rx_ct j4), .long ((hl (rx_ct j4 + 4) j5) &&& ((hl (rx_ct j4 + 4) j6) ^^^ (-1 : Int64))), rx_no, rx_no, rx_no, rx_no] [] (rx_hp L t hi hl v) Q
          refine rx_aw_s 1 (pc := 75) rfl ?_
          show rx_aw 74 76 [.ref 77, .int x1, .int x2, .ref (rx_ct j4), .long ((hl (rx_ct j4 + 4) j5) &&& ((hl (rx_ct j4 + 4) j6) ^^^ (-1 : Int64))), rx_no, rx_no, rx_no, rx_no] [.ref (rx_ct j4)] (rx_hp L t hi hl v) Q
          refine rx_w_cr hj4 (pc := 76) rfl (by decide) ?_
          show rx_aw 74 79 [.ref 77, .int x1, .int x2, .ref (rx_ct j4), .long ((hl (rx_ct j4 + 4) j5) &&& ((hl (rx_ct j4 + 4) j6) ^^^ (-1 : Int64))), rx_no, rx_no, rx_no, rx_no] [.ref (rx_ct j4 + 4)] (rx_hp L t hi hl v) Q
          refine rx_aw_s 3 (pc := 79) rfl ?_
          show rx_aw 74 82 [.ref 77, .int x1, .int x2, .ref (rx_ct j4), .long ((hl (rx_ct j4 + 4) j5) &&& ((hl (rx_ct j4 + 4) j6) ^^^ (-1 : Int64))), rx_no, rx_no, rx_no, rx_no] [.int (x1 + (1 : Int32)), .ref (rx_ct j4 + 4)] (rx_hp L t hi hl v) Q
          obtain ⟨j9, ej9, hj9, k⟩ := k
          refine rx_aw_lald (pc := 82) (n := 402) j9 ej9 rfl (rx_ck (rx_cart_s hj4).2.2.2.2.1) (Nat.lt_of_lt_of_le (rx_ct_pos _) (Nat.le_add_right _ _)) (rx_cle (rx_cart_s hj4).2.2.2.2.1) hj9 (by decide) ?_
          show rx_aw 74 83 [.ref 77, .int x1, .int x2, .ref (rx_ct j4), .long ((hl (rx_ct j4 + 4) j5) &&& ((hl (rx_ct j4 + 4) j6) ^^^ (-1 : Int64))), rx_no, rx_no, rx_no, rx_no] [.long (hl (rx_ct j4 + 4) j9)] (rx_hp L t hi hl v) Q
          refine rx_aw_s 1 (pc := 83) rfl ?_
          show rx_aw 74 84 [.ref 77, .int x1, .int x2, .ref (rx_ct j4), .long ((hl (rx_ct j4 + 4) j5) &&& ((hl (rx_ct j4 + 4) j6) ^^^ (-1 : Int64))), rx_no, rx_no, rx_no, rx_no] [.ref (rx_ct j4), .long (hl (rx_ct j4 + 4) j9)] (rx_hp L t hi hl v) Q
          refine rx_w_cr hj4 (pc := 84) rfl (by decide) ?_
          show rx_aw 74 87 [.ref 77, .int x1, .int x2, .ref (rx_ct j4), .long ((hl (rx_ct j4 + 4) j5) &&& ((hl (rx_ct j4 + 4) j6) ^^^ (-1 : Int64))), rx_no, rx_no, rx_no, rx_no] [.ref (rx_ct j4 + 4), .long (hl (rx_ct j4 + 4) j9)] (rx_hp L t hi hl v) Q
          refine rx_aw_s 1 (pc := 87) rfl ?_
          show rx_aw 74 88 [.ref 77, .int x1, .int x2, .ref (rx_ct j4), .long ((hl (rx_ct j4 + 4) j5) &&& ((hl (rx_ct j4 + 4) j6) ^^^ (-1 : Int64))), rx_no, rx_no, rx_no, rx_no] [.int x1, .ref (rx_ct j4 + 4), .long (hl (rx_ct j4 + 4) j9)] (rx_hp L t hi hl v) Q
          obtain ⟨j10, ej10, hj10, k⟩ := k
          refine rx_aw_lald (pc := 88) (n := 402) j10 ej10 rfl (rx_ck (rx_cart_s hj4).2.2.2.2.1) (Nat.lt_of_lt_of_le (rx_ct_pos _) (Nat.le_add_right _ _)) (rx_cle (rx_cart_s hj4).2.2.2.2.1) hj10 (by decide) ?_
          show rx_aw 74 89 [.ref 77, .int x1, .int x2, .ref (rx_ct j4), .long ((hl (rx_ct j4 + 4) j5) &&& ((hl (rx_ct j4 + 4) j6) ^^^ (-1 : Int64))), rx_no, rx_no, rx_no, rx_no] [.long (hl (rx_ct j4 + 4) j10), .long (hl (rx_ct j4 + 4) j9)] (rx_hp L t hi hl v) Q
          refine rx_aw_s 6 (pc := 89) rfl ?_
          show rx_aw 74 99 [.ref 77, .int x1, .int x2, .ref (rx_ct j4), .long ((hl (rx_ct j4 + 4) j5) &&& ((hl (rx_ct j4 + 4) j6) ^^^ (-1 : Int64))), rx_no, .long ((hl (rx_ct j4 + 4) j9) &&& ((hl (rx_ct j4 + 4) j10) ^^^ (-1 : Int64))), rx_no, .int (0 : Int32)] [] (rx_hp L t hi hl v) Q
          exact k
      · rw [eq7]
        show rx_aw 74 65 [.ref 77, .int x1, .int x2, .ref (rx_ct j4), .long ((hl (rx_ct j4 + 4) j5) &&& ((hl (rx_ct j4 + 4) j6) ^^^ (-1 : Int64))), rx_no, rx_no, rx_no, rx_no] [.ref (rx_ct q7), .ref (rx_ct j4)] (rx_hp L t hi hl v) Q
        refine rx_aw_s 1 (pc := 65) rfl ?_
        refine rx_w_if (c := (some (rx_ct j4) : Option Nat) = (some (rx_ct q7) : Option Nat)) ⟨fun c11 => ?_, fun c11 => ?_⟩
        · have k := k.1 c11
          show rx_aw 74 137 [.ref 77, .int x1, .int x2, .ref (rx_ct j4), .long ((hl (rx_ct j4 + 4) j5) &&& ((hl (rx_ct j4 + 4) j6) ^^^ (-1 : Int64))), rx_no, rx_no, rx_no, rx_no] [] (rx_hp L t hi hl v) Q
          refine rx_aw_s 2 (pc := 137) rfl ?_
          show rx_aw 74 10 [.ref 77, .int x1, .int (x2 + (1 : Int32)), .ref (rx_ct j4), .long ((hl (rx_ct j4 + 4) j5) &&& ((hl (rx_ct j4 + 4) j6) ^^^ (-1 : Int64))), rx_no, rx_no, rx_no, rx_no] [] (rx_hp L t hi hl v) Q
          exact rx_aw_le (ls := [.ref 77, .int x1, .int (x2 + (1 : Int32)), rx_no, rx_no, rx_no, rx_no, rx_no, rx_no]) ⟨Or.inr rfl, ⟨Or.inr rfl, ⟨Or.inr rfl, ⟨Or.inl rfl, ⟨Or.inl rfl, ⟨Or.inl rfl, ⟨Or.inl rfl, ⟨Or.inl rfl, ⟨Or.inl rfl, trivial⟩⟩⟩⟩⟩⟩⟩⟩⟩ k
        · have k := k.2 c11
          show rx_aw 74 68 [.ref 77, .int x1, .int x2, .ref (rx_ct j4), .long ((hl (rx_ct j4 + 4) j5) &&& ((hl (rx_ct j4 + 4) j6) ^^^ (-1 : Int64))), rx_no, rx_no, rx_no, rx_no] [] (rx_hp L t hi hl v) Q
          refine rx_aw_s 4 (pc := 68) rfl ?_
          refine rx_w_if (c := (lg_cmp ((hl (rx_ct j4 + 4) j5) &&& ((hl (rx_ct j4 + 4) j6) ^^^ (-1 : Int64))) (0 : Int64)) = 0) ⟨fun c12 => ?_, fun c12 => ?_⟩
          · have k := k.1 c12
            show rx_aw 74 137 [.ref 77, .int x1, .int x2, .ref (rx_ct j4), .long ((hl (rx_ct j4 + 4) j5) &&& ((hl (rx_ct j4 + 4) j6) ^^^ (-1 : Int64))), rx_no, rx_no, rx_no, rx_no] [] (rx_hp L t hi hl v) Q
            refine rx_aw_s 2 (pc := 137) rfl ?_
            show rx_aw 74 10 [.ref 77, .int x1, .int (x2 + (1 : Int32)), .ref (rx_ct j4), .long ((hl (rx_ct j4 + 4) j5) &&& ((hl (rx_ct j4 + 4) j6) ^^^ (-1 : Int64))), rx_no, rx_no, rx_no, rx_no] [] (rx_hp L t hi hl v) Q
            exact rx_aw_le (ls := [.ref 77, .int x1, .int (x2 + (1 : Int32)), rx_no, rx_no, rx_no, rx_no, rx_no, rx_no]) ⟨Or.inr rfl, ⟨Or.inr rfl, ⟨Or.inr rfl, ⟨Or.inl rfl, ⟨Or.inl rfl, ⟨Or.inl rfl, ⟨Or.inl rfl, ⟨Or.inl rfl, ⟨Or.inl rfl, trivial⟩⟩⟩⟩⟩⟩⟩⟩⟩ k
          · have k := k.2 c12
            show rx_aw 74 75 [.ref 77, .int x1, .int x2, .ref (rx_ct j4), .long ((hl (rx_ct j4 + 4) j5) &&& ((hl (rx_ct j4 + 4) j6) ^^^ (-1 : Int64))), rx_no, rx_no, rx_no, rx_no] [] (rx_hp L t hi hl v) Q
            refine rx_aw_s 1 (pc := 75) rfl ?_
            show rx_aw 74 76 [.ref 77, .int x1, .int x2, .ref (rx_ct j4), .long ((hl (rx_ct j4 + 4) j5) &&& ((hl (rx_ct j4 + 4) j6) ^^^ (-1 : Int64))), rx_no, rx_no, rx_no, rx_no] [.ref (rx_ct j4)] (rx_hp L t hi hl v) Q
            refine rx_w_cr hj4 (pc := 76) rfl (by decide) ?_
            show rx_aw 74 79 [.ref 77, .int x1, .int x2, .ref (rx_ct j4), .long ((hl (rx_ct j4 + 4) j5) &&& ((hl (rx_ct j4 + 4) j6) ^^^ (-1 : Int64))), rx_no, rx_no, rx_no, rx_no] [.ref (rx_ct j4 + 4)] (rx_hp L t hi hl v) Q
            refine rx_aw_s 3 (pc := 79) rfl ?_
            show rx_aw 74 82 [.ref 77, .int x1, .int x2, .ref (rx_ct j4), .long ((hl (rx_ct j4 + 4) j5) &&& ((hl (rx_ct j4 + 4) j6) ^^^ (-1 : Int64))), rx_no, rx_no, rx_no, rx_no] [.int (x1 + (1 : Int32)), .ref (rx_ct j4 + 4)] (rx_hp L t hi hl v) Q
            obtain ⟨j13, ej13, hj13, k⟩ := k
            refine rx_aw_lald (pc := 82) (n := 402) j13 ej13 rfl (rx_ck (rx_cart_s hj4).2.2.2.2.1) (Nat.lt_of_lt_of_le (rx_ct_pos _) (Nat.le_add_right _ _)) (rx_cle (rx_cart_s hj4).2.2.2.2.1) hj13 (by decide) ?_
            show rx_aw 74 83 [.ref 77, .int x1, .int x2, .ref (rx_ct j4), .long ((hl (rx_ct j4 + 4) j5) &&& ((hl (rx_ct j4 + 4) j6) ^^^ (-1 : Int64))), rx_no, rx_no, rx_no, rx_no] [.long (hl (rx_ct j4 + 4) j13)] (rx_hp L t hi hl v) Q
            refine rx_aw_s 1 (pc := 83) rfl ?_
            show rx_aw 74 84 [.ref 77, .int x1, .int x2, .ref (rx_ct j4), .long ((hl (rx_ct j4 + 4) j5) &&& ((hl (rx_ct j4 + 4) j6) ^^^ (-1 : Int64))), rx_no, rx_no, rx_no, rx_no] [.ref (rx_ct j4), .long (hl (rx_ct j4 + 4) j13)] (rx_hp L t hi hl v) Q
            refine rx_w_cr hj4 (pc := 84) rfl (by decide) ?_
            show rx_aw 74 87 [.ref 77, .int x1, .int x2, .ref (rx_ct j4), .long ((hl (rx_ct j4 + 4) j5) &&& ((hl (rx_ct j4 + 4) j6) ^^^ (-1 : Int64))), rx_no, rx_no, rx_no, rx_no] [.ref (rx_ct j4 + 4), .long (hl (rx_ct j4 + 4) j13)] (rx_hp L t hi hl v) Q
            refine rx_aw_s 1 (pc := 87) rfl ?_
            show rx_aw 74 88 [.ref 77, .int x1, .int x2, .ref (rx_ct j4), .long ((hl (rx_ct j4 + 4) j5) &&& ((hl (rx_ct j4 + 4) j6) ^^^ (-1 : Int64))), rx_no, rx_no, rx_no, rx_no] [.int x1, .ref (rx_ct j4 + 4), .long (hl (rx_ct j4 + 4) j13)] (rx_hp L t hi hl v) Q
            obtain ⟨j14, ej14, hj14, k⟩ := k
            refine rx_aw_lald (pc := 88) (n := 402) j14 ej14 rfl (rx_ck (rx_cart_s hj4).2.2.2.2.1) (Nat.lt_of_lt_of_le (rx_ct_pos _) (Nat.le_add_right _ _)) (rx_cle (rx_cart_s hj4).2.2.2.2.1) hj14 (by decide) ?_
            show rx_aw 74 89 [.ref 77, .int x1, .int x2, .ref (rx_ct j4), .long ((hl (rx_ct j4 + 4) j5) &&& ((hl (rx_ct j4 + 4) j6) ^^^ (-1 : Int64))), rx_no, rx_no, rx_no, rx_no] [.long (hl (rx_ct j4 + 4) j14), .long (hl (rx_ct j4 + 4) j13)] (rx_hp L t hi hl v) Q
            refine rx_aw_s 6 (pc := 89) rfl ?_
            show rx_aw 74 99 [.ref 77, .int x1, .int x2, .ref (rx_ct j4), .long ((hl (rx_ct j4 + 4) j5) &&& ((hl (rx_ct j4 + 4) j6) ^^^ (-1 : Int64))), rx_no, .long ((hl (rx_ct j4 + 4) j13) &&& ((hl (rx_ct j4 + 4) j14) ^^^ (-1 : Int64))), rx_no, .int (0 : Int32)] [] (rx_hp L t hi hl v) Q
            exact k
set_option maxRecDepth 100000 in
theorem w74_findFaced_99 {L : Nat} {t : List (Nat × Nat)} {hi : Nat → Nat → Int32} {hl : Nat → Nat → Int64} {v : Nat → Nat → Option Nat} {Q : Option Value → rx_H → Prop} {x1 : Int32} {x2 : Int32} {j4 : Nat} (hj4 : j4 < 6) {x4 : Int64} {x6 : Int64} {x8 : Int32} (k : (((4 : Int32) ≤ x8 → rx_aw 74 10 [.ref 77, .int x1, .int (x2 + (1 : Int32)), rx_no, rx_no, rx_no, rx_no, rx_no, rx_no] [] (rx_hp L t hi hl v) Q) ∧ (¬ ((4 : Int32) ≤ x8) → (∃ j16 : Nat, x8 = nI j16 ∧ j16 < 4 ∧ rx_me 12 [.ref 7, .long x4, .int (x8 ^^^ (2 : Int32))] (rx_hp L t hi hl v) (fun r h2 => ∃ z17 : Int64, r = some (.long z17) ∧ rx_ok2 L t h2 (fun hi17 hl17 v17 => (∃ j18 : Nat, x8 = nI j18 ∧ j18 < 4 ∧ rx_aw 74 99 [.ref 77, .int x1, .int x2, .ref (rx_ct j4), .long x4, rx_no, .long x6, rx_no, .int (x8 + (1 : Int32))] [] (rx_hp L t hi17 (rx_u hl17 83 j18 ((hl 83 j16) ||| (x6 &&& z17))) v17) Q))))))) : rx_aw 74 99 [.ref 77, .int x1, .int x2, .ref (rx_ct j4), .long x4, rx_no, .long x6, rx_no, .int x8] [] (rx_hp L t hi hl v) Q := by
  refine rx_aw_s 3 (pc := 99) rfl ?_
  refine rx_w_if (c := (4 : Int32) ≤ x8) ⟨fun c15 => ?_, fun c15 => ?_⟩
  · have k := k.1 c15
    show rx_aw 74 137 [.ref 77, .int x1, .int x2, .ref (rx_ct j4), .long x4, rx_no, .long x6, rx_no, .int x8] [] (rx_hp L t hi hl v) Q
    refine rx_aw_s 2 (pc := 137) rfl ?_
    show rx_aw 74 10 [.ref 77, .int x1, .int (x2 + (1 : Int32)), .ref (rx_ct j4), .long x4, rx_no, .long x6, rx_no, .int x8] [] (rx_hp L t hi hl v) Q
    exact rx_aw_le (ls := [.ref 77, .int x1, .int (x2 + (1 : Int32)), rx_no, rx_no, rx_no, rx_no, rx_no, rx_no]) ⟨Or.inr rfl, ⟨Or.inr rfl, ⟨Or.inr rfl, ⟨Or.inl rfl, ⟨Or.inl rfl, ⟨Or.inl rfl, ⟨Or.inl rfl, ⟨Or.inl rfl, ⟨Or.inl rfl, trivial⟩⟩⟩⟩⟩⟩⟩⟩⟩ k
  · have k := k.2 c15
    show rx_aw 74 105 [.ref 77, .int x1, .int x2, .ref (rx_ct j4), .long x4, rx_no, .long x6, rx_no, .int x8] [] (rx_hp L t hi hl v) Q
    refine rx_aw_s 4 (pc := 105) rfl ?_
    show rx_aw 74 112 [.ref 77, .int x1, .int x2, .ref (rx_ct j4), .long x4, rx_no, .long x6, rx_no, .int x8] [.int x8, .ref 83, .int x8, .ref 83] (rx_hp L t hi hl v) Q
    obtain ⟨j16, ej16, hj16, k⟩ := k
    refine rx_aw_lald (pc := 112) (n := 4) j16 ej16 rfl rfl (by decide) rfl hj16 (by decide) ?_
    show rx_aw 74 113 [.ref 77, .int x1, .int x2, .ref (rx_ct j4), .long x4, rx_no, .long x6, rx_no, .int x8] [.long (hl 83 j16), .int x8, .ref 83] (rx_hp L t hi hl v) Q
    refine rx_aw_s 7 (pc := 113) rfl ?_
    show rx_aw 74 125 [.ref 77, .int x1, .int x2, .ref (rx_ct j4), .long x4, rx_no, .long x6, rx_no, .int x8] [.int (x8 ^^^ (2 : Int32)), .long x4, .ref 7, .long x6, .long (hl 83 j16), .int x8, .ref 83] (rx_hp L t hi hl v) Q
    refine rx_w_callL (j := 12) (pc := 125) rfl rfl rfl rfl rfl ?_
    refine rx_aw.mono k (fun r h2 k => ?_)
    obtain ⟨z17, rfl, hi17, hl17, v17, rfl, k⟩ := k
    refine ⟨z17, rfl, ?_⟩
    show rx_aw 74 128 [.ref 77, .int x1, .int x2, .ref (rx_ct j4), .long x4, rx_no, .long x6, rx_no, .int x8] [.long z17, .long x6, .long (hl 83 j16), .int x8, .ref 83] (rx_hp L t hi17 hl17 v17) Q
    refine rx_aw_s 2 (pc := 128) rfl ?_
    show rx_aw 74 130 [.ref 77, .int x1, .int x2, .ref (rx_ct j4), .long x4, rx_no, .long x6, rx_no, .int x8] [.long ((hl 83 j16) ||| (x6 &&& z17)), .int x8, .ref 83] (rx_hp L t hi17 hl17 v17) Q
    obtain ⟨j18, ej18, hj18, k⟩ := k
    refine rx_aw_last (pc := 130) (n := 4) j18 ej18 rfl rfl (by decide) rfl hj18 (by decide) ?_
    show rx_aw 74 131 [.ref 77, .int x1, .int x2, .ref (rx_ct j4), .long x4, rx_no, .long x6, rx_no, .int x8] [] (rx_hp L t hi17 (rx_u hl17 83 j18 ((hl 83 j16) ||| (x6 &&& z17))) v17) Q
    refine rx_aw_s 2 (pc := 131) rfl ?_
    show rx_aw 74 99 [.ref 77, .int x1, .int x2, .ref (rx_ct j4), .long x4, rx_no, .long x6, rx_no, .int (x8 + (1 : Int32))] [] (rx_hp L t hi17 (rx_u hl17 83 j18 ((hl 83 j16) ||| (x6 &&& z17))) v17) Q
    exact k
set_option maxRecDepth 100000 in
/-- CartFloor$Search.isSpent(I)Z -/
theorem w76_isSpent {L : Nat} {t : List (Nat × Nat)} {hi : Nat → Nat → Int32} {hl : Nat → Nat → Int64} {v : Nat → Nat → Option Nat} {Q : Option Value → rx_H → Prop} {a0 : Int32} (k : ((a0 < (hi 77 9) → rx_aw 76 19 [.ref 77, .int a0, .int (1 : Int32), .int (0 : Int32), .int (0 : Int32)] [] (rx_hp L t hi hl v) Q) ∧ (¬ (a0 < (hi 77 9)) → rx_aw 76 19 [.ref 77, .int a0, .int (1 : Int32), .int (1 : Int32), .int (0 : Int32)] [] (rx_hp L t hi hl v) Q))) : rx_me 76 [.ref 77, .int a0] (rx_hp L t hi hl v) Q := by
  show rx_aw 76 0 [.ref 77, .int a0, rx_no, rx_no, rx_no] [] (rx_hp L t hi hl v) Q
  refine rx_aw_s 6 (pc := 0) rfl ?_
  refine rx_w_if (c := a0 < (hi 77 9)) ⟨fun c1 => ?_, fun c1 => ?_⟩
  · have k := k.1 c1
    show rx_aw 76 14 [.ref 77, .int a0, .int (1 : Int32), rx_no, rx_no] [] (rx_hp L t hi hl v) Q
    refine rx_aw_s 4 (pc := 14) rfl ?_
    show rx_aw 76 19 [.ref 77, .int a0, .int (1 : Int32), .int (0 : Int32), .int (0 : Int32)] [] (rx_hp L t hi hl v) Q
    exact k
  · have k := k.2 c1
    show rx_aw 76 10 [.ref 77, .int a0, .int (1 : Int32), rx_no, rx_no] [] (rx_hp L t hi hl v) Q
    refine rx_aw_s 5 (pc := 10) rfl ?_
    show rx_aw 76 19 [.ref 77, .int a0, .int (1 : Int32), .int (1 : Int32), .int (0 : Int32)] [] (rx_hp L t hi hl v) Q
    exact k
set_option maxRecDepth 100000 in
theorem w76_isSpent_19 {L : Nat} {t : List (Nat × Nat)} {hi : Nat → Nat → Int32} {hl : Nat → Nat → Int64} {v : Nat → Nat → Option Nat} {Q : Option Value → rx_H → Prop} {x1 : Int32} {x2 : Int32} {x3 : Int32} {x4 : Int32} (k : (((4 : Int32) ≤ x4 → ((x2 = 0 → ((x3 = 0 → Q (some (.int (0 : Int32))) (rx_hp L t hi hl v)) ∧ (¬ (x3 = 0) → Q (some (.int (1 : Int32))) (rx_hp L t hi hl v)))) ∧ (¬ (x2 = 0) → Q (some (.int (1 : Int32))) (rx_hp L t hi hl v)))) ∧ (¬ ((4 : Int32) ≤ x4) → (∃ j5 : Nat, ((((4 : Int32) * x1) + (4 : Int32)) + x4) = nI j5 ∧ j5 < 1608 ∧ (((lg_cmp (hl 80 j5) (0 : Int64)) = 0 → (∃ j7 : Nat, ((((4 : Int32) * x1) + (4 : Int32)) + x4) = nI j7 ∧ j7 < 1608 ∧ (∃ j8 : Nat, (((4 : Int32) * x1) + x4) = nI j8 ∧ j8 < 1608 ∧ (((lg_cmp (hl 80 j7) (hl 80 j8)) = 0 → rx_aw 76 19 [.ref 77, .int x1, .int (x2 &&& (1 : Int32)), .int (x3 &&& (1 : Int32)), .int (x4 + (1 : Int32))] [] (rx_hp L t hi hl v) Q) ∧ (¬ ((lg_cmp (hl 80 j7) (hl 80 j8)) = 0) → rx_aw 76 19 [.ref 77, .int x1, .int (x2 &&& (1 : Int32)), .int (x3 &&& (0 : Int32)), .int (x4 + (1 : Int32))] [] (rx_hp L t hi hl v) Q))))) ∧ (¬ ((lg_cmp (hl 80 j5) (0 : Int64)) = 0) → (∃ j10 : Nat, ((((4 : Int32) * x1) + (4 : Int32)) + x4) = nI j10 ∧ j10 < 1608 ∧ (∃ j11 : Nat, (((4 : Int32) * x1) + x4) = nI j11 ∧ j11 < 1608 ∧ (((lg_cmp (hl 80 j10) (hl 80 j11)) = 0 → rx_aw 76 19 [.ref 77, .int x1, .int (x2 &&& (0 : Int32)), .int (x3 &&& (1 : Int32)), .int (x4 + (1 : Int32))] [] (rx_hp L t hi hl v) Q) ∧ (¬ ((lg_cmp (hl 80 j10) (hl 80 j11)) = 0) → rx_aw 76 19 [.ref 77, .int x1, .int (x2 &&& (0 : Int32)), .int (x3 &&& (0 : Int32)), .int (x4 + (1 : Int32))] [] (rx_hp L t hi hl v) Q)))))))))) : rx_aw 76 19 [.ref 77, .int x1, .int x2, .int x3, .int x4] [] (rx_hp L t hi hl v) Q := by
  refine rx_aw_s 3 (pc := 19) rfl ?_
  refine rx_w_if (c := (4 : Int32) ≤ x4) ⟨fun c2 => ?_, fun c2 => ?_⟩
  · have k := k.1 c2
    show rx_aw 76 93 [.ref 77, .int x1, .int x2, .int x3, .int x4] [] (rx_hp L t hi hl v) Q
    refine rx_aw_s 2 (pc := 93) rfl ?_
    refine rx_w_ifn (c := x2 = 0) ⟨fun c3 => ?_, fun c3 => ?_⟩
    · have k := k.1 c3
      show rx_aw 76 97 [.ref 77, .int x1, .int x2, .int x3, .int x4] [] (rx_hp L t hi hl v) Q
      refine rx_aw_s 2 (pc := 97) rfl ?_
      refine rx_w_if (c := x3 = 0) ⟨fun c4 => ?_, fun c4 => ?_⟩
      · have k := k.1 c4
        show rx_aw 76 105 [.ref 77, .int x1, .int x2, .int x3, .int x4] [] (rx_hp L t hi hl v) Q
        refine rx_aw_s 1 (pc := 105) rfl ?_
        show rx_aw 76 106 [.ref 77, .int x1, .int x2, .int x3, .int x4] [.int (0 : Int32)] (rx_hp L t hi hl v) Q
        exact rx_aw_ret (pc := 106) rfl k
      · have k := k.2 c4
        show rx_aw 76 101 [.ref 77, .int x1, .int x2, .int x3, .int x4] [] (rx_hp L t hi hl v) Q
        refine rx_aw_s 2 (pc := 101) rfl ?_
        show rx_aw 76 106 [.ref 77, .int x1, .int x2, .int x3, .int x4] [.int (1 : Int32)] (rx_hp L t hi hl v) Q
        exact rx_aw_ret (pc := 106) rfl k
    · have k := k.2 c3
      show rx_aw 76 101 [.ref 77, .int x1, .int x2, .int x3, .int x4] [] (rx_hp L t hi hl v) Q
      refine rx_aw_s 2 (pc := 101) rfl ?_
      show rx_aw 76 106 [.ref 77, .int x1, .int x2, .int x3, .int x4] [.int (1 : Int32)] (rx_hp L t hi hl v) Q
      exact rx_aw_ret (pc := 106) rfl k
  · have k := k.2 c2
    show rx_aw 76 25 [.ref 77, .int x1, .int x2, .int x3, .int x4] [] (rx_hp L t hi hl v) Q
    refine rx_aw_s 10 (pc := 25) rfl ?_
    show rx_aw 76 38 [.ref 77, .int x1, .int x2, .int x3, .int x4] [.int ((((4 : Int32) * x1) + (4 : Int32)) + x4), .ref 80, .int x2] (rx_hp L t hi hl v) Q
    obtain ⟨j5, ej5, hj5, k⟩ := k
    refine rx_aw_lald (pc := 38) (n := 1608) j5 ej5 rfl rfl (by decide) rfl hj5 (by decide) ?_
    show rx_aw 76 39 [.ref 77, .int x1, .int x2, .int x3, .int x4] [.long (hl 80 j5), .int x2] (rx_hp L t hi hl v) Q
    refine rx_aw_s 3 (pc := 39) rfl ?_
    refine rx_w_ifn (c := (lg_cmp (hl 80 j5) (0 : Int64)) = 0) ⟨fun c6 => ?_, fun c6 => ?_⟩
    · have k := k.1 c6
      show rx_aw 76 44 [.ref 77, .int x1, .int x2, .int x3, .int x4] [.int x2] (rx_hp L t hi hl v) Q
      refine rx_aw_s 14 (pc := 44) rfl ?_
      show rx_aw 76 64 [.ref 77, .int x1, .int (x2 &&& (1 : Int32)), .int x3, .int x4] [.int ((((4 : Int32) * x1) + (4 : Int32)) + x4), .ref 80, .int x3] (rx_hp L t hi hl v) Q
      obtain ⟨j7, ej7, hj7, k⟩ := k
      refine rx_aw_lald (pc := 64) (n := 1608) j7 ej7 rfl rfl (by decide) rfl hj7 (by decide) ?_
      show rx_aw 76 65 [.ref 77, .int x1, .int (x2 &&& (1 : Int32)), .int x3, .int x4] [.long (hl 80 j7), .int x3] (rx_hp L t hi hl v) Q
      refine rx_aw_s 7 (pc := 65) rfl ?_
      show rx_aw 76 75 [.ref 77, .int x1, .int (x2 &&& (1 : Int32)), .int x3, .int x4] [.int (((4 : Int32) * x1) + x4), .ref 80, .long (hl 80 j7), .int x3] (rx_hp L t hi hl v) Q
      obtain ⟨j8, ej8, hj8, k⟩ := k
      refine rx_aw_lald (pc := 75) (n := 1608) j8 ej8 rfl rfl (by decide) rfl hj8 (by decide) ?_
      show rx_aw 76 76 [.ref 77, .int x1, .int (x2 &&& (1 : Int32)), .int x3, .int x4] [.long (hl 80 j8), .long (hl 80 j7), .int x3] (rx_hp L t hi hl v) Q
      refine rx_aw_s 2 (pc := 76) rfl ?_
      refine rx_w_ifn (c := (lg_cmp (hl 80 j7) (hl 80 j8)) = 0) ⟨fun c9 => ?_, fun c9 => ?_⟩
      · have k := k.1 c9
        show rx_aw 76 80 [.ref 77, .int x1, .int (x2 &&& (1 : Int32)), .int x3, .int x4] [.int x3] (rx_hp L t hi hl v) Q
        refine rx_aw_s 6 (pc := 80) rfl ?_
        show rx_aw 76 19 [.ref 77, .int x1, .int (x2 &&& (1 : Int32)), .int (x3 &&& (1 : Int32)), .int (x4 + (1 : Int32))] [] (rx_hp L t hi hl v) Q
        exact k
      · have k := k.2 c9
        show rx_aw 76 84 [.ref 77, .int x1, .int (x2 &&& (1 : Int32)), .int x3, .int x4] [.int x3] (rx_hp L t hi hl v) Q
        refine rx_aw_s 5 (pc := 84) rfl ?_
        show rx_aw 76 19 [.ref 77, .int x1, .int (x2 &&& (1 : Int32)), .int (x3 &&& (0 : Int32)), .int (x4 + (1 : Int32))] [] (rx_hp L t hi hl v) Q
        exact k
    · have k := k.2 c6
      show rx_aw 76 48 [.ref 77, .int x1, .int x2, .int x3, .int x4] [.int x2] (rx_hp L t hi hl v) Q
      refine rx_aw_s 13 (pc := 48) rfl ?_
      show rx_aw 76 64 [.ref 77, .int x1, .int (x2 &&& (0 : Int32)), .int x3, .int x4] [.int ((((4 : Int32) * x1) + (4 : Int32)) + x4), .ref 80, .int x3] (rx_hp L t hi hl v) Q
      obtain ⟨j10, ej10, hj10, k⟩ := k
      refine rx_aw_lald (pc := 64) (n := 1608) j10 ej10 rfl rfl (by decide) rfl hj10 (by decide) ?_
      show rx_aw 76 65 [.ref 77, .int x1, .int (x2 &&& (0 : Int32)), .int x3, .int x4] [.long (hl 80 j10), .int x3] (rx_hp L t hi hl v) Q
      refine rx_aw_s 7 (pc := 65) rfl ?_
      show rx_aw 76 75 [.ref 77, .int x1, .int (x2 &&& (0 : Int32)), .int x3, .int x4] [.int (((4 : Int32) * x1) + x4), .ref 80, .long (hl 80 j10), .int x3] (rx_hp L t hi hl v) Q
      obtain ⟨j11, ej11, hj11, k⟩ := k
      refine rx_aw_lald (pc := 75) (n := 1608) j11 ej11 rfl rfl (by decide) rfl hj11 (by decide) ?_
      show rx_aw 76 76 [.ref 77, .int x1, .int (x2 &&& (0 : Int32)), .int x3, .int x4] [.long (hl 80 j11), .long (hl 80 j10), .int x3] (rx_hp L t hi hl v) Q
      refine rx_aw_s 2 (pc := 76) rfl ?_
      refine rx_w_ifn (c := (lg_cmp (hl 80 j10) (hl 80 j11)) = 0) ⟨fun c12 => ?_, fun c12 => ?_⟩
      · have k := k.1 c12
        show rx_aw 76 80 [.ref 77, .int x1, .int (x2 &&& (0 : Int32)), .int x3, .int x4] [.int x3] (rx_hp L t hi hl v) Q
        refine rx_aw_s 6 (pc := 80) rfl ?_
        show rx_aw 76 19 [.ref 77, .int x1, .int (x2 &&& (0 : Int32)), .int (x3 &&& (1 : Int32)), .int (x4 + (1 : Int32))] [] (rx_hp L t hi hl v) Q
        exact k
      · have k := k.2 c12
        show rx_aw 76 84 [.ref 77, .int x1, .int (x2 &&& (0 : Int32)), .int x3, .int x4] [.int x3] (rx_hp L t hi hl v) Q
        refine rx_aw_s 5 (pc := 84) rfl ?_
        show rx_aw 76 19 [.ref 77, .int x1, .int (x2 &&& (0 : Int32)), .int (x3 &&& (0 : Int32)), .int (x4 + (1 : Int32))] [] (rx_hp L t hi hl v) Q
        exact k
set_option maxRecDepth 100000 in
/-- CartFloor$Search.narrow(I)V -/
theorem w77_narrow {L : Nat} {t : List (Nat × Nat)} {hi : Nat → Nat → Int32} {hl : Nat → Nat → Int64} {v : Nat → Nat → Option Nat} {Q : Option Value → rx_H → Prop} {a0 : Int32} (k : (∃ j1 : Nat, (((4 : Int32) * a0) + (4 : Int32)) = nI j1 ∧ j1 < 1608 ∧ (∃ j2 : Nat, (((4 : Int32) * a0) + (5 : Int32)) = nI j2 ∧ j2 < 1608 ∧ (∃ j3 : Nat, (((4 : Int32) * a0) + (6 : Int32)) = nI j3 ∧ j3 < 1608 ∧ (∃ j4 : Nat, (((4 : Int32) * a0) + (7 : Int32)) = nI j4 ∧ j4 < 1608 ∧ rx_me 78 [.ref 7, .long ((((hl 80 j1) ||| (hl 80 j2)) ||| (hl 80 j3)) ||| (hl 80 j4))] (rx_hp L t hi hl v) (fun r h2 => ∃ z5 : Int64, r = some (.long z5) ∧ rx_ok2 L t h2 (fun hi5 hl5 v5 => (((v5 77 8) = none ∧ False) ∨ (∃ q6 : Nat, q6 < 6 ∧ (v5 77 8) = some (rx_ct q6) ∧ (((hi5 (rx_ct q6) 5) < (2 : Int32) → rx_me 74 [.ref 77, .int a0] (rx_hp L t hi5 hl5 v5) (fun r h2 => r = none ∧ rx_ok2 L t h2 (fun hi8 hl8 v8 => rx_aw 77 77 [.ref 77, .int a0, .int ((4 : Int32) * a0), .long z5, rx_no, .int (0 : Int32), rx_no, rx_no, rx_no, rx_no, rx_no, rx_no, rx_no] [] (rx_hp L t hi8 hl8 v8) Q))) ∧ (¬ ((hi5 (rx_ct q6) 5) < (2 : Int32)) → rx_me 78 [.ref 7, .long z5] (rx_hp L t hi5 hl5 v5) (fun r h2 => ∃ z9 : Int64, r = some (.long z9) ∧ rx_ok2 L t h2 (fun hi9 hl9 v9 => rx_me 74 [.ref 77, .int a0] (rx_hp L t hi9 hl9 v9) (fun r h2 => r = none ∧ rx_ok2 L t h2 (fun hi10 hl10 v10 => rx_aw 77 77 [.ref 77, .int a0, .int ((4 : Int32) * a0), .long z9, rx_no, .int (0 : Int32), rx_no, rx_no, rx_no, rx_no, rx_no, rx_no, rx_no] [] (rx_hp L t hi10 hl10 v10) Q))))))))))))))) : rx_me 77 [.ref 77, .int a0] (rx_hp L t hi hl v) Q := by
  show rx_aw 77 0 [.ref 77, .int a0, rx_no, rx_no, rx_no, rx_no, rx_no, rx_no, rx_no, rx_no, rx_no, rx_no, rx_no] [] (rx_hp L t hi hl v) Q
  refine rx_aw_s 11 (pc := 0) rfl ?_
  show rx_aw 77 15 [.ref 77, .int a0, .int ((4 : Int32) * a0), rx_no, rx_no, rx_no, rx_no, rx_no, rx_no, rx_no, rx_no, rx_no, rx_no] [.int (((4 : Int32) * a0) + (4 : Int32)), .ref 80, .ref 7] (rx_hp L t hi hl v) Q
  obtain ⟨j1, ej1, hj1, k⟩ := k
  refine rx_aw_lald (pc := 15) (n := 1608) j1 ej1 rfl rfl (by decide) rfl hj1 (by decide) ?_
  show rx_aw 77 16 [.ref 77, .int a0, .int ((4 : Int32) * a0), rx_no, rx_no, rx_no, rx_no, rx_no, rx_no, rx_no, rx_no, rx_no, rx_no] [.long (hl 80 j1), .ref 7] (rx_hp L t hi hl v) Q
  refine rx_aw_s 5 (pc := 16) rfl ?_
  show rx_aw 77 23 [.ref 77, .int a0, .int ((4 : Int32) * a0), rx_no, rx_no, rx_no, rx_no, rx_no, rx_no, rx_no, rx_no, rx_no, rx_no] [.int (((4 : Int32) * a0) + (5 : Int32)), .ref 80, .long (hl 80 j1), .ref 7] (rx_hp L t hi hl v) Q
  obtain ⟨j2, ej2, hj2, k⟩ := k
  refine rx_aw_lald (pc := 23) (n := 1608) j2 ej2 rfl rfl (by decide) rfl hj2 (by decide) ?_
  show rx_aw 77 24 [.ref 77, .int a0, .int ((4 : Int32) * a0), rx_no, rx_no, rx_no, rx_no, rx_no, rx_no, rx_no, rx_no, rx_no, rx_no] [.long (hl 80 j2), .long (hl 80 j1), .ref 7] (rx_hp L t hi hl v) Q
  refine rx_aw_s 6 (pc := 24) rfl ?_
  show rx_aw 77 33 [.ref 77, .int a0, .int ((4 : Int32) * a0), rx_no, rx_no, rx_no, rx_no, rx_no, rx_no, rx_no, rx_no, rx_no, rx_no] [.int (((4 : Int32) * a0) + (6 : Int32)), .ref 80, .long ((hl 80 j1) ||| (hl 80 j2)), .ref 7] (rx_hp L t hi hl v) Q
  obtain ⟨j3, ej3, hj3, k⟩ := k
  refine rx_aw_lald (pc := 33) (n := 1608) j3 ej3 rfl rfl (by decide) rfl hj3 (by decide) ?_
  show rx_aw 77 34 [.ref 77, .int a0, .int ((4 : Int32) * a0), rx_no, rx_no, rx_no, rx_no, rx_no, rx_no, rx_no, rx_no, rx_no, rx_no] [.long (hl 80 j3), .long ((hl 80 j1) ||| (hl 80 j2)), .ref 7] (rx_hp L t hi hl v) Q
  refine rx_aw_s 6 (pc := 34) rfl ?_
  show rx_aw 77 43 [.ref 77, .int a0, .int ((4 : Int32) * a0), rx_no, rx_no, rx_no, rx_no, rx_no, rx_no, rx_no, rx_no, rx_no, rx_no] [.int (((4 : Int32) * a0) + (7 : Int32)), .ref 80, .long (((hl 80 j1) ||| (hl 80 j2)) ||| (hl 80 j3)), .ref 7] (rx_hp L t hi hl v) Q
  obtain ⟨j4, ej4, hj4, k⟩ := k
  refine rx_aw_lald (pc := 43) (n := 1608) j4 ej4 rfl rfl (by decide) rfl hj4 (by decide) ?_
  show rx_aw 77 44 [.ref 77, .int a0, .int ((4 : Int32) * a0), rx_no, rx_no, rx_no, rx_no, rx_no, rx_no, rx_no, rx_no, rx_no, rx_no] [.long (hl 80 j4), .long (((hl 80 j1) ||| (hl 80 j2)) ||| (hl 80 j3)), .ref 7] (rx_hp L t hi hl v) Q
  refine rx_aw_s 1 (pc := 44) rfl ?_
  show rx_aw 77 45 [.ref 77, .int a0, .int ((4 : Int32) * a0), rx_no, rx_no, rx_no, rx_no, rx_no, rx_no, rx_no, rx_no, rx_no, rx_no] [.long ((((hl 80 j1) ||| (hl 80 j2)) ||| (hl 80 j3)) ||| (hl 80 j4)), .ref 7] (rx_hp L t hi hl v) Q
  refine rx_w_callL (j := 78) (pc := 45) rfl rfl rfl rfl rfl ?_
  refine rx_aw.mono k (fun r h2 k => ?_)
  obtain ⟨z5, rfl, hi5, hl5, v5, rfl, k⟩ := k
  refine ⟨z5, rfl, ?_⟩
  show rx_aw 77 48 [.ref 77, .int a0, .int ((4 : Int32) * a0), rx_no, rx_no, rx_no, rx_no, rx_no, rx_no, rx_no, rx_no, rx_no, rx_no] [.long z5] (rx_hp L t hi5 hl5 v5) Q
  refine rx_aw_s 3 (pc := 48) rfl ?_
  show rx_aw 77 53 [.ref 77, .int a0, .int ((4 : Int32) * a0), .long z5, rx_no, rx_no, rx_no, rx_no, rx_no, rx_no, rx_no, rx_no, rx_no] [va_rf (v5 77 8)] (rx_hp L t hi5 hl5 v5) Q
  rcases k with ⟨eq6, k⟩ | ⟨q6, hq6, eq6, k⟩
  · rw [eq6]
    show rx_aw 77 53 [.ref 77, .int a0, .int ((4 : Int32) * a0), .long z5, rx_no, rx_no, rx_no, rx_no, rx_no, rx_no, rx_no, rx_no, rx_no] [.null] (rx_hp L t hi5 hl5 v5) Q
    exact k.elim
  · rw [eq6]
    show rx_aw 77 53 [.ref 77, .int a0, .int ((4 : Int32) * a0), .long z5, rx_no, rx_no, rx_no, rx_no, rx_no, rx_no, rx_no, rx_no, rx_no] [.ref (rx_ct q6)] (rx_hp L t hi5 hl5 v5) Q
    refine rx_w_cg hq6 (pc := 53) rfl (by decide) (by decide) ?_
    show rx_aw 77 56 [.ref 77, .int a0, .int ((4 : Int32) * a0), .long z5, rx_no, rx_no, rx_no, rx_no, rx_no, rx_no, rx_no, rx_no, rx_no] [.int (hi5 (rx_ct q6) 5)] (rx_hp L t hi5 hl5 v5) Q
    refine rx_aw_s 2 (pc := 56) rfl ?_
    refine rx_w_if (c := (hi5 (rx_ct q6) 5) < (2 : Int32)) ⟨fun c7 => ?_, fun c7 => ?_⟩
    · have k := k.1 c7
      show rx_aw 77 69 [.ref 77, .int a0, .int ((4 : Int32) * a0), .long z5, rx_no, rx_no, rx_no, rx_no, rx_no, rx_no, rx_no, rx_no, rx_no] [] (rx_hp L t hi5 hl5 v5) Q
      refine rx_aw_s 2 (pc := 69) rfl ?_
      show rx_aw 77 71 [.ref 77, .int a0, .int ((4 : Int32) * a0), .long z5, rx_no, rx_no, rx_no, rx_no, rx_no, rx_no, rx_no, rx_no, rx_no] [.int a0, .ref 77] (rx_hp L t hi5 hl5 v5) Q
      refine rx_w_callV (j := 74) (pc := 71) rfl rfl rfl rfl rfl ?_
      refine rx_aw.mono k (fun r h2 k => ?_)
      obtain ⟨rfl, hi8, hl8, v8, rfl, k⟩ := k
      refine ⟨rfl, ?_⟩
      show rx_aw 77 74 [.ref 77, .int a0, .int ((4 : Int32) * a0), .long z5, rx_no, rx_no, rx_no, rx_no, rx_no, rx_no, rx_no, rx_no, rx_no] [] (rx_hp L t hi8 hl8 v8) Q
      refine rx_aw_s 2 (pc := 74) rfl ?_
      show rx_aw 77 77 [.ref 77, .int a0, .int ((4 : Int32) * a0), .long z5, rx_no, .int (0 : Int32), rx_no, rx_no, rx_no, rx_no, rx_no, rx_no, rx_no] [] (rx_hp L t hi8 hl8 v8) Q
      exact k
    · have k := k.2 c7
      show rx_aw 77 60 [.ref 77, .int a0, .int ((4 : Int32) * a0), .long z5, rx_no, rx_no, rx_no, rx_no, rx_no, rx_no, rx_no, rx_no, rx_no] [] (rx_hp L t hi5 hl5 v5) Q
      refine rx_aw_s 3 (pc := 60) rfl ?_
      show rx_aw 77 65 [.ref 77, .int a0, .int ((4 : Int32) * a0), .long z5, rx_no, rx_no, rx_no, rx_no, rx_no, rx_no, rx_no, rx_no, rx_no] [.long z5, .ref 7] (rx_hp L t hi5 hl5 v5) Q
      refine rx_w_callL (j := 78) (pc := 65) rfl rfl rfl rfl rfl ?_
      refine rx_aw.mono k (fun r h2 k => ?_)
      obtain ⟨z9, rfl, hi9, hl9, v9, rfl, k⟩ := k
      refine ⟨z9, rfl, ?_⟩
      show rx_aw 77 68 [.ref 77, .int a0, .int ((4 : Int32) * a0), .long z5, rx_no, rx_no, rx_no, rx_no, rx_no, rx_no, rx_no, rx_no, rx_no] [.long z9] (rx_hp L t hi9 hl9 v9) Q
      refine rx_aw_s 3 (pc := 68) rfl ?_
      show rx_aw 77 71 [.ref 77, .int a0, .int ((4 : Int32) * a0), .long z9, rx_no, rx_no, rx_no, rx_no, rx_no, rx_no, rx_no, rx_no, rx_no] [.int a0, .ref 77] (rx_hp L t hi9 hl9 v9) Q
      refine rx_w_callV (j := 74) (pc := 71) rfl rfl rfl rfl rfl ?_
      refine rx_aw.mono k (fun r h2 k => ?_)
      obtain ⟨rfl, hi10, hl10, v10, rfl, k⟩ := k
      refine ⟨rfl, ?_⟩
      show rx_aw 77 74 [.ref 77, .int a0, .int ((4 : Int32) * a0), .long z9, rx_no, rx_no, rx_no, rx_no, rx_no, rx_no, rx_no, rx_no, rx_no] [] (rx_hp L t hi10 hl10 v10) Q
      refine rx_aw_s 2 (pc := 74) rfl ?_
      show rx_aw 77 77 [.ref 77, .int a0, .int ((4 : Int32) * a0), .long z9, rx_no, .int (0 : Int32), rx_no, rx_no, rx_no, rx_no, rx_no, rx_no, rx_no] [] (rx_hp L t hi10 hl10 v10) Q
      exact k
set_option maxRecDepth 100000 in
theorem w77_narrow_77 {L : Nat} {t : List (Nat × Nat)} {hi : Nat → Nat → Int32} {hl : Nat → Nat → Int64} {v : Nat → Nat → Option Nat} {Q : Option Value → rx_H → Prop} {x1 : Int32} {x2 : Int32} {x3 : Int64} {x5 : Int32} (k : (((4 : Int32) ≤ x5 → Q none (rx_hp L t hi hl v)) ∧ (¬ ((4 : Int32) ≤ x5) → (∃ j12 : Nat, (x2 + x5) = nI j12 ∧ j12 < 1608 ∧ rx_aw 77 102 [.ref 77, .int x1, .int x2, .long x3, rx_no, .int x5, .long ((hl 80 j12) &&& x3), rx_no, .long (0 : Int64), rx_no, .int (0 : Int32), rx_no, rx_no] [] (rx_hp L t hi hl v) Q)))) : rx_aw 77 77 [.ref 77, .int x1, .int x2, .long x3, rx_no, .int x5, rx_no, rx_no, rx_no, rx_no, rx_no, rx_no, rx_no] [] (rx_hp L t hi hl v) Q := by
  refine rx_aw_s 3 (pc := 77) rfl ?_
  refine rx_w_if (c := (4 : Int32) ≤ x5) ⟨fun c11 => ?_, fun c11 => ?_⟩
  · have k := k.1 c11
    show rx_aw 77 182 [.ref 77, .int x1, .int x2, .long x3, rx_no, .int x5, rx_no, rx_no, rx_no, rx_no, rx_no, rx_no, rx_no] [] (rx_hp L t hi hl v) Q
    exact rx_aw_ret (pc := 182) rfl k
  · have k := k.2 c11
    show rx_aw 77 83 [.ref 77, .int x1, .int x2, .long x3, rx_no, .int x5, rx_no, rx_no, rx_no, rx_no, rx_no, rx_no, rx_no] [] (rx_hp L t hi hl v) Q
    refine rx_aw_s 5 (pc := 83) rfl ?_
    show rx_aw 77 91 [.ref 77, .int x1, .int x2, .long x3, rx_no, .int x5, rx_no, rx_no, rx_no, rx_no, rx_no, rx_no, rx_no] [.int (x2 + x5), .ref 80] (rx_hp L t hi hl v) Q
    obtain ⟨j12, ej12, hj12, k⟩ := k
    refine rx_aw_lald (pc := 91) (n := 1608) j12 ej12 rfl rfl (by decide) rfl hj12 (by decide) ?_
    show rx_aw 77 92 [.ref 77, .int x1, .int x2, .long x3, rx_no, .int x5, rx_no, rx_no, rx_no, rx_no, rx_no, rx_no, rx_no] [.long (hl 80 j12)] (rx_hp L t hi hl v) Q
    refine rx_aw_s 7 (pc := 92) rfl ?_
    show rx_aw 77 102 [.ref 77, .int x1, .int x2, .long x3, rx_no, .int x5, .long ((hl 80 j12) &&& x3), rx_no, .long (0 : Int64), rx_no, .int (0 : Int32), rx_no, rx_no] [] (rx_hp L t hi hl v) Q
    exact k
set_option maxRecDepth 100000 in
theorem w77_narrow_102 {L : Nat} {t : List (Nat × Nat)} {hi : Nat → Nat → Int32} {hl : Nat → Nat → Int64} {v : Nat → Nat → Option Nat} {Q : Option Value → rx_H → Prop} {x1 : Int32} {x2 : Int32} {x3 : Int64} {x5 : Int32} {x6 : Int64} {x8 : Int64} {x10 : Int32} (k : (((64 : Int32) ≤ x10 → (∃ j14 : Nat, (x2 + x5) = nI j14 ∧ j14 < 1608 ∧ rx_aw 77 77 [.ref 77, .int x1, .int x2, .long x3, rx_no, .int (x5 + (1 : Int32)), rx_no, rx_no, rx_no, rx_no, rx_no, rx_no, rx_no] [] (rx_hp L t hi (rx_u hl 80 j14 x8) v) Q)) ∧ (¬ ((64 : Int32) ≤ x10) → (((lg_cmp x6 (0 : Int64)) = 0 → (∃ j16 : Nat, (x2 + x5) = nI j16 ∧ j16 < 1608 ∧ rx_aw 77 77 [.ref 77, .int x1, .int x2, .long x3, rx_no, .int (x5 + (1 : Int32)), rx_no, rx_no, rx_no, rx_no, rx_no, rx_no, rx_no] [] (rx_hp L t hi (rx_u hl 80 j16 x8) v) Q)) ∧ (¬ ((lg_cmp x6 (0 : Int64)) = 0) → rx_me 13 [.long ((x6 &&& (-x6)) - (1 : Int64))] (rx_hp L t hi hl v) (fun r h2 => ∃ z17 : Int32, r = some (.int z17) ∧ rx_ok2 L t h2 (fun hi17 hl17 v17 => rx_me 79 [.ref 77, .int x1, .int ((x5 <<< ((6 : Int32) &&& 31)) ||| z17)] (rx_hp L t hi17 hl17 v17) (fun r h2 => ∃ z18 : Int32, r = some (.int z18) ∧ rx_ok2 L t h2 (fun hi18 hl18 v18 => ((z18 = 0 → rx_aw 77 102 [.ref 77, .int x1, .int x2, .long x3, rx_no, .int x5, .long (x6 ^^^ (x6 &&& (-x6))), rx_no, .long x8, rx_no, .int (x10 + (1 : Int32)), rx_no, rx_no] [] (rx_hp L t hi18 hl18 v18) Q) ∧ (¬ (z18 = 0) → rx_aw 77 102 [.ref 77, .int x1, .int x2, .long x3, rx_no, .int x5, .long (x6 ^^^ (x6 &&& (-x6))), rx_no, .long (x8 ||| (x6 &&& (-x6))), rx_no, .int (x10 + (1 : Int32)), rx_no, rx_no] [] (rx_hp L t hi18 hl18 v18) Q))))))))))) : rx_aw 77 102 [.ref 77, .int x1, .int x2, .long x3, rx_no, .int x5, .long x6, rx_no, .long x8, rx_no, .int x10, rx_no, rx_no] [] (rx_hp L t hi hl v) Q := by
  refine rx_aw_s 3 (pc := 102) rfl ?_
  refine rx_w_if (c := (64 : Int32) ≤ x10) ⟨fun c13 => ?_, fun c13 => ?_⟩
  · have k := k.1 c13
    show rx_aw 77 165 [.ref 77, .int x1, .int x2, .long x3, rx_no, .int x5, .long x6, rx_no, .long x8, rx_no, .int x10, rx_no, rx_no] [] (rx_hp L t hi hl v) Q
    refine rx_aw_s 6 (pc := 165) rfl ?_
    show rx_aw 77 175 [.ref 77, .int x1, .int x2, .long x3, rx_no, .int x5, .long x6, rx_no, .long x8, rx_no, .int x10, rx_no, rx_no] [.long x8, .int (x2 + x5), .ref 80] (rx_hp L t hi hl v) Q
    obtain ⟨j14, ej14, hj14, k⟩ := k
    refine rx_aw_last (pc := 175) (n := 1608) j14 ej14 rfl rfl (by decide) rfl hj14 (by decide) ?_
    show rx_aw 77 176 [.ref 77, .int x1, .int x2, .long x3, rx_no, .int x5, .long x6, rx_no, .long x8, rx_no, .int x10, rx_no, rx_no] [] (rx_hp L t hi (rx_u hl 80 j14 x8) v) Q
    refine rx_aw_s 2 (pc := 176) rfl ?_
    show rx_aw 77 77 [.ref 77, .int x1, .int x2, .long x3, rx_no, .int (x5 + (1 : Int32)), .long x6, rx_no, .long x8, rx_no, .int x10, rx_no, rx_no] [] (rx_hp L t hi (rx_u hl 80 j14 x8) v) Q
    exact rx_aw_le (ls := [.ref 77, .int x1, .int x2, .long x3, rx_no, .int (x5 + (1 : Int32)), rx_no, rx_no, rx_no, rx_no, rx_no, rx_no, rx_no]) ⟨Or.inr rfl, ⟨Or.inr rfl, ⟨Or.inr rfl, ⟨Or.inr rfl, ⟨Or.inl rfl, ⟨Or.inr rfl, ⟨Or.inl rfl, ⟨Or.inl rfl, ⟨Or.inl rfl, ⟨Or.inl rfl, ⟨Or.inl rfl, ⟨Or.inl rfl, ⟨Or.inl rfl, trivial⟩⟩⟩⟩⟩⟩⟩⟩⟩⟩⟩⟩⟩ k
  · have k := k.2 c13
    show rx_aw 77 109 [.ref 77, .int x1, .int x2, .long x3, rx_no, .int x5, .long x6, rx_no, .long x8, rx_no, .int x10, rx_no, rx_no] [] (rx_hp L t hi hl v) Q
    refine rx_aw_s 4 (pc := 109) rfl ?_
    refine rx_w_if (c := (lg_cmp x6 (0 : Int64)) = 0) ⟨fun c15 => ?_, fun c15 => ?_⟩
    · have k := k.1 c15
      show rx_aw 77 165 [.ref 77, .int x1, .int x2, .long x3, rx_no, .int x5, .long x6, rx_no, .long x8, rx_no, .int x10, rx_no, rx_no] [] (rx_hp L t hi hl v) Q
      refine rx_aw_s 6 (pc := 165) rfl ?_
      show rx_aw 77 175 [.ref 77, .int x1, .int x2, .long x3, rx_no, .int x5, .long x6, rx_no, .long x8, rx_no, .int x10, rx_no, rx_no] [.long x8, .int (x2 + x5), .ref 80] (rx_hp L t hi hl v) Q
      obtain ⟨j16, ej16, hj16, k⟩ := k
      refine rx_aw_last (pc := 175) (n := 1608) j16 ej16 rfl rfl (by decide) rfl hj16 (by decide) ?_
      show rx_aw 77 176 [.ref 77, .int x1, .int x2, .long x3, rx_no, .int x5, .long x6, rx_no, .long x8, rx_no, .int x10, rx_no, rx_no] [] (rx_hp L t hi (rx_u hl 80 j16 x8) v) Q
      refine rx_aw_s 2 (pc := 176) rfl ?_
      show rx_aw 77 77 [.ref 77, .int x1, .int x2, .long x3, rx_no, .int (x5 + (1 : Int32)), .long x6, rx_no, .long x8, rx_no, .int x10, rx_no, rx_no] [] (rx_hp L t hi (rx_u hl 80 j16 x8) v) Q
      exact rx_aw_le (ls := [.ref 77, .int x1, .int x2, .long x3, rx_no, .int (x5 + (1 : Int32)), rx_no, rx_no, rx_no, rx_no, rx_no, rx_no, rx_no]) ⟨Or.inr rfl, ⟨Or.inr rfl, ⟨Or.inr rfl, ⟨Or.inr rfl, ⟨Or.inl rfl, ⟨Or.inr rfl, ⟨Or.inl rfl, ⟨Or.inl rfl, ⟨Or.inl rfl, ⟨Or.inl rfl, ⟨Or.inl rfl, ⟨Or.inl rfl, ⟨Or.inl rfl, trivial⟩⟩⟩⟩⟩⟩⟩⟩⟩⟩⟩⟩⟩ k
    · have k := k.2 c15
      show rx_aw 77 116 [.ref 77, .int x1, .int x2, .long x3, rx_no, .int x5, .long x6, rx_no, .long x8, rx_no, .int x10, rx_no, rx_no] [] (rx_hp L t hi hl v) Q
      refine rx_aw_s 17 (pc := 116) rfl ?_
      show rx_aw 77 142 [.ref 77, .int x1, .int x2, .long x3, rx_no, .int x5, .long (x6 ^^^ (x6 &&& (-x6))), rx_no, .long x8, rx_no, .int x10, .long (x6 &&& (-x6)), rx_no] [.long ((x6 &&& (-x6)) - (1 : Int64)), .int (x5 <<< ((6 : Int32) &&& 31)), .int x1, .ref 77] (rx_hp L t hi hl v) Q
      refine rx_w_callI (j := 13) (pc := 142) rfl rfl rfl rfl rfl ?_
      refine rx_aw.mono k (fun r h2 k => ?_)
      obtain ⟨z17, rfl, hi17, hl17, v17, rfl, k⟩ := k
      refine ⟨z17, rfl, ?_⟩
      show rx_aw 77 145 [.ref 77, .int x1, .int x2, .long x3, rx_no, .int x5, .long (x6 ^^^ (x6 &&& (-x6))), rx_no, .long x8, rx_no, .int x10, .long (x6 &&& (-x6)), rx_no] [.int z17, .int (x5 <<< ((6 : Int32) &&& 31)), .int x1, .ref 77] (rx_hp L t hi17 hl17 v17) Q
      refine rx_aw_s 1 (pc := 145) rfl ?_
      show rx_aw 77 146 [.ref 77, .int x1, .int x2, .long x3, rx_no, .int x5, .long (x6 ^^^ (x6 &&& (-x6))), rx_no, .long x8, rx_no, .int x10, .long (x6 &&& (-x6)), rx_no] [.int ((x5 <<< ((6 : Int32) &&& 31)) ||| z17), .int x1, .ref 77] (rx_hp L t hi17 hl17 v17) Q
      refine rx_w_callI (j := 79) (pc := 146) rfl rfl rfl rfl rfl ?_
      refine rx_aw.mono k (fun r h2 k => ?_)
      obtain ⟨z18, rfl, hi18, hl18, v18, rfl, k⟩ := k
      refine ⟨z18, rfl, ?_⟩
      show rx_aw 77 149 [.ref 77, .int x1, .int x2, .long x3, rx_no, .int x5, .long (x6 ^^^ (x6 &&& (-x6))), rx_no, .long x8, rx_no, .int x10, .long (x6 &&& (-x6)), rx_no] [.int z18] (rx_hp L t hi18 hl18 v18) Q
      refine rx_aw_s 1 (pc := 149) rfl ?_
      refine rx_w_if (c := z18 = 0) ⟨fun c19 => ?_, fun c19 => ?_⟩
      · have k := k.1 c19
        show rx_aw 77 159 [.ref 77, .int x1, .int x2, .long x3, rx_no, .int x5, .long (x6 ^^^ (x6 &&& (-x6))), rx_no, .long x8, rx_no, .int x10, .long (x6 &&& (-x6)), rx_no] [] (rx_hp L t hi18 hl18 v18) Q
        refine rx_aw_s 2 (pc := 159) rfl ?_
        show rx_aw 77 102 [.ref 77, .int x1, .int x2, .long x3, rx_no, .int x5, .long (x6 ^^^ (x6 &&& (-x6))), rx_no, .long x8, rx_no, .int (x10 + (1 : Int32)), .long (x6 &&& (-x6)), rx_no] [] (rx_hp L t hi18 hl18 v18) Q
        exact rx_aw_le (ls := [.ref 77, .int x1, .int x2, .long x3, rx_no, .int x5, .long (x6 ^^^ (x6 &&& (-x6))), rx_no, .long x8, rx_no, .int (x10 + (1 : Int32)), rx_no, rx_no]) ⟨Or.inr rfl, ⟨Or.inr rfl, ⟨Or.inr rfl, ⟨Or.inr rfl, ⟨Or.inl rfl, ⟨Or.inr rfl, ⟨Or.inr rfl, ⟨Or.inl rfl, ⟨Or.inr rfl, ⟨Or.inl rfl, ⟨Or.inr rfl, ⟨Or.inl rfl, ⟨Or.inl rfl, trivial⟩⟩⟩⟩⟩⟩⟩⟩⟩⟩⟩⟩⟩ k
      · have k := k.2 c19
        show rx_aw 77 152 [.ref 77, .int x1, .int x2, .long x3, rx_no, .int x5, .long (x6 ^^^ (x6 &&& (-x6))), rx_no, .long x8, rx_no, .int x10, .long (x6 &&& (-x6)), rx_no] [] (rx_hp L t hi18 hl18 v18) Q
        refine rx_aw_s 6 (pc := 152) rfl ?_
        show rx_aw 77 102 [.ref 77, .int x1, .int x2, .long x3, rx_no, .int x5, .long (x6 ^^^ (x6 &&& (-x6))), rx_no, .long (x8 ||| (x6 &&& (-x6))), rx_no, .int (x10 + (1 : Int32)), .long (x6 &&& (-x6)), rx_no] [] (rx_hp L t hi18 hl18 v18) Q
        exact rx_aw_le (ls := [.ref 77, .int x1, .int x2, .long x3, rx_no, .int x5, .long (x6 ^^^ (x6 &&& (-x6))), rx_no, .long (x8 ||| (x6 &&& (-x6))), rx_no, .int (x10 + (1 : Int32)), rx_no, rx_no]) ⟨Or.inr rfl, ⟨Or.inr rfl, ⟨Or.inr rfl, ⟨Or.inr rfl, ⟨Or.inl rfl, ⟨Or.inr rfl, ⟨Or.inr rfl, ⟨Or.inl rfl, ⟨Or.inr rfl, ⟨Or.inl rfl, ⟨Or.inr rfl, ⟨Or.inl rfl, ⟨Or.inl rfl, trivial⟩⟩⟩⟩⟩⟩⟩⟩⟩⟩⟩⟩⟩ k
set_option maxRecDepth 100000 in
/-- CartFloor$Floor.spread(J)J -/
theorem w78_spread {L : Nat} {t : List (Nat × Nat)} {hi : Nat → Nat → Int32} {hl : Nat → Nat → Int64} {v : Nat → Nat → Option Nat} {Q : Option Value → rx_H → Prop} {a0 : Int64} (k : rx_me 12 [.ref 7, .long a0, .int (0 : Int32)] (rx_hp L t hi hl v) (fun r h2 => ∃ z1 : Int64, r = some (.long z1) ∧ rx_ok2 L t h2 (fun hi1 hl1 v1 => rx_me 12 [.ref 7, .long a0, .int (1 : Int32)] (rx_hp L t hi1 hl1 v1) (fun r h2 => ∃ z2 : Int64, r = some (.long z2) ∧ rx_ok2 L t h2 (fun hi2 hl2 v2 => rx_me 12 [.ref 7, .long a0, .int (2 : Int32)] (rx_hp L t hi2 hl2 v2) (fun r h2 => ∃ z3 : Int64, r = some (.long z3) ∧ rx_ok2 L t h2 (fun hi3 hl3 v3 => rx_me 12 [.ref 7, .long a0, .int (3 : Int32)] (rx_hp L t hi3 hl3 v3) (fun r h2 => ∃ z4 : Int64, r = some (.long z4) ∧ rx_ok2 L t h2 (fun hi4 hl4 v4 => Q (some (.long ((((a0 ||| z1) ||| z2) ||| z3) ||| z4))) (rx_hp L t hi4 hl4 v4)))))))))) : rx_me 78 [.ref 7, .long a0] (rx_hp L t hi hl v) Q := by
  show rx_aw 78 0 [.ref 7, .long a0, rx_no] [] (rx_hp L t hi hl v) Q
  refine rx_aw_s 4 (pc := 0) rfl ?_
  show rx_aw 78 4 [.ref 7, .long a0, rx_no] [.int (0 : Int32), .long a0, .ref 7, .long a0] (rx_hp L t hi hl v) Q
  refine rx_w_callL (j := 12) (pc := 4) rfl rfl rfl rfl rfl ?_
  refine rx_aw.mono k (fun r h2 k => ?_)
  obtain ⟨z1, rfl, hi1, hl1, v1, rfl, k⟩ := k
  refine ⟨z1, rfl, ?_⟩
  show rx_aw 78 7 [.ref 7, .long a0, rx_no] [.long z1, .long a0] (rx_hp L t hi1 hl1 v1) Q
  refine rx_aw_s 4 (pc := 7) rfl ?_
  show rx_aw 78 11 [.ref 7, .long a0, rx_no] [.int (1 : Int32), .long a0, .ref 7, .long (a0 ||| z1)] (rx_hp L t hi1 hl1 v1) Q
  refine rx_w_callL (j := 12) (pc := 11) rfl rfl rfl rfl rfl ?_
  refine rx_aw.mono k (fun r h2 k => ?_)
  obtain ⟨z2, rfl, hi2, hl2, v2, rfl, k⟩ := k
  refine ⟨z2, rfl, ?_⟩
  show rx_aw 78 14 [.ref 7, .long a0, rx_no] [.long z2, .long (a0 ||| z1)] (rx_hp L t hi2 hl2 v2) Q
  refine rx_aw_s 4 (pc := 14) rfl ?_
  show rx_aw 78 18 [.ref 7, .long a0, rx_no] [.int (2 : Int32), .long a0, .ref 7, .long ((a0 ||| z1) ||| z2)] (rx_hp L t hi2 hl2 v2) Q
  refine rx_w_callL (j := 12) (pc := 18) rfl rfl rfl rfl rfl ?_
  refine rx_aw.mono k (fun r h2 k => ?_)
  obtain ⟨z3, rfl, hi3, hl3, v3, rfl, k⟩ := k
  refine ⟨z3, rfl, ?_⟩
  show rx_aw 78 21 [.ref 7, .long a0, rx_no] [.long z3, .long ((a0 ||| z1) ||| z2)] (rx_hp L t hi3 hl3 v3) Q
  refine rx_aw_s 4 (pc := 21) rfl ?_
  show rx_aw 78 25 [.ref 7, .long a0, rx_no] [.int (3 : Int32), .long a0, .ref 7, .long (((a0 ||| z1) ||| z2) ||| z3)] (rx_hp L t hi3 hl3 v3) Q
  refine rx_w_callL (j := 12) (pc := 25) rfl rfl rfl rfl rfl ?_
  refine rx_aw.mono k (fun r h2 k => ?_)
  obtain ⟨z4, rfl, hi4, hl4, v4, rfl, k⟩ := k
  refine ⟨z4, rfl, ?_⟩
  show rx_aw 78 28 [.ref 7, .long a0, rx_no] [.long z4, .long (((a0 ||| z1) ||| z2) ||| z3)] (rx_hp L t hi4 hl4 v4) Q
  refine rx_aw_s 1 (pc := 28) rfl ?_
  show rx_aw 78 29 [.ref 7, .long a0, rx_no] [.long ((((a0 ||| z1) ||| z2) ||| z3) ||| z4)] (rx_hp L t hi4 hl4 v4) Q
  exact rx_aw_ret (pc := 29) rfl k
set_option maxRecDepth 100000 in
/-- CartFloor$Search.pick(II)Z -/
theorem w79_pick {L : Nat} {t : List (Nat × Nat)} {hi : Nat → Nat → Int32} {hl : Nat → Nat → Int64} {v : Nat → Nat → Option Nat} {Q : Option Value → rx_H → Prop} {a0 : Int32} {a1 : Int32} (k : rx_aw 79 9 [.ref 77, .int a0, .int a1, .int (-1 : Int32), .int (1000000 : Int32), .int (0 : Int32), rx_no, rx_no] [] (rx_hp L t hi hl v) Q) : rx_me 79 [.ref 77, .int a0, .int a1] (rx_hp L t hi hl v) Q := by
  show rx_aw 79 0 [.ref 77, .int a0, .int a1, rx_no, rx_no, rx_no, rx_no, rx_no] [] (rx_hp L t hi hl v) Q
  refine rx_aw_s 6 (pc := 0) rfl ?_
  show rx_aw 79 9 [.ref 77, .int a0, .int a1, .int (-1 : Int32), .int (1000000 : Int32), .int (0 : Int32), rx_no, rx_no] [] (rx_hp L t hi hl v) Q
  exact k
set_option maxRecDepth 100000 in
theorem w79_pick_9 {L : Nat} {t : List (Nat × Nat)} {hi : Nat → Nat → Int32} {hl : Nat → Nat → Int64} {v : Nat → Nat → Option Nat} {Q : Option Value → rx_H → Prop} {x1 : Int32} {x2 : Int32} {x3 : Int32} {x4 : Int32} {x5 : Int32} (k : (((4 : Int32) < x5 → ((0 ≤ x3 → (∃ j3 : Nat, (((x1 &&& (1 : Int32)) * (256 : Int32)) + x2) = nI j3 ∧ j3 < 512 ∧ (∃ j4 : Nat, (((16 : Int32) * x1) + (x2 >>> ((4 : Int32) &&& 31))) = nI j4 ∧ j4 < 6400 ∧ (∃ j5 : Nat, (((16 : Int32) * x1) + (x2 >>> ((4 : Int32) &&& 31))) = nI j5 ∧ j5 < 6400 ∧ Q (some (.int (1 : Int32))) (rx_hp L t (rx_u hi 82 j3 x4) (rx_u hl 81 j5 (((hl 81 j4) &&& (((15 : Int64) <<< (Int32.toInt64 ((4 : Int32) * (x2 &&& (15 : Int32))) &&& 63)) ^^^ (-1 : Int64))) ||| ((Int32.toInt64 x3) <<< (Int32.toInt64 ((4 : Int32) * (x2 &&& (15 : Int32))) &&& 63)))) v))))) ∧ (¬ (0 ≤ x3) → Q (some (.int (0 : Int32))) (rx_hp L t hi hl v)))) ∧ (¬ ((4 : Int32) < x5) → (((v 77 8) = none ∧ False) ∨ (∃ q6 : Nat, q6 < 6 ∧ (v 77 8) = some (rx_ct q6) ∧ rx_me 49 [.ref 7, .int (hi (rx_ct q6) 5), .int x2, .int x5, .int (-1 : Int32)] (rx_hp L t hi hl v) (fun r h2 => ∃ z7 : Int32, r = some (.int z7) ∧ rx_ok2 L t h2 (fun hi7 hl7 v7 => ((z7 < 0 → rx_aw 79 9 [.ref 77, .int x1, .int x2, .int x3, .int x4, .int (x5 + (1 : Int32)), rx_no, rx_no] [] (rx_hp L t hi7 hl7 v7) Q) ∧ (¬ (z7 < 0) → rx_me 80 [.ref 77, .int x1, .int x2, .int z7, .int x5] (rx_hp L t hi7 hl7 v7) (fun r h2 => ∃ z9 : Int32, r = some (.int z9) ∧ rx_ok2 L t h2 (fun hi9 hl9 v9 => ((z9 = 0 → rx_aw 79 9 [.ref 77, .int x1, .int x2, .int x3, .int x4, .int (x5 + (1 : Int32)), rx_no, rx_no] [] (rx_hp L t hi9 hl9 v9) Q) ∧ (¬ (z9 = 0) → (∃ j11 : Nat, ((((x1 + (1 : Int32)) &&& (1 : Int32)) * (256 : Int32)) + z7) = nI j11 ∧ j11 < 512 ∧ (((v9 77 8) = none ∧ False) ∨ (∃ q12 : Nat, q12 < 6 ∧ (v9 77 8) = some (rx_ct q12) ∧ rx_me 16 [.int x2] (rx_hp L t hi9 hl9 v9) (fun r h2 => ∃ z13 : Int32, r = some (.int z13) ∧ rx_ok2 L t h2 (fun hi13 hl13 v13 => rx_me 81 [.int (hi9 (rx_ct q12) 5), .int z13, .int x5] (rx_hp L t hi13 hl13 v13) (fun r h2 => ∃ z14 : Int32, r = some (.int z14) ∧ rx_ok2 L t h2 (fun hi14 hl14 v14 => ((z14 = 0 → ((x4 ≤ ((hi9 82 j11) + (0 : Int32)) → rx_aw 79 9 [.ref 77, .int x1, .int x2, .int x3, .int x4, .int (x5 + (1 : Int32)), rx_no, rx_no] [] (rx_hp L t hi14 hl14 v14) Q) ∧ (¬ (x4 ≤ ((hi9 82 j11) + (0 : Int32))) → rx_aw 79 9 [.ref 77, .int x1, .int x2, .int x5, .int ((hi9 82 j11) + (0 : Int32)), .int (x5 + (1 : Int32)), rx_no, rx_no] [] (rx_hp L t hi14 hl14 v14) Q))) ∧ (¬ (z14 = 0) → ((x4 ≤ ((hi9 82 j11) + (1 : Int32)) → rx_aw 79 9 [.ref 77, .int x1, .int x2, .int x3, .int x4, .int (x5 + (1 : Int32)), rx_no, rx_no] [] (rx_hp L t hi14 hl14 v14) Q) ∧ (¬ (x4 ≤ ((hi9 82 j11) + (1 : Int32))) → rx_aw 79 9 [.ref 77, .int x1, .int x2, .int x5, .int ((hi9 82 j11) + (1 : Int32)), .int (x5 + (1 : Int32)), rx_no, rx_no] [] (rx_hp L t hi14 hl14 v14) Q)))))))))))))))))))))))) : rx_aw 79 9 [.ref 77, .int x1, .int x2, .int x3, .int x4, .int x5, rx_no, rx_no] [] (rx_hp L t hi hl v) Q := by
  refine rx_aw_s 3 (pc := 9) rfl ?_
  refine rx_w_if (c := (4 : Int32) < x5) ⟨fun c1 => ?_, fun c1 => ?_⟩
  · have k := k.1 c1
    show rx_aw 79 121 [.ref 77, .int x1, .int x2, .int x3, .int x4, .int x5, rx_no, rx_no] [] (rx_hp L t hi hl v) Q
    refine rx_aw_s 2 (pc := 121) rfl ?_
    refine rx_w_if (c := 0 ≤ x3) ⟨fun c2 => ?_, fun c2 => ?_⟩
    · have k := k.1 c2
      show rx_aw 79 127 [.ref 77, .int x1, .int x2, .int x3, .int x4, .int x5, rx_no, rx_no] [] (rx_hp L t hi hl v) Q
      refine rx_aw_s 10 (pc := 127) rfl ?_
      show rx_aw 79 142 [.ref 77, .int x1, .int x2, .int x3, .int x4, .int x5, rx_no, rx_no] [.int x4, .int (((x1 &&& (1 : Int32)) * (256 : Int32)) + x2), .ref 82] (rx_hp L t hi hl v) Q
      obtain ⟨j3, ej3, hj3, k⟩ := k
      refine rx_aw_iast (pc := 142) (n := 512) j3 ej3 rfl rfl (by decide) rfl hj3 (by decide) ?_
      show rx_aw 79 143 [.ref 77, .int x1, .int x2, .int x3, .int x4, .int x5, rx_no, rx_no] [] (rx_hp L t (rx_u hi 82 j3 x4) hl v) Q
      refine rx_aw_s 20 (pc := 143) rfl ?_
      show rx_aw 79 173 [.ref 77, .int x1, .int x2, .int x3, .int x4, .int (((16 : Int32) * x1) + (x2 >>> ((4 : Int32) &&& 31))), .int ((4 : Int32) * (x2 &&& (15 : Int32))), rx_no] [.int (((16 : Int32) * x1) + (x2 >>> ((4 : Int32) &&& 31))), .ref 81, .int (((16 : Int32) * x1) + (x2 >>> ((4 : Int32) &&& 31))), .ref 81] (rx_hp L t (rx_u hi 82 j3 x4) hl v) Q
      obtain ⟨j4, ej4, hj4, k⟩ := k
      refine rx_aw_lald (pc := 173) (n := 6400) j4 ej4 rfl rfl (by decide) rfl hj4 (by decide) ?_
      show rx_aw 79 174 [.ref 77, .int x1, .int x2, .int x3, .int x4, .int (((16 : Int32) * x1) + (x2 >>> ((4 : Int32) &&& 31))), .int ((4 : Int32) * (x2 &&& (15 : Int32))), rx_no] [.long (hl 81 j4), .int (((16 : Int32) * x1) + (x2 >>> ((4 : Int32) &&& 31))), .ref 81] (rx_hp L t (rx_u hi 82 j3 x4) hl v) Q
      refine rx_aw_s 11 (pc := 174) rfl ?_
      show rx_aw 79 191 [.ref 77, .int x1, .int x2, .int x3, .int x4, .int (((16 : Int32) * x1) + (x2 >>> ((4 : Int32) &&& 31))), .int ((4 : Int32) * (x2 &&& (15 : Int32))), rx_no] [.long (((hl 81 j4) &&& (((15 : Int64) <<< (Int32.toInt64 ((4 : Int32) * (x2 &&& (15 : Int32))) &&& 63)) ^^^ (-1 : Int64))) ||| ((Int32.toInt64 x3) <<< (Int32.toInt64 ((4 : Int32) * (x2 &&& (15 : Int32))) &&& 63))), .int (((16 : Int32) * x1) + (x2 >>> ((4 : Int32) &&& 31))), .ref 81] (rx_hp L t (rx_u hi 82 j3 x4) hl v) Q
      obtain ⟨j5, ej5, hj5, k⟩ := k
      refine rx_aw_last (pc := 191) (n := 6400) j5 ej5 rfl rfl (by decide) rfl hj5 (by decide) ?_
      show rx_aw 79 192 [.ref 77, .int x1, .int x2, .int x3, .int x4, .int (((16 : Int32) * x1) + (x2 >>> ((4 : Int32) &&& 31))), .int ((4 : Int32) * (x2 &&& (15 : Int32))), rx_no] [] (rx_hp L t (rx_u hi 82 j3 x4) (rx_u hl 81 j5 (((hl 81 j4) &&& (((15 : Int64) <<< (Int32.toInt64 ((4 : Int32) * (x2 &&& (15 : Int32))) &&& 63)) ^^^ (-1 : Int64))) ||| ((Int32.toInt64 x3) <<< (Int32.toInt64 ((4 : Int32) * (x2 &&& (15 : Int32))) &&& 63)))) v) Q
      refine rx_aw_s 1 (pc := 192) rfl ?_
      show rx_aw 79 193 [.ref 77, .int x1, .int x2, .int x3, .int x4, .int (((16 : Int32) * x1) + (x2 >>> ((4 : Int32) &&& 31))), .int ((4 : Int32) * (x2 &&& (15 : Int32))), rx_no] [.int (1 : Int32)] (rx_hp L t (rx_u hi 82 j3 x4) (rx_u hl 81 j5 (((hl 81 j4) &&& (((15 : Int64) <<< (Int32.toInt64 ((4 : Int32) * (x2 &&& (15 : Int32))) &&& 63)) ^^^ (-1 : Int64))) ||| ((Int32.toInt64 x3) <<< (Int32.toInt64 ((4 : Int32) * (x2 &&& (15 : Int32))) &&& 63)))) v) Q
      exact rx_aw_ret (pc := 193) rfl k
    · have k := k.2 c2
      show rx_aw 79 125 [.ref 77, .int x1, .int x2, .int x3, .int x4, .int x5, rx_no, rx_no] [] (rx_hp L t hi hl v) Q
      refine rx_aw_s 1 (pc := 125) rfl ?_
      show rx_aw 79 126 [.ref 77, .int x1, .int x2, .int x3, .int x4, .int x5, rx_no, rx_no] [.int (0 : Int32)] (rx_hp L t hi hl v) Q
      exact rx_aw_ret (pc := 126) rfl k
  · have k := k.2 c1
    show rx_aw 79 15 [.ref 77, .int x1, .int x2, .int x3, .int x4, .int x5, rx_no, rx_no] [] (rx_hp L t hi hl v) Q
    refine rx_aw_s 4 (pc := 15) rfl ?_
    show rx_aw 79 23 [.ref 77, .int x1, .int x2, .int x3, .int x4, .int x5, rx_no, rx_no] [va_rf (v 77 8), .ref 7] (rx_hp L t hi hl v) Q
    rcases k with ⟨eq6, k⟩ | ⟨q6, hq6, eq6, k⟩
    · rw [eq6]
      show rx_aw 79 23 [.ref 77, .int x1, .int x2, .int x3, .int x4, .int x5, rx_no, rx_no] [.null, .ref 7] (rx_hp L t hi hl v) Q
      exact k.elim
    · rw [eq6]
      show rx_aw 79 23 [.ref 77, .int x1, .int x2, .int x3, .int x4, .int x5, rx_no, rx_no] [.ref (rx_ct q6), .ref 7] (rx_hp L t hi hl v) Q
      refine rx_w_cg hq6 (pc := 23) rfl (by decide) (by decide) ?_
      show rx_aw 79 26 [.ref 77, .int x1, .int x2, .int x3, .int x4, .int x5, rx_no, rx_no] [.int (hi (rx_ct q6) 5), .ref 7] (rx_hp L t hi hl v) Q
      refine rx_aw_s 3 (pc := 26) rfl ?_
      show rx_aw 79 30 [.ref 77, .int x1, .int x2, .int x3, .int x4, .int x5, rx_no, rx_no] [.int (-1 : Int32), .int x5, .int x2, .int (hi (rx_ct q6) 5), .ref 7] (rx_hp L t hi hl v) Q
      refine rx_w_callI (j := 49) (pc := 30) rfl rfl rfl rfl rfl ?_
      refine rx_aw.mono k (fun r h2 k => ?_)
      obtain ⟨z7, rfl, hi7, hl7, v7, rfl, k⟩ := k
      refine ⟨z7, rfl, ?_⟩
      show rx_aw 79 33 [.ref 77, .int x1, .int x2, .int x3, .int x4, .int x5, rx_no, rx_no] [.int z7] (rx_hp L t hi7 hl7 v7) Q
      refine rx_aw_s 3 (pc := 33) rfl ?_
      refine rx_w_if (c := z7 < 0) ⟨fun c8 => ?_, fun c8 => ?_⟩
      · have k := k.1 c8
        show rx_aw 79 115 [.ref 77, .int x1, .int x2, .int x3, .int x4, .int x5, .int z7, rx_no] [] (rx_hp L t hi7 hl7 v7) Q
        refine rx_aw_s 2 (pc := 115) rfl ?_
        show rx_aw 79 9 [.ref 77, .int x1, .int x2, .int x3, .int x4, .int (x5 + (1 : Int32)), .int z7, rx_no] [] (rx_hp L t hi7 hl7 v7) Q
        exact rx_aw_le (ls := [.ref 77, .int x1, .int x2, .int x3, .int x4, .int (x5 + (1 : Int32)), rx_no, rx_no]) ⟨Or.inr rfl, ⟨Or.inr rfl, ⟨Or.inr rfl, ⟨Or.inr rfl, ⟨Or.inr rfl, ⟨Or.inr rfl, ⟨Or.inl rfl, ⟨Or.inl rfl, trivial⟩⟩⟩⟩⟩⟩⟩⟩ k
      · have k := k.2 c8
        show rx_aw 79 40 [.ref 77, .int x1, .int x2, .int x3, .int x4, .int x5, .int z7, rx_no] [] (rx_hp L t hi7 hl7 v7) Q
        refine rx_aw_s 5 (pc := 40) rfl ?_
        show rx_aw 79 47 [.ref 77, .int x1, .int x2, .int x3, .int x4, .int x5, .int z7, rx_no] [.int x5, .int z7, .int x2, .int x1, .ref 77] (rx_hp L t hi7 hl7 v7) Q
        refine rx_w_callI (j := 80) (pc := 47) rfl rfl rfl rfl rfl ?_
        refine rx_aw.mono k (fun r h2 k => ?_)
        obtain ⟨z9, rfl, hi9, hl9, v9, rfl, k⟩ := k
        refine ⟨z9, rfl, ?_⟩
        show rx_aw 79 50 [.ref 77, .int x1, .int x2, .int x3, .int x4, .int x5, .int z7, rx_no] [.int z9] (rx_hp L t hi9 hl9 v9) Q
        refine rx_aw_s 1 (pc := 50) rfl ?_
        refine rx_w_if (c := z9 = 0) ⟨fun c10 => ?_, fun c10 => ?_⟩
        · have k := k.1 c10
          show rx_aw 79 115 [.ref 77, .int x1, .int x2, .int x3, .int x4, .int x5, .int z7, rx_no] [] (rx_hp L t hi9 hl9 v9) Q
          refine rx_aw_s 2 (pc := 115) rfl ?_
          show rx_aw 79 9 [.ref 77, .int x1, .int x2, .int x3, .int x4, .int (x5 + (1 : Int32)), .int z7, rx_no] [] (rx_hp L t hi9 hl9 v9) Q
          exact rx_aw_le (ls := [.ref 77, .int x1, .int x2, .int x3, .int x4, .int (x5 + (1 : Int32)), rx_no, rx_no]) ⟨Or.inr rfl, ⟨Or.inr rfl, ⟨Or.inr rfl, ⟨Or.inr rfl, ⟨Or.inr rfl, ⟨Or.inr rfl, ⟨Or.inl rfl, ⟨Or.inl rfl, trivial⟩⟩⟩⟩⟩⟩⟩⟩ k
        · have k := k.2 c10
          show rx_aw 79 53 [.ref 77, .int x1, .int x2, .int x3, .int x4, .int x5, .int z7, rx_no] [] (rx_hp L t hi9 hl9 v9) Q
          refine rx_aw_s 11 (pc := 53) rfl ?_
          show rx_aw 79 69 [.ref 77, .int x1, .int x2, .int x3, .int x4, .int x5, .int z7, rx_no] [.int ((((x1 + (1 : Int32)) &&& (1 : Int32)) * (256 : Int32)) + z7), .ref 82] (rx_hp L t hi9 hl9 v9) Q
          obtain ⟨j11, ej11, hj11, k⟩ := k
          refine rx_aw_iald (pc := 69) (n := 512) j11 ej11 rfl rfl rfl hj11 (by decide) ?_
          show rx_aw 79 70 [.ref 77, .int x1, .int x2, .int x3, .int x4, .int x5, .int z7, rx_no] [.int (hi9 82 j11)] (rx_hp L t hi9 hl9 v9) Q
          refine rx_aw_s 4 (pc := 70) rfl ?_
          show rx_aw 79 78 [.ref 77, .int x1, .int x2, .int x3, .int x4, .int x5, .int z7, .int (hi9 82 j11)] [va_rf (v9 77 8), .int (hi9 82 j11)] (rx_hp L t hi9 hl9 v9) Q
          rcases k with ⟨eq12, k⟩ | ⟨q12, hq12, eq12, k⟩
          · rw [eq12]
            show rx_aw 79 78 [.ref 77, .int x1, .int x2, .int x3, .int x4, .int x5, .int z7, .int (hi9 82 j11)] [.null, .int (hi9 82 j11)] (rx_hp L t hi9 hl9 v9) Q
            exact k.elim
          · rw [eq12]
            show rx_aw 79 78 [.ref 77, .int x1, .int x2, .int x3, .int x4, .int x5, .int z7, .int (hi9 82 j11)] [.ref (rx_ct q12), .int (hi9 82 j11)] (rx_hp L t hi9 hl9 v9) Q
            refine rx_w_cg hq12 (pc := 78) rfl (by decide) (by decide) ?_
            show rx_aw 79 81 [.ref 77, .int x1, .int x2, .int x3, .int x4, .int x5, .int z7, .int (hi9 82 j11)] [.int (hi9 (rx_ct q12) 5), .int (hi9 82 j11)] (rx_hp L t hi9 hl9 v9) Q
            refine rx_aw_s 1 (pc := 81) rfl ?_
            show rx_aw 79 82 [.ref 77, .int x1, .int x2, .int x3, .int x4, .int x5, .int z7, .int (hi9 82 j11)] [.int x2, .int (hi9 (rx_ct q12) 5), .int (hi9 82 j11)] (rx_hp L t hi9 hl9 v9) Q
            refine rx_w_callI (j := 16) (pc := 82) rfl rfl rfl rfl rfl ?_
            refine rx_aw.mono k (fun r h2 k => ?_)
            obtain ⟨z13, rfl, hi13, hl13, v13, rfl, k⟩ := k
            refine ⟨z13, rfl, ?_⟩
            show rx_aw 79 85 [.ref 77, .int x1, .int x2, .int x3, .int x4, .int x5, .int z7, .int (hi9 82 j11)] [.int z13, .int (hi9 (rx_ct q12) 5), .int (hi9 82 j11)] (rx_hp L t hi13 hl13 v13) Q
            refine rx_aw_s 1 (pc := 85) rfl ?_
            show rx_aw 79 87 [.ref 77, .int x1, .int x2, .int x3, .int x4, .int x5, .int z7, .int (hi9 82 j11)] [.int x5, .int z13, .int (hi9 (rx_ct q12) 5), .int (hi9 82 j11)] (rx_hp L t hi13 hl13 v13) Q
            refine rx_w_callI (j := 81) (pc := 87) rfl rfl rfl rfl rfl ?_
            refine rx_aw.mono k (fun r h2 k => ?_)
            obtain ⟨z14, rfl, hi14, hl14, v14, rfl, k⟩ := k
            refine ⟨z14, rfl, ?_⟩
            show rx_aw 79 90 [.ref 77, .int x1, .int x2, .int x3, .int x4, .int x5, .int z7, .int (hi9 82 j11)] [.int z14, .int (hi9 82 j11)] (rx_hp L t hi14 hl14 v14) Q
            refine rx_aw_s 1 (pc := 90) rfl ?_
            refine rx_w_if (c := z14 = 0) ⟨fun c15 => ?_, fun c15 => ?_⟩
            · have k := k.1 c15
              show rx_aw 79 97 [.ref 77, .int x1, .int x2, .int x3, .int x4, .int x5, .int z7, .int (hi9 82 j11)] [.int (hi9 82 j11)] (rx_hp L t hi14 hl14 v14) Q
              refine rx_aw_s 6 (pc := 97) rfl ?_
              refine rx_w_if (c := x4 ≤ ((hi9 82 j11) + (0 : Int32))) ⟨fun c16 => ?_, fun c16 => ?_⟩
              · have k := k.1 c16
                show rx_aw 79 115 [.ref 77, .int x1, .int x2, .int x3, .int x4, .int x5, .int z7, .int ((hi9 82 j11) + (0 : Int32))] [] (rx_hp L t hi14 hl14 v14) Q
                refine rx_aw_s 2 (pc := 115) rfl ?_
                show rx_aw 79 9 [.ref 77, .int x1, .int x2, .int x3, .int x4, .int (x5 + (1 : Int32)), .int z7, .int ((hi9 82 j11) + (0 : Int32))] [] (rx_hp L t hi14 hl14 v14) Q
                exact rx_aw_le (ls := [.ref 77, .int x1, .int x2, .int x3, .int x4, .int (x5 + (1 : Int32)), rx_no, rx_no]) ⟨Or.inr rfl, ⟨Or.inr rfl, ⟨Or.inr rfl, ⟨Or.inr rfl, ⟨Or.inr rfl, ⟨Or.inr rfl, ⟨Or.inl rfl, ⟨Or.inl rfl, trivial⟩⟩⟩⟩⟩⟩⟩⟩ k
              · have k := k.2 c16
                show rx_aw 79 108 [.ref 77, .int x1, .int x2, .int x3, .int x4, .int x5, .int z7, .int ((hi9 82 j11) + (0 : Int32))] [] (rx_hp L t hi14 hl14 v14) Q
                refine rx_aw_s 6 (pc := 108) rfl ?_
                show rx_aw 79 9 [.ref 77, .int x1, .int x2, .int x5, .int ((hi9 82 j11) + (0 : Int32)), .int (x5 + (1 : Int32)), .int z7, .int ((hi9 82 j11) + (0 : Int32))] [] (rx_hp L t hi14 hl14 v14) Q
                exact rx_aw_le (ls := [.ref 77, .int x1, .int x2, .int x5, .int ((hi9 82 j11) + (0 : Int32)), .int (x5 + (1 : Int32)), rx_no, rx_no]) ⟨Or.inr rfl, ⟨Or.inr rfl, ⟨Or.inr rfl, ⟨Or.inr rfl, ⟨Or.inr rfl, ⟨Or.inr rfl, ⟨Or.inl rfl, ⟨Or.inl rfl, trivial⟩⟩⟩⟩⟩⟩⟩⟩ k
            · have k := k.2 c15
              show rx_aw 79 93 [.ref 77, .int x1, .int x2, .int x3, .int x4, .int x5, .int z7, .int (hi9 82 j11)] [.int (hi9 82 j11)] (rx_hp L t hi14 hl14 v14) Q
              refine rx_aw_s 7 (pc := 93) rfl ?_
              refine rx_w_if (c := x4 ≤ ((hi9 82 j11) + (1 : Int32))) ⟨fun c17 => ?_, fun c17 => ?_⟩
              · have k := k.1 c17
                show rx_aw 79 115 [.ref 77, .int x1, .int x2, .int x3, .int x4, .int x5, .int z7, .int ((hi9 82 j11) + (1 : Int32))] [] (rx_hp L t hi14 hl14 v14) Q
                refine rx_aw_s 2 (pc := 115) rfl ?_
                show rx_aw 79 9 [.ref 77, .int x1, .int x2, .int x3, .int x4, .int (x5 + (1 : Int32)), .int z7, .int ((hi9 82 j11) + (1 : Int32))] [] (rx_hp L t hi14 hl14 v14) Q
                exact rx_aw_le (ls := [.ref 77, .int x1, .int x2, .int x3, .int x4, .int (x5 + (1 : Int32)), rx_no, rx_no]) ⟨Or.inr rfl, ⟨Or.inr rfl, ⟨Or.inr rfl, ⟨Or.inr rfl, ⟨Or.inr rfl, ⟨Or.inr rfl, ⟨Or.inl rfl, ⟨Or.inl rfl, trivial⟩⟩⟩⟩⟩⟩⟩⟩ k
              · have k := k.2 c17
                show rx_aw 79 108 [.ref 77, .int x1, .int x2, .int x3, .int x4, .int x5, .int z7, .int ((hi9 82 j11) + (1 : Int32))] [] (rx_hp L t hi14 hl14 v14) Q
                refine rx_aw_s 6 (pc := 108) rfl ?_
                show rx_aw 79 9 [.ref 77, .int x1, .int x2, .int x5, .int ((hi9 82 j11) + (1 : Int32)), .int (x5 + (1 : Int32)), .int z7, .int ((hi9 82 j11) + (1 : Int32))] [] (rx_hp L t hi14 hl14 v14) Q
                exact rx_aw_le (ls := [.ref 77, .int x1, .int x2, .int x5, .int ((hi9 82 j11) + (1 : Int32)), .int (x5 + (1 : Int32)), rx_no, rx_no]) ⟨Or.inr rfl, ⟨Or.inr rfl, ⟨Or.inr rfl, ⟨Or.inr rfl, ⟨Or.inr rfl, ⟨Or.inr rfl, ⟨Or.inl rfl, ⟨Or.inl rfl, trivial⟩⟩⟩⟩⟩⟩⟩⟩ k
set_option maxRecDepth 100000 in
/-- CartFloor$Search.leads(IIII)Z -/
theorem w80_leads {L : Nat} {t : List (Nat × Nat)} {hi : Nat → Nat → Int32} {hl : Nat → Nat → Int64} {v : Nat → Nat → Option Nat} {Q : Option Value → rx_H → Prop} {a0 : Int32} {a1 : Int32} {a2 : Int32} {a3 : Int32} (k : rx_me 16 [.int a2] (rx_hp L t hi hl v) (fun r h2 => ∃ z1 : Int32, r = some (.int z1) ∧ rx_ok2 L t h2 (fun hi1 hl1 v1 => (∃ j2 : Nat, ((((4 : Int32) * a0) + (4 : Int32)) + z1) = nI j2 ∧ j2 < 1608 ∧ rx_me 8 [.int a2] (rx_hp L t hi1 hl1 v1) (fun r h2 => ∃ z3 : Int32, r = some (.int z3) ∧ rx_ok2 L t h2 (fun hi3 hl3 v3 => rx_me 9 [.int z3] (rx_hp L t hi3 hl3 v3) (fun r h2 => ∃ z4 : Int64, r = some (.long z4) ∧ rx_ok2 L t h2 (fun hi4 hl4 v4 => (((lg_cmp ((hl1 80 j2) &&& z4) (0 : Int64)) = 0 → Q (some (.int (0 : Int32))) (rx_hp L t hi4 hl4 v4)) ∧ (¬ ((lg_cmp ((hl1 80 j2) &&& z4) (0 : Int64)) = 0) → (((v4 77 8) = none ∧ False) ∨ (∃ q6 : Nat, q6 < 6 ∧ (v4 77 8) = some (rx_ct q6) ∧ (((2 : Int32) ≤ (hi4 (rx_ct q6) 5) → (((v4 77 8) = none ∧ False) ∨ (∃ q8 : Nat, q8 < 6 ∧ (v4 77 8) = some (rx_ct q8) ∧ rx_me 53 [.ref 7, .int (hi4 (rx_ct q8) 5), .int a1, .int a3] (rx_hp L t hi4 hl4 v4) (fun r h2 => ∃ z9 : Int64, r = some (.long z9) ∧ rx_ok2 L t h2 (fun hi9 hl9 v9 => rx_me 71 [.ref 77, .int a0] (rx_hp L t hi9 hl9 v9) (fun r h2 => ∃ z10 : Int64, r = some (.long z10) ∧ rx_ok2 L t h2 (fun hi10 hl10 v10 => rx_me 71 [.ref 77, .int (a0 + (1 : Int32))] (rx_hp L t hi10 hl10 v10) (fun r h2 => ∃ z11 : Int64, r = some (.long z11) ∧ rx_ok2 L t h2 (fun hi11 hl11 v11 => (((lg_cmp (z9 &&& (z10 ||| z11)) (0 : Int64)) = 0 → Q (some (.int (1 : Int32))) (rx_hp L t hi11 hl11 v11)) ∧ (¬ ((lg_cmp (z9 &&& (z10 ||| z11)) (0 : Int64)) = 0) → Q (some (.int (0 : Int32))) (rx_hp L t hi11 hl11 v11)))))))))))) ∧ (¬ ((2 : Int32) ≤ (hi4 (rx_ct q6) 5)) → ((a3 = 0 → Q (some (.int (1 : Int32))) (rx_hp L t hi4 hl4 v4)) ∧ (¬ (a3 = 0) → (∃ j14 : Nat, (a3 - (1 : Int32)) = nI j14 ∧ j14 < 4 ∧ rx_me 8 [.int a1] (rx_hp L t hi4 hl4 v4) (fun r h2 => ∃ z15 : Int32, r = some (.int z15) ∧ rx_ok2 L t h2 (fun hi15 hl15 v15 => rx_me 9 [.int z15] (rx_hp L t hi15 hl15 v15) (fun r h2 => ∃ z16 : Int64, r = some (.long z16) ∧ rx_ok2 L t h2 (fun hi16 hl16 v16 => (((lg_cmp ((hl4 83 j14) &&& z16) (0 : Int64)) = 0 → Q (some (.int (1 : Int32))) (rx_hp L t hi16 hl16 v16)) ∧ (¬ ((lg_cmp ((hl4 83 j14) &&& z16) (0 : Int64)) = 0) → Q (some (.int (0 : Int32))) (rx_hp L t hi16 hl16 v16)))))))))))))))))))))))) : rx_me 80 [.ref 77, .int a0, .int a1, .int a2, .int a3] (rx_hp L t hi hl v) Q := by
  show rx_aw 80 0 [.ref 77, .int a0, .int a1, .int a2, .int a3] [] (rx_hp L t hi hl v) Q
  refine rx_aw_s 8 (pc := 0) rfl ?_
  show rx_aw 80 10 [.ref 77, .int a0, .int a1, .int a2, .int a3] [.int a2, .int (((4 : Int32) * a0) + (4 : Int32)), .ref 80] (rx_hp L t hi hl v) Q
  refine rx_w_callI (j := 16) (pc := 10) rfl rfl rfl rfl rfl ?_
  refine rx_aw.mono k (fun r h2 k => ?_)
  obtain ⟨z1, rfl, hi1, hl1, v1, rfl, k⟩ := k
  refine ⟨z1, rfl, ?_⟩
  show rx_aw 80 13 [.ref 77, .int a0, .int a1, .int a2, .int a3] [.int z1, .int (((4 : Int32) * a0) + (4 : Int32)), .ref 80] (rx_hp L t hi1 hl1 v1) Q
  refine rx_aw_s 1 (pc := 13) rfl ?_
  show rx_aw 80 14 [.ref 77, .int a0, .int a1, .int a2, .int a3] [.int ((((4 : Int32) * a0) + (4 : Int32)) + z1), .ref 80] (rx_hp L t hi1 hl1 v1) Q
  obtain ⟨j2, ej2, hj2, k⟩ := k
  refine rx_aw_lald (pc := 14) (n := 1608) j2 ej2 rfl rfl (by decide) rfl hj2 (by decide) ?_
  show rx_aw 80 15 [.ref 77, .int a0, .int a1, .int a2, .int a3] [.long (hl1 80 j2)] (rx_hp L t hi1 hl1 v1) Q
  refine rx_aw_s 1 (pc := 15) rfl ?_
  show rx_aw 80 16 [.ref 77, .int a0, .int a1, .int a2, .int a3] [.int a2, .long (hl1 80 j2)] (rx_hp L t hi1 hl1 v1) Q
  refine rx_w_callI (j := 8) (pc := 16) rfl rfl rfl rfl rfl ?_
  refine rx_aw.mono k (fun r h2 k => ?_)
  obtain ⟨z3, rfl, hi3, hl3, v3, rfl, k⟩ := k
  refine ⟨z3, rfl, ?_⟩
  show rx_aw 80 19 [.ref 77, .int a0, .int a1, .int a2, .int a3] [.int z3, .long (hl1 80 j2)] (rx_hp L t hi3 hl3 v3) Q
  refine rx_w_callL (j := 9) (pc := 19) rfl rfl rfl rfl rfl ?_
  refine rx_aw.mono k (fun r h2 k => ?_)
  obtain ⟨z4, rfl, hi4, hl4, v4, rfl, k⟩ := k
  refine ⟨z4, rfl, ?_⟩
  show rx_aw 80 22 [.ref 77, .int a0, .int a1, .int a2, .int a3] [.long z4, .long (hl1 80 j2)] (rx_hp L t hi4 hl4 v4) Q
  refine rx_aw_s 4 (pc := 22) rfl ?_
  refine rx_w_ifn (c := (lg_cmp ((hl1 80 j2) &&& z4) (0 : Int64)) = 0) ⟨fun c5 => ?_, fun c5 => ?_⟩
  · have k := k.1 c5
    show rx_aw 80 28 [.ref 77, .int a0, .int a1, .int a2, .int a3] [] (rx_hp L t hi4 hl4 v4) Q
    refine rx_aw_s 1 (pc := 28) rfl ?_
    show rx_aw 80 29 [.ref 77, .int a0, .int a1, .int a2, .int a3] [.int (0 : Int32)] (rx_hp L t hi4 hl4 v4) Q
    exact rx_aw_ret (pc := 29) rfl k
  · have k := k.2 c5
    show rx_aw 80 30 [.ref 77, .int a0, .int a1, .int a2, .int a3] [] (rx_hp L t hi4 hl4 v4) Q
    refine rx_aw_s 2 (pc := 30) rfl ?_
    show rx_aw 80 34 [.ref 77, .int a0, .int a1, .int a2, .int a3] [va_rf (v4 77 8)] (rx_hp L t hi4 hl4 v4) Q
    rcases k with ⟨eq6, k⟩ | ⟨q6, hq6, eq6, k⟩
    · rw [eq6]
      show rx_aw 80 34 [.ref 77, .int a0, .int a1, .int a2, .int a3] [.null] (rx_hp L t hi4 hl4 v4) Q
      exact k.elim
    · rw [eq6]
      show rx_aw 80 34 [.ref 77, .int a0, .int a1, .int a2, .int a3] [.ref (rx_ct q6)] (rx_hp L t hi4 hl4 v4) Q
      refine rx_w_cg hq6 (pc := 34) rfl (by decide) (by decide) ?_
      show rx_aw 80 37 [.ref 77, .int a0, .int a1, .int a2, .int a3] [.int (hi4 (rx_ct q6) 5)] (rx_hp L t hi4 hl4 v4) Q
      refine rx_aw_s 2 (pc := 37) rfl ?_
      refine rx_w_if (c := (2 : Int32) ≤ (hi4 (rx_ct q6) 5)) ⟨fun c7 => ?_, fun c7 => ?_⟩
      · have k := k.1 c7
        show rx_aw 80 74 [.ref 77, .int a0, .int a1, .int a2, .int a3] [] (rx_hp L t hi4 hl4 v4) Q
        refine rx_aw_s 4 (pc := 74) rfl ?_
        show rx_aw 80 82 [.ref 77, .int a0, .int a1, .int a2, .int a3] [va_rf (v4 77 8), .ref 7] (rx_hp L t hi4 hl4 v4) Q
        rcases k with ⟨eq8, k⟩ | ⟨q8, hq8, eq8, k⟩
        · rw [eq8]
          show rx_aw 80 82 [.ref 77, .int a0, .int a1, .int a2, .int a3] [.null, .ref 7] (rx_hp L t hi4 hl4 v4) Q
          exact k.elim
        · rw [eq8]
          show rx_aw 80 82 [.ref 77, .int a0, .int a1, .int a2, .int a3] [.ref (rx_ct q8), .ref 7] (rx_hp L t hi4 hl4 v4) Q
          refine rx_w_cg hq8 (pc := 82) rfl (by decide) (by decide) ?_
          show rx_aw 80 85 [.ref 77, .int a0, .int a1, .int a2, .int a3] [.int (hi4 (rx_ct q8) 5), .ref 7] (rx_hp L t hi4 hl4 v4) Q
          refine rx_aw_s 2 (pc := 85) rfl ?_
          show rx_aw 80 88 [.ref 77, .int a0, .int a1, .int a2, .int a3] [.int a3, .int a1, .int (hi4 (rx_ct q8) 5), .ref 7] (rx_hp L t hi4 hl4 v4) Q
          refine rx_w_callL (j := 53) (pc := 88) rfl rfl rfl rfl rfl ?_
          refine rx_aw.mono k (fun r h2 k => ?_)
          obtain ⟨z9, rfl, hi9, hl9, v9, rfl, k⟩ := k
          refine ⟨z9, rfl, ?_⟩
          show rx_aw 80 91 [.ref 77, .int a0, .int a1, .int a2, .int a3] [.long z9] (rx_hp L t hi9 hl9 v9) Q
          refine rx_aw_s 2 (pc := 91) rfl ?_
          show rx_aw 80 93 [.ref 77, .int a0, .int a1, .int a2, .int a3] [.int a0, .ref 77, .long z9] (rx_hp L t hi9 hl9 v9) Q
          refine rx_w_callL (j := 71) (pc := 93) rfl rfl rfl rfl rfl ?_
          refine rx_aw.mono k (fun r h2 k => ?_)
          obtain ⟨z10, rfl, hi10, hl10, v10, rfl, k⟩ := k
          refine ⟨z10, rfl, ?_⟩
          show rx_aw 80 96 [.ref 77, .int a0, .int a1, .int a2, .int a3] [.long z10, .long z9] (rx_hp L t hi10 hl10 v10) Q
          refine rx_aw_s 4 (pc := 96) rfl ?_
          show rx_aw 80 100 [.ref 77, .int a0, .int a1, .int a2, .int a3] [.int (a0 + (1 : Int32)), .ref 77, .long z10, .long z9] (rx_hp L t hi10 hl10 v10) Q
          refine rx_w_callL (j := 71) (pc := 100) rfl rfl rfl rfl rfl ?_
          refine rx_aw.mono k (fun r h2 k => ?_)
          obtain ⟨z11, rfl, hi11, hl11, v11, rfl, k⟩ := k
          refine ⟨z11, rfl, ?_⟩
          show rx_aw 80 103 [.ref 77, .int a0, .int a1, .int a2, .int a3] [.long z11, .long z10, .long z9] (rx_hp L t hi11 hl11 v11) Q
          refine rx_aw_s 5 (pc := 103) rfl ?_
          refine rx_w_ifn (c := (lg_cmp (z9 &&& (z10 ||| z11)) (0 : Int64)) = 0) ⟨fun c12 => ?_, fun c12 => ?_⟩
          · have k := k.1 c12
            show rx_aw 80 110 [.ref 77, .int a0, .int a1, .int a2, .int a3] [] (rx_hp L t hi11 hl11 v11) Q
            refine rx_aw_s 2 (pc := 110) rfl ?_
            show rx_aw 80 115 [.ref 77, .int a0, .int a1, .int a2, .int a3] [.int (1 : Int32)] (rx_hp L t hi11 hl11 v11) Q
            exact rx_aw_ret (pc := 115) rfl k
          · have k := k.2 c12
            show rx_aw 80 114 [.ref 77, .int a0, .int a1, .int a2, .int a3] [] (rx_hp L t hi11 hl11 v11) Q
            refine rx_aw_s 1 (pc := 114) rfl ?_
            show rx_aw 80 115 [.ref 77, .int a0, .int a1, .int a2, .int a3] [.int (0 : Int32)] (rx_hp L t hi11 hl11 v11) Q
            exact rx_aw_ret (pc := 115) rfl k
      · have k := k.2 c7
        show rx_aw 80 41 [.ref 77, .int a0, .int a1, .int a2, .int a3] [] (rx_hp L t hi4 hl4 v4) Q
        refine rx_aw_s 2 (pc := 41) rfl ?_
        refine rx_w_if (c := a3 = 0) ⟨fun c13 => ?_, fun c13 => ?_⟩
        · have k := k.1 c13
          show rx_aw 80 68 [.ref 77, .int a0, .int a1, .int a2, .int a3] [] (rx_hp L t hi4 hl4 v4) Q
          refine rx_aw_s 2 (pc := 68) rfl ?_
          show rx_aw 80 73 [.ref 77, .int a0, .int a1, .int a2, .int a3] [.int (1 : Int32)] (rx_hp L t hi4 hl4 v4) Q
          exact rx_aw_ret (pc := 73) rfl k
        · have k := k.2 c13
          show rx_aw 80 46 [.ref 77, .int a0, .int a1, .int a2, .int a3] [] (rx_hp L t hi4 hl4 v4) Q
          refine rx_aw_s 5 (pc := 46) rfl ?_
          show rx_aw 80 54 [.ref 77, .int a0, .int a1, .int a2, .int a3] [.int (a3 - (1 : Int32)), .ref 83] (rx_hp L t hi4 hl4 v4) Q
          obtain ⟨j14, ej14, hj14, k⟩ := k
          refine rx_aw_lald (pc := 54) (n := 4) j14 ej14 rfl rfl (by decide) rfl hj14 (by decide) ?_
          show rx_aw 80 55 [.ref 77, .int a0, .int a1, .int a2, .int a3] [.long (hl4 83 j14)] (rx_hp L t hi4 hl4 v4) Q
          refine rx_aw_s 1 (pc := 55) rfl ?_
          show rx_aw 80 56 [.ref 77, .int a0, .int a1, .int a2, .int a3] [.int a1, .long (hl4 83 j14)] (rx_hp L t hi4 hl4 v4) Q
          refine rx_w_callI (j := 8) (pc := 56) rfl rfl rfl rfl rfl ?_
          refine rx_aw.mono k (fun r h2 k => ?_)
          obtain ⟨z15, rfl, hi15, hl15, v15, rfl, k⟩ := k
          refine ⟨z15, rfl, ?_⟩
          show rx_aw 80 59 [.ref 77, .int a0, .int a1, .int a2, .int a3] [.int z15, .long (hl4 83 j14)] (rx_hp L t hi15 hl15 v15) Q
          refine rx_w_callL (j := 9) (pc := 59) rfl rfl rfl rfl rfl ?_
          refine rx_aw.mono k (fun r h2 k => ?_)
          obtain ⟨z16, rfl, hi16, hl16, v16, rfl, k⟩ := k
          refine ⟨z16, rfl, ?_⟩
          show rx_aw 80 62 [.ref 77, .int a0, .int a1, .int a2, .int a3] [.long z16, .long (hl4 83 j14)] (rx_hp L t hi16 hl16 v16) Q
          refine rx_aw_s 4 (pc := 62) rfl ?_
          refine rx_w_ifn (c := (lg_cmp ((hl4 83 j14) &&& z16) (0 : Int64)) = 0) ⟨fun c17 => ?_, fun c17 => ?_⟩
          · have k := k.1 c17
            show rx_aw 80 68 [.ref 77, .int a0, .int a1, .int a2, .int a3] [] (rx_hp L t hi16 hl16 v16) Q
            refine rx_aw_s 2 (pc := 68) rfl ?_
            show rx_aw 80 73 [.ref 77, .int a0, .int a1, .int a2, .int a3] [.int (1 : Int32)] (rx_hp L t hi16 hl16 v16) Q
            exact rx_aw_ret (pc := 73) rfl k
          · have k := k.2 c17
            show rx_aw 80 72 [.ref 77, .int a0, .int a1, .int a2, .int a3] [] (rx_hp L t hi16 hl16 v16) Q
            refine rx_aw_s 1 (pc := 72) rfl ?_
            show rx_aw 80 73 [.ref 77, .int a0, .int a1, .int a2, .int a3] [.int (0 : Int32)] (rx_hp L t hi16 hl16 v16) Q
            exact rx_aw_ret (pc := 73) rfl k
set_option maxRecDepth 100000 in
/-- CartFloor.isTurn(III)Z -/
theorem w81_isTurn {L : Nat} {t : List (Nat × Nat)} {hi : Nat → Nat → Int32} {hl : Nat → Nat → Int64} {v : Nat → Nat → Option Nat} {Q : Option Value → rx_H → Prop} {a0 : Int32} {a1 : Int32} {a2 : Int32} (k : ((a0 < (2 : Int32) → ((a2 < (1 : Int32) → Q (some (.int (0 : Int32))) (rx_hp L t hi hl v)) ∧ (¬ (a2 < (1 : Int32)) → (((4 : Int32) < a2 → Q (some (.int (0 : Int32))) (rx_hp L t hi hl v)) ∧ (¬ ((4 : Int32) < a2) → (((a2 - (1 : Int32)) = a1 → Q (some (.int (0 : Int32))) (rx_hp L t hi hl v)) ∧ (¬ ((a2 - (1 : Int32)) = a1) → Q (some (.int (1 : Int32))) (rx_hp L t hi hl v)))))))) ∧ (¬ (a0 < (2 : Int32)) → ((a2 = (3 : Int32) → Q (some (.int (1 : Int32))) (rx_hp L t hi hl v)) ∧ (¬ (a2 = (3 : Int32)) → ((a2 = (4 : Int32) → Q (some (.int (1 : Int32))) (rx_hp L t hi hl v)) ∧ (¬ (a2 = (4 : Int32)) → Q (some (.int (0 : Int32))) (rx_hp L t hi hl v)))))))) : rx_me 81 [.int a0, .int a1, .int a2] (rx_hp L t hi hl v) Q := by
  show rx_aw 81 0 [.int a0, .int a1, .int a2] [] (rx_hp L t hi hl v) Q
  refine rx_aw_s 3 (pc := 0) rfl ?_
  refine rx_w_if (c := a0 < (2 : Int32)) ⟨fun c1 => ?_, fun c1 => ?_⟩
  · have k := k.1 c1
    show rx_aw 81 21 [.int a0, .int a1, .int a2] [] (rx_hp L t hi hl v) Q
    refine rx_aw_s 3 (pc := 21) rfl ?_
    refine rx_w_if (c := a2 < (1 : Int32)) ⟨fun c2 => ?_, fun c2 => ?_⟩
    · have k := k.1 c2
      show rx_aw 81 42 [.int a0, .int a1, .int a2] [] (rx_hp L t hi hl v) Q
      refine rx_aw_s 1 (pc := 42) rfl ?_
      show rx_aw 81 43 [.int a0, .int a1, .int a2] [.int (0 : Int32)] (rx_hp L t hi hl v) Q
      exact rx_aw_ret (pc := 43) rfl k
    · have k := k.2 c2
      show rx_aw 81 26 [.int a0, .int a1, .int a2] [] (rx_hp L t hi hl v) Q
      refine rx_aw_s 3 (pc := 26) rfl ?_
      refine rx_w_if (c := (4 : Int32) < a2) ⟨fun c3 => ?_, fun c3 => ?_⟩
      · have k := k.1 c3
        show rx_aw 81 42 [.int a0, .int a1, .int a2] [] (rx_hp L t hi hl v) Q
        refine rx_aw_s 1 (pc := 42) rfl ?_
        show rx_aw 81 43 [.int a0, .int a1, .int a2] [.int (0 : Int32)] (rx_hp L t hi hl v) Q
        exact rx_aw_ret (pc := 43) rfl k
      · have k := k.2 c3
        show rx_aw 81 31 [.int a0, .int a1, .int a2] [] (rx_hp L t hi hl v) Q
        refine rx_aw_s 5 (pc := 31) rfl ?_
        refine rx_w_if (c := (a2 - (1 : Int32)) = a1) ⟨fun c4 => ?_, fun c4 => ?_⟩
        · have k := k.1 c4
          show rx_aw 81 42 [.int a0, .int a1, .int a2] [] (rx_hp L t hi hl v) Q
          refine rx_aw_s 1 (pc := 42) rfl ?_
          show rx_aw 81 43 [.int a0, .int a1, .int a2] [.int (0 : Int32)] (rx_hp L t hi hl v) Q
          exact rx_aw_ret (pc := 43) rfl k
        · have k := k.2 c4
          show rx_aw 81 38 [.int a0, .int a1, .int a2] [] (rx_hp L t hi hl v) Q
          refine rx_aw_s 2 (pc := 38) rfl ?_
          show rx_aw 81 43 [.int a0, .int a1, .int a2] [.int (1 : Int32)] (rx_hp L t hi hl v) Q
          exact rx_aw_ret (pc := 43) rfl k
  · have k := k.2 c1
    show rx_aw 81 5 [.int a0, .int a1, .int a2] [] (rx_hp L t hi hl v) Q
    refine rx_aw_s 3 (pc := 5) rfl ?_
    refine rx_w_if (c := a2 = (3 : Int32)) ⟨fun c5 => ?_, fun c5 => ?_⟩
    · have k := k.1 c5
      show rx_aw 81 15 [.int a0, .int a1, .int a2] [] (rx_hp L t hi hl v) Q
      refine rx_aw_s 2 (pc := 15) rfl ?_
      show rx_aw 81 20 [.int a0, .int a1, .int a2] [.int (1 : Int32)] (rx_hp L t hi hl v) Q
      exact rx_aw_ret (pc := 20) rfl k
    · have k := k.2 c5
      show rx_aw 81 10 [.int a0, .int a1, .int a2] [] (rx_hp L t hi hl v) Q
      refine rx_aw_s 3 (pc := 10) rfl ?_
      refine rx_w_ifn (c := a2 = (4 : Int32)) ⟨fun c6 => ?_, fun c6 => ?_⟩
      · have k := k.1 c6
        show rx_aw 81 15 [.int a0, .int a1, .int a2] [] (rx_hp L t hi hl v) Q
        refine rx_aw_s 2 (pc := 15) rfl ?_
        show rx_aw 81 20 [.int a0, .int a1, .int a2] [.int (1 : Int32)] (rx_hp L t hi hl v) Q
        exact rx_aw_ret (pc := 20) rfl k
      · have k := k.2 c6
        show rx_aw 81 19 [.int a0, .int a1, .int a2] [] (rx_hp L t hi hl v) Q
        refine rx_aw_s 1 (pc := 19) rfl ?_
        show rx_aw 81 20 [.int a0, .int a1, .int a2] [.int (0 : Int32)] (rx_hp L t hi hl v) Q
        exact rx_aw_ret (pc := 20) rfl k
set_option maxRecDepth 100000 in
/-- CartFloor$Search.follow(III)V -/
theorem w82_follow {L : Nat} {t : List (Nat × Nat)} {hi : Nat → Nat → Int32} {hl : Nat → Nat → Int64} {v : Nat → Nat → Option Nat} {Q : Option Value → rx_H → Prop} {a0 : Int32} {a1 : Int32} {a2 : Int32} (k : rx_aw 82 8 [.ref 77, .int a0, .int a1, .int a2, .int a1, rx_no, rx_no] [] (rx_hp L t (rx_u hi 77 13 a0) hl v) Q) : rx_me 82 [.ref 77, .int a0, .int a1, .int a2] (rx_hp L t hi hl v) Q := by
  show rx_aw 82 0 [.ref 77, .int a0, .int a1, .int a2, rx_no, rx_no, rx_no] [] (rx_hp L t hi hl v) Q
  refine rx_aw_s 5 (pc := 0) rfl ?_
  show rx_aw 82 8 [.ref 77, .int a0, .int a1, .int a2, .int a1, rx_no, rx_no] [] (rx_hp L t (rx_u hi 77 13 a0) hl v) Q
  exact k
set_option maxRecDepth 100000 in
theorem w82_follow_8 {L : Nat} {t : List (Nat × Nat)} {hi : Nat → Nat → Int32} {hl : Nat → Nat → Int64} {v : Nat → Nat → Option Nat} {Q : Option Value → rx_H → Prop} {x1 : Int32} {x2 : Int32} {x3 : Int32} {x4 : Int32} (k : ((x3 ≤ x4 → Q none (rx_hp L t hi hl v)) ∧ (¬ (x3 ≤ x4) → (∃ j2 : Nat, (((16 : Int32) * x4) + (((hi 77 13) &&& (255 : Int32)) >>> ((4 : Int32) &&& 31))) = nI j2 ∧ j2 < 6400 ∧ (((v 77 8) = none ∧ False) ∨ (∃ q3 : Nat, q3 < 6 ∧ (v 77 8) = some (rx_ct q3) ∧ (∃ j4 : Nat, x4 = nI j4 ∧ j4 < 400 ∧ (((v 77 8) = none ∧ False) ∨ (∃ q5 : Nat, q5 < 6 ∧ (v 77 8) = some (rx_ct q5) ∧ rx_me 49 [.ref 7, .int ((rx_u hi (rx_ct q3 + 1) j4 (vp_nar .byte ((Int32.toInt8 ((Int64.toInt32 (((Int64.toUInt64 (hl 81 j2)) >>> ((Int32.toInt64 ((4 : Int32) * (((hi 77 13) &&& (255 : Int32)) &&& (15 : Int32)))).toUInt64 &&& Int64.toUInt64 63)).toInt64)) &&& (15 : Int32))).toInt32))) (rx_ct q5) 5), .int ((rx_u hi (rx_ct q3 + 1) j4 (vp_nar .byte ((Int32.toInt8 ((Int64.toInt32 (((Int64.toUInt64 (hl 81 j2)) >>> ((Int32.toInt64 ((4 : Int32) * (((hi 77 13) &&& (255 : Int32)) &&& (15 : Int32)))).toUInt64 &&& Int64.toUInt64 63)).toInt64)) &&& (15 : Int32))).toInt32))) 77 13), .int ((Int64.toInt32 (((Int64.toUInt64 (hl 81 j2)) >>> ((Int32.toInt64 ((4 : Int32) * (((hi 77 13) &&& (255 : Int32)) &&& (15 : Int32)))).toUInt64 &&& Int64.toUInt64 63)).toInt64)) &&& (15 : Int32)), .int (-1 : Int32)] (rx_hp L t (rx_u hi (rx_ct q3 + 1) j4 (vp_nar .byte ((Int32.toInt8 ((Int64.toInt32 (((Int64.toUInt64 (hl 81 j2)) >>> ((Int32.toInt64 ((4 : Int32) * (((hi 77 13) &&& (255 : Int32)) &&& (15 : Int32)))).toUInt64 &&& Int64.toUInt64 63)).toInt64)) &&& (15 : Int32))).toInt32))) hl v) (fun r h2 => ∃ z6 : Int32, r = some (.int z6) ∧ rx_ok2 L t h2 (fun hi6 hl6 v6 => rx_aw 82 8 [.ref 77, .int x1, .int x2, .int x3, .int (x4 + (1 : Int32)), rx_no, rx_no] [] (rx_hp L t (rx_u hi6 77 13 z6) hl6 v6) Q))))))))))) : rx_aw 82 8 [.ref 77, .int x1, .int x2, .int x3, .int x4, rx_no, rx_no] [] (rx_hp L t hi hl v) Q := by
  refine rx_aw_s 3 (pc := 8) rfl ?_
  refine rx_w_if (c := x3 ≤ x4) ⟨fun c1 => ?_, fun c1 => ?_⟩
  · have k := k.1 c1
    show rx_aw 82 97 [.ref 77, .int x1, .int x2, .int x3, .int x4, rx_no, rx_no] [] (rx_hp L t hi hl v) Q
    exact rx_aw_ret (pc := 97) rfl k
  · have k := k.2 c1
    show rx_aw 82 14 [.ref 77, .int x1, .int x2, .int x3, .int x4, rx_no, rx_no] [] (rx_hp L t hi hl v) Q
    refine rx_aw_s 14 (pc := 14) rfl ?_
    show rx_aw 82 38 [.ref 77, .int x1, .int x2, .int x3, .int x4, .int ((hi 77 13) &&& (255 : Int32)), rx_no] [.int (((16 : Int32) * x4) + (((hi 77 13) &&& (255 : Int32)) >>> ((4 : Int32) &&& 31))), .ref 81] (rx_hp L t hi hl v) Q
    obtain ⟨j2, ej2, hj2, k⟩ := k
    refine rx_aw_lald (pc := 38) (n := 6400) j2 ej2 rfl rfl (by decide) rfl hj2 (by decide) ?_
    show rx_aw 82 39 [.ref 77, .int x1, .int x2, .int x3, .int x4, .int ((hi 77 13) &&& (255 : Int32)), rx_no] [.long (hl 81 j2)] (rx_hp L t hi hl v) Q
    refine rx_aw_s 12 (pc := 39) rfl ?_
    show rx_aw 82 57 [.ref 77, .int x1, .int x2, .int x3, .int x4, .int ((hi 77 13) &&& (255 : Int32)), .int ((Int64.toInt32 (((Int64.toUInt64 (hl 81 j2)) >>> ((Int32.toInt64 ((4 : Int32) * (((hi 77 13) &&& (255 : Int32)) &&& (15 : Int32)))).toUInt64 &&& Int64.toUInt64 63)).toInt64)) &&& (15 : Int32))] [va_rf (v 77 8)] (rx_hp L t hi hl v) Q
    rcases k with ⟨eq3, k⟩ | ⟨q3, hq3, eq3, k⟩
    · rw [eq3]
      show rx_aw 82 57 [.ref 77, .int x1, .int x2, .int x3, .int x4, .int ((hi 77 13) &&& (255 : Int32)), .int ((Int64.toInt32 (((Int64.toUInt64 (hl 81 j2)) >>> ((Int32.toInt64 ((4 : Int32) * (((hi 77 13) &&& (255 : Int32)) &&& (15 : Int32)))).toUInt64 &&& Int64.toUInt64 63)).toInt64)) &&& (15 : Int32))] [.null] (rx_hp L t hi hl v) Q
      exact k.elim
    · rw [eq3]
      show rx_aw 82 57 [.ref 77, .int x1, .int x2, .int x3, .int x4, .int ((hi 77 13) &&& (255 : Int32)), .int ((Int64.toInt32 (((Int64.toUInt64 (hl 81 j2)) >>> ((Int32.toInt64 ((4 : Int32) * (((hi 77 13) &&& (255 : Int32)) &&& (15 : Int32)))).toUInt64 &&& Int64.toUInt64 63)).toInt64)) &&& (15 : Int32))] [.ref (rx_ct q3)] (rx_hp L t hi hl v) Q
      refine rx_w_cr hq3 (pc := 57) rfl (by decide) ?_
      show rx_aw 82 60 [.ref 77, .int x1, .int x2, .int x3, .int x4, .int ((hi 77 13) &&& (255 : Int32)), .int ((Int64.toInt32 (((Int64.toUInt64 (hl 81 j2)) >>> ((Int32.toInt64 ((4 : Int32) * (((hi 77 13) &&& (255 : Int32)) &&& (15 : Int32)))).toUInt64 &&& Int64.toUInt64 63)).toInt64)) &&& (15 : Int32))] [.ref (rx_ct q3 + 1)] (rx_hp L t hi hl v) Q
      refine rx_aw_s 3 (pc := 60) rfl ?_
      show rx_aw 82 65 [.ref 77, .int x1, .int x2, .int x3, .int x4, .int ((hi 77 13) &&& (255 : Int32)), .int ((Int64.toInt32 (((Int64.toUInt64 (hl 81 j2)) >>> ((Int32.toInt64 ((4 : Int32) * (((hi 77 13) &&& (255 : Int32)) &&& (15 : Int32)))).toUInt64 &&& Int64.toUInt64 63)).toInt64)) &&& (15 : Int32))] [.int ((Int32.toInt8 ((Int64.toInt32 (((Int64.toUInt64 (hl 81 j2)) >>> ((Int32.toInt64 ((4 : Int32) * (((hi 77 13) &&& (255 : Int32)) &&& (15 : Int32)))).toUInt64 &&& Int64.toUInt64 63)).toInt64)) &&& (15 : Int32))).toInt32), .int x4, .ref (rx_ct q3 + 1)] (rx_hp L t hi hl v) Q
      obtain ⟨j4, ej4, hj4, k⟩ := k
      refine rx_aw_bast (pc := 65) (n := 400) j4 ej4 rfl (rx_ck (rx_cart_s hq3).2.1) (Nat.lt_of_lt_of_le (rx_ct_pos _) (Nat.le_add_right _ _)) (rx_cle (rx_cart_s hq3).2.1) hj4 (by decide) ?_
      show rx_aw 82 66 [.ref 77, .int x1, .int x2, .int x3, .int x4, .int ((hi 77 13) &&& (255 : Int32)), .int ((Int64.toInt32 (((Int64.toUInt64 (hl 81 j2)) >>> ((Int32.toInt64 ((4 : Int32) * (((hi 77 13) &&& (255 : Int32)) &&& (15 : Int32)))).toUInt64 &&& Int64.toUInt64 63)).toInt64)) &&& (15 : Int32))] [] (rx_hp L t (rx_u hi (rx_ct q3 + 1) j4 (vp_nar .byte ((Int32.toInt8 ((Int64.toInt32 (((Int64.toUInt64 (hl 81 j2)) >>> ((Int32.toInt64 ((4 : Int32) * (((hi 77 13) &&& (255 : Int32)) &&& (15 : Int32)))).toUInt64 &&& Int64.toUInt64 63)).toInt64)) &&& (15 : Int32))).toInt32))) hl v) Q
      refine rx_aw_s 5 (pc := 66) rfl ?_
      show rx_aw 82 75 [.ref 77, .int x1, .int x2, .int x3, .int x4, .int ((hi 77 13) &&& (255 : Int32)), .int ((Int64.toInt32 (((Int64.toUInt64 (hl 81 j2)) >>> ((Int32.toInt64 ((4 : Int32) * (((hi 77 13) &&& (255 : Int32)) &&& (15 : Int32)))).toUInt64 &&& Int64.toUInt64 63)).toInt64)) &&& (15 : Int32))] [va_rf (v 77 8), .ref 7, .ref 77] (rx_hp L t (rx_u hi (rx_ct q3 + 1) j4 (vp_nar .byte ((Int32.toInt8 ((Int64.toInt32 (((Int64.toUInt64 (hl 81 j2)) >>> ((Int32.toInt64 ((4 : Int32) * (((hi 77 13) &&& (255 : Int32)) &&& (15 : Int32)))).toUInt64 &&& Int64.toUInt64 63)).toInt64)) &&& (15 : Int32))).toInt32))) hl v) Q
      rcases k with ⟨eq5, k⟩ | ⟨q5, hq5, eq5, k⟩
      · rw [eq5]
        show rx_aw 82 75 [.ref 77, .int x1, .int x2, .int x3, .int x4, .int ((hi 77 13) &&& (255 : Int32)), .int ((Int64.toInt32 (((Int64.toUInt64 (hl 81 j2)) >>> ((Int32.toInt64 ((4 : Int32) * (((hi 77 13) &&& (255 : Int32)) &&& (15 : Int32)))).toUInt64 &&& Int64.toUInt64 63)).toInt64)) &&& (15 : Int32))] [.null, .ref 7, .ref 77] (rx_hp L t (rx_u hi (rx_ct q3 + 1) j4 (vp_nar .byte ((Int32.toInt8 ((Int64.toInt32 (((Int64.toUInt64 (hl 81 j2)) >>> ((Int32.toInt64 ((4 : Int32) * (((hi 77 13) &&& (255 : Int32)) &&& (15 : Int32)))).toUInt64 &&& Int64.toUInt64 63)).toInt64)) &&& (15 : Int32))).toInt32))) hl v) Q
        exact k.elim
      · rw [eq5]
        show rx_aw 82 75 [.ref 77, .int x1, .int x2, .int x3, .int x4, .int ((hi 77 13) &&& (255 : Int32)), .int ((Int64.toInt32 (((Int64.toUInt64 (hl 81 j2)) >>> ((Int32.toInt64 ((4 : Int32) * (((hi 77 13) &&& (255 : Int32)) &&& (15 : Int32)))).toUInt64 &&& Int64.toUInt64 63)).toInt64)) &&& (15 : Int32))] [.ref (rx_ct q5), .ref 7, .ref 77] (rx_hp L t (rx_u hi (rx_ct q3 + 1) j4 (vp_nar .byte ((Int32.toInt8 ((Int64.toInt32 (((Int64.toUInt64 (hl 81 j2)) >>> ((Int32.toInt64 ((4 : Int32) * (((hi 77 13) &&& (255 : Int32)) &&& (15 : Int32)))).toUInt64 &&& Int64.toUInt64 63)).toInt64)) &&& (15 : Int32))).toInt32))) hl v) Q
        refine rx_w_cg hq5 (pc := 75) rfl (by decide) (by decide) ?_
        show rx_aw 82 78 [.ref 77, .int x1, .int x2, .int x3, .int x4, .int ((hi 77 13) &&& (255 : Int32)), .int ((Int64.toInt32 (((Int64.toUInt64 (hl 81 j2)) >>> ((Int32.toInt64 ((4 : Int32) * (((hi 77 13) &&& (255 : Int32)) &&& (15 : Int32)))).toUInt64 &&& Int64.toUInt64 63)).toInt64)) &&& (15 : Int32))] [.int ((rx_u hi (rx_ct q3 + 1) j4 (vp_nar .byte ((Int32.toInt8 ((Int64.toInt32 (((Int64.toUInt64 (hl 81 j2)) >>> ((Int32.toInt64 ((4 : Int32) * (((hi 77 13) &&& (255 : Int32)) &&& (15 : Int32)))).toUInt64 &&& Int64.toUInt64 63)).toInt64)) &&& (15 : Int32))).toInt32))) (rx_ct q5) 5), .ref 7, .ref 77] (rx_hp L t (rx_u hi (rx_ct q3 + 1) j4 (vp_nar .byte ((Int32.toInt8 ((Int64.toInt32 (((Int64.toUInt64 (hl 81 j2)) >>> ((Int32.toInt64 ((4 : Int32) * (((hi 77 13) &&& (255 : Int32)) &&& (15 : Int32)))).toUInt64 &&& Int64.toUInt64 63)).toInt64)) &&& (15 : Int32))).toInt32))) hl v) Q
        refine rx_aw_s 4 (pc := 78) rfl ?_
        show rx_aw 82 85 [.ref 77, .int x1, .int x2, .int x3, .int x4, .int ((hi 77 13) &&& (255 : Int32)), .int ((Int64.toInt32 (((Int64.toUInt64 (hl 81 j2)) >>> ((Int32.toInt64 ((4 : Int32) * (((hi 77 13) &&& (255 : Int32)) &&& (15 : Int32)))).toUInt64 &&& Int64.toUInt64 63)).toInt64)) &&& (15 : Int32))] [.int (-1 : Int32), .int ((Int64.toInt32 (((Int64.toUInt64 (hl 81 j2)) >>> ((Int32.toInt64 ((4 : Int32) * (((hi 77 13) &&& (255 : Int32)) &&& (15 : Int32)))).toUInt64 &&& Int64.toUInt64 63)).toInt64)) &&& (15 : Int32)), .int ((rx_u hi (rx_ct q3 + 1) j4 (vp_nar .byte ((Int32.toInt8 ((Int64.toInt32 (((Int64.toUInt64 (hl 81 j2)) >>> ((Int32.toInt64 ((4 : Int32) * (((hi 77 13) &&& (255 : Int32)) &&& (15 : Int32)))).toUInt64 &&& Int64.toUInt64 63)).toInt64)) &&& (15 : Int32))).toInt32))) 77 13), .int ((rx_u hi (rx_ct q3 + 1) j4 (vp_nar .byte ((Int32.toInt8 ((Int64.toInt32 (((Int64.toUInt64 (hl 81 j2)) >>> ((Int32.toInt64 ((4 : Int32) * (((hi 77 13) &&& (255 : Int32)) &&& (15 : Int32)))).toUInt64 &&& Int64.toUInt64 63)).toInt64)) &&& (15 : Int32))).toInt32))) (rx_ct q5) 5), .ref 7, .ref 77] (rx_hp L t (rx_u hi (rx_ct q3 + 1) j4 (vp_nar .byte ((Int32.toInt8 ((Int64.toInt32 (((Int64.toUInt64 (hl 81 j2)) >>> ((Int32.toInt64 ((4 : Int32) * (((hi 77 13) &&& (255 : Int32)) &&& (15 : Int32)))).toUInt64 &&& Int64.toUInt64 63)).toInt64)) &&& (15 : Int32))).toInt32))) hl v) Q
        refine rx_w_callI (j := 49) (pc := 85) rfl rfl rfl rfl rfl ?_
        refine rx_aw.mono k (fun r h2 k => ?_)
        obtain ⟨z6, rfl, hi6, hl6, v6, rfl, k⟩ := k
        refine ⟨z6, rfl, ?_⟩
        show rx_aw 82 88 [.ref 77, .int x1, .int x2, .int x3, .int x4, .int ((hi 77 13) &&& (255 : Int32)), .int ((Int64.toInt32 (((Int64.toUInt64 (hl 81 j2)) >>> ((Int32.toInt64 ((4 : Int32) * (((hi 77 13) &&& (255 : Int32)) &&& (15 : Int32)))).toUInt64 &&& Int64.toUInt64 63)).toInt64)) &&& (15 : Int32))] [.int z6, .ref 77] (rx_hp L t hi6 hl6 v6) Q
        refine rx_aw_s 3 (pc := 88) rfl ?_
        show rx_aw 82 8 [.ref 77, .int x1, .int x2, .int x3, .int (x4 + (1 : Int32)), .int ((hi 77 13) &&& (255 : Int32)), .int ((Int64.toInt32 (((Int64.toUInt64 (hl 81 j2)) >>> ((Int32.toInt64 ((4 : Int32) * (((hi 77 13) &&& (255 : Int32)) &&& (15 : Int32)))).toUInt64 &&& Int64.toUInt64 63)).toInt64)) &&& (15 : Int32))] [] (rx_hp L t (rx_u hi6 77 13 z6) hl6 v6) Q
        exact rx_aw_le (ls := [.ref 77, .int x1, .int x2, .int x3, .int (x4 + (1 : Int32)), rx_no, rx_no]) ⟨Or.inr rfl, ⟨Or.inr rfl, ⟨Or.inr rfl, ⟨Or.inr rfl, ⟨Or.inr rfl, ⟨Or.inl rfl, ⟨Or.inl rfl, trivial⟩⟩⟩⟩⟩⟩⟩ k
set_option maxRecDepth 100000 in
/-- CartFloor$Planner.act(LCartFloor$Cart;II)I -/
theorem w83_act {L : Nat} {t : List (Nat × Nat)} {hi : Nat → Nat → Int32} {hl : Nat → Nat → Int64} {v : Nat → Nat → Option Nat} {Q : Option Value → rx_H → Prop} {c0 : Nat} (hc0 : c0 < 6) {a1 : Int32} {a2 : Int32} (k : rx_me 49 [.ref 7, .int (hi (rx_ct c0) 5), .int (hi 77 13), .int a1, .int (hi (rx_ct c0) 9)] (rx_hp L t hi hl v) (fun r h2 => ∃ z1 : Int32, r = some (.int z1) ∧ rx_ok2 L t h2 (fun hi1 hl1 v1 => (((400 : Int32) ≤ a2 → Q (some (.int (-1 : Int32))) (rx_hp L t hi1 hl1 v1)) ∧ (¬ ((400 : Int32) ≤ a2) → ((0 ≤ z1 → rx_me 48 [.int z1] (rx_hp L t hi1 hl1 v1) (fun r h2 => ∃ z4 : Int32, r = some (.int z4) ∧ rx_ok2 L t h2 (fun hi4 hl4 v4 => rx_me 66 [.ref 13, .ref (rx_ct c0), .int z4, .int (a2 + (1 : Int32))] (rx_hp L t hi4 hl4 v4) (fun r h2 => ∃ z5 : Int64, r = some (.long z5) ∧ rx_ok2 L t h2 (fun hi5 hl5 v5 => rx_me 42 [.ref 7, .int (hi5 (rx_ct c0) 5), .int z1] (rx_hp L t hi5 hl5 v5) (fun r h2 => ∃ z6 : Int64, r = some (.long z6) ∧ rx_ok2 L t h2 (fun hi6 hl6 v6 => (((lg_cmp (z6 &&& z5) (0 : Int64)) = 0 → (∃ j8 : Nat, a2 = nI j8 ∧ j8 < 400 ∧ Q (some (.int (a2 + (1 : Int32)))) (rx_hp L t (rx_u (rx_u hi6 (rx_ct c0 + 1) j8 (vp_nar .byte ((Int32.toInt8 a1).toInt32))) 77 13 z1) hl6 v6))) ∧ (¬ ((lg_cmp (z6 &&& z5) (0 : Int64)) = 0) → Q (some (.int (-1 : Int32))) (rx_hp L t hi6 hl6 v6)))))))))) ∧ (¬ (0 ≤ z1) → Q (some (.int (-1 : Int32))) (rx_hp L t hi1 hl1 v1)))))))) : rx_me 83 [.ref 76, .ref (rx_ct c0), .int a1, .int a2] (rx_hp L t hi hl v) Q := by
  show rx_aw 83 0 [.ref 76, .ref (rx_ct c0), .int a1, .int a2, rx_no, rx_no, rx_no] [] (rx_hp L t hi hl v) Q
  refine rx_aw_s 3 (pc := 0) rfl ?_
  show rx_aw 83 5 [.ref 76, .ref (rx_ct c0), .int a1, .int a2, rx_no, rx_no, rx_no] [.ref (rx_ct c0), .ref 7] (rx_hp L t hi hl v) Q
  refine rx_w_cg hc0 (pc := 5) rfl (by decide) (by decide) ?_
  show rx_aw 83 8 [.ref 76, .ref (rx_ct c0), .int a1, .int a2, rx_no, rx_no, rx_no] [.int (hi (rx_ct c0) 5), .ref 7] (rx_hp L t hi hl v) Q
  refine rx_aw_s 5 (pc := 8) rfl ?_
  show rx_aw 83 17 [.ref 76, .ref (rx_ct c0), .int a1, .int a2, rx_no, rx_no, rx_no] [.ref (rx_ct c0), .int a1, .int (hi 77 13), .int (hi (rx_ct c0) 5), .ref 7] (rx_hp L t hi hl v) Q
  refine rx_w_cg hc0 (pc := 17) rfl (by decide) (by decide) ?_
  show rx_aw 83 20 [.ref 76, .ref (rx_ct c0), .int a1, .int a2, rx_no, rx_no, rx_no] [.int (hi (rx_ct c0) 9), .int a1, .int (hi 77 13), .int (hi (rx_ct c0) 5), .ref 7] (rx_hp L t hi hl v) Q
  refine rx_w_callI (j := 49) (pc := 20) rfl rfl rfl rfl rfl ?_
  refine rx_aw.mono k (fun r h2 k => ?_)
  obtain ⟨z1, rfl, hi1, hl1, v1, rfl, k⟩ := k
  refine ⟨z1, rfl, ?_⟩
  show rx_aw 83 23 [.ref 76, .ref (rx_ct c0), .int a1, .int a2, rx_no, rx_no, rx_no] [.int z1] (rx_hp L t hi1 hl1 v1) Q
  refine rx_aw_s 4 (pc := 23) rfl ?_
  refine rx_w_if (c := (400 : Int32) ≤ a2) ⟨fun c2 => ?_, fun c2 => ?_⟩
  · have k := k.1 c2
    show rx_aw 83 37 [.ref 76, .ref (rx_ct c0), .int a1, .int a2, .int z1, rx_no, rx_no] [] (rx_hp L t hi1 hl1 v1) Q
    refine rx_aw_s 1 (pc := 37) rfl ?_
    show rx_aw 83 38 [.ref 76, .ref (rx_ct c0), .int a1, .int a2, .int z1, rx_no, rx_no] [.int (-1 : Int32)] (rx_hp L t hi1 hl1 v1) Q
    exact rx_aw_ret (pc := 38) rfl k
  · have k := k.2 c2
    show rx_aw 83 32 [.ref 76, .ref (rx_ct c0), .int a1, .int a2, .int z1, rx_no, rx_no] [] (rx_hp L t hi1 hl1 v1) Q
    refine rx_aw_s 2 (pc := 32) rfl ?_
    refine rx_w_if (c := 0 ≤ z1) ⟨fun c3 => ?_, fun c3 => ?_⟩
    · have k := k.1 c3
      show rx_aw 83 39 [.ref 76, .ref (rx_ct c0), .int a1, .int a2, .int z1, rx_no, rx_no] [] (rx_hp L t hi1 hl1 v1) Q
      refine rx_aw_s 4 (pc := 39) rfl ?_
      show rx_aw 83 46 [.ref 76, .ref (rx_ct c0), .int a1, .int a2, .int z1, rx_no, rx_no] [.int z1, .ref (rx_ct c0), .ref 13] (rx_hp L t hi1 hl1 v1) Q
      refine rx_w_callI (j := 48) (pc := 46) rfl rfl rfl rfl rfl ?_
      refine rx_aw.mono k (fun r h2 k => ?_)
      obtain ⟨z4, rfl, hi4, hl4, v4, rfl, k⟩ := k
      refine ⟨z4, rfl, ?_⟩
      show rx_aw 83 49 [.ref 76, .ref (rx_ct c0), .int a1, .int a2, .int z1, rx_no, rx_no] [.int z4, .ref (rx_ct c0), .ref 13] (rx_hp L t hi4 hl4 v4) Q
      refine rx_aw_s 3 (pc := 49) rfl ?_
      show rx_aw 83 52 [.ref 76, .ref (rx_ct c0), .int a1, .int a2, .int z1, rx_no, rx_no] [.int (a2 + (1 : Int32)), .int z4, .ref (rx_ct c0), .ref 13] (rx_hp L t hi4 hl4 v4) Q
      refine rx_w_callL (j := 66) (pc := 52) rfl rfl rfl rfl rfl ?_
      refine rx_aw.mono k (fun r h2 k => ?_)
      obtain ⟨z5, rfl, hi5, hl5, v5, rfl, k⟩ := k
      refine ⟨z5, rfl, ?_⟩
      show rx_aw 83 55 [.ref 76, .ref (rx_ct c0), .int a1, .int a2, .int z1, rx_no, rx_no] [.long z5] (rx_hp L t hi5 hl5 v5) Q
      refine rx_aw_s 4 (pc := 55) rfl ?_
      show rx_aw 83 62 [.ref 76, .ref (rx_ct c0), .int a1, .int a2, .int z1, .long z5, rx_no] [.ref (rx_ct c0), .ref 7] (rx_hp L t hi5 hl5 v5) Q
      refine rx_w_cg hc0 (pc := 62) rfl (by decide) (by decide) ?_
      show rx_aw 83 65 [.ref 76, .ref (rx_ct c0), .int a1, .int a2, .int z1, .long z5, rx_no] [.int (hi5 (rx_ct c0) 5), .ref 7] (rx_hp L t hi5 hl5 v5) Q
      refine rx_aw_s 1 (pc := 65) rfl ?_
      show rx_aw 83 67 [.ref 76, .ref (rx_ct c0), .int a1, .int a2, .int z1, .long z5, rx_no] [.int z1, .int (hi5 (rx_ct c0) 5), .ref 7] (rx_hp L t hi5 hl5 v5) Q
      refine rx_w_callL (j := 42) (pc := 67) rfl rfl rfl rfl rfl ?_
      refine rx_aw.mono k (fun r h2 k => ?_)
      obtain ⟨z6, rfl, hi6, hl6, v6, rfl, k⟩ := k
      refine ⟨z6, rfl, ?_⟩
      show rx_aw 83 70 [.ref 76, .ref (rx_ct c0), .int a1, .int a2, .int z1, .long z5, rx_no] [.long z6] (rx_hp L t hi6 hl6 v6) Q
      refine rx_aw_s 5 (pc := 70) rfl ?_
      refine rx_w_if (c := (lg_cmp (z6 &&& z5) (0 : Int64)) = 0) ⟨fun c7 => ?_, fun c7 => ?_⟩
      · have k := k.1 c7
        show rx_aw 83 80 [.ref 76, .ref (rx_ct c0), .int a1, .int a2, .int z1, .long z5, rx_no] [] (rx_hp L t hi6 hl6 v6) Q
        refine rx_aw_s 1 (pc := 80) rfl ?_
        show rx_aw 83 81 [.ref 76, .ref (rx_ct c0), .int a1, .int a2, .int z1, .long z5, rx_no] [.ref (rx_ct c0)] (rx_hp L t hi6 hl6 v6) Q
        refine rx_w_cr hc0 (pc := 81) rfl (by decide) ?_
        show rx_aw 83 84 [.ref 76, .ref (rx_ct c0), .int a1, .int a2, .int z1, .long z5, rx_no] [.ref (rx_ct c0 + 1)] (rx_hp L t hi6 hl6 v6) Q
        refine rx_aw_s 3 (pc := 84) rfl ?_
        show rx_aw 83 87 [.ref 76, .ref (rx_ct c0), .int a1, .int a2, .int z1, .long z5, rx_no] [.int ((Int32.toInt8 a1).toInt32), .int a2, .ref (rx_ct c0 + 1)] (rx_hp L t hi6 hl6 v6) Q
        obtain ⟨j8, ej8, hj8, k⟩ := k
        refine rx_aw_bast (pc := 87) (n := 400) j8 ej8 rfl (rx_ck (rx_cart_s hc0).2.1) (Nat.lt_of_lt_of_le (rx_ct_pos _) (Nat.le_add_right _ _)) (rx_cle (rx_cart_s hc0).2.1) hj8 (by decide) ?_
        show rx_aw 83 88 [.ref 76, .ref (rx_ct c0), .int a1, .int a2, .int z1, .long z5, rx_no] [] (rx_hp L t (rx_u hi6 (rx_ct c0 + 1) j8 (vp_nar .byte ((Int32.toInt8 a1).toInt32))) hl6 v6) Q
        refine rx_aw_s 7 (pc := 88) rfl ?_
        show rx_aw 83 100 [.ref 76, .ref (rx_ct c0), .int a1, .int a2, .int z1, .long z5, rx_no] [.int (a2 + (1 : Int32))] (rx_hp L t (rx_u (rx_u hi6 (rx_ct c0 + 1) j8 (vp_nar .byte ((Int32.toInt8 a1).toInt32))) 77 13 z1) hl6 v6) Q
        exact rx_aw_ret (pc := 100) rfl k
      · have k := k.2 c7
        show rx_aw 83 78 [.ref 76, .ref (rx_ct c0), .int a1, .int a2, .int z1, .long z5, rx_no] [] (rx_hp L t hi6 hl6 v6) Q
        refine rx_aw_s 1 (pc := 78) rfl ?_
        show rx_aw 83 79 [.ref 76, .ref (rx_ct c0), .int a1, .int a2, .int z1, .long z5, rx_no] [.int (-1 : Int32)] (rx_hp L t hi6 hl6 v6) Q
        exact rx_aw_ret (pc := 79) rfl k
    · have k := k.2 c3
      show rx_aw 83 37 [.ref 76, .ref (rx_ct c0), .int a1, .int a2, .int z1, rx_no, rx_no] [] (rx_hp L t hi1 hl1 v1) Q
      refine rx_aw_s 1 (pc := 37) rfl ?_
      show rx_aw 83 38 [.ref 76, .ref (rx_ct c0), .int a1, .int a2, .int z1, rx_no, rx_no] [.int (-1 : Int32)] (rx_hp L t hi1 hl1 v1) Q
      exact rx_aw_ret (pc := 38) rfl k
set_option maxRecDepth 100000 in
/-- CartFloor.many()I -/
theorem w84_many {L : Nat} {t : List (Nat × Nat)} {hi : Nat → Nat → Int32} {hl : Nat → Nat → Int64} {v : Nat → Nat → Option Nat} {Q : Option Value → rx_H → Prop}  (k : rx_aw 84 4 [.ref 1, .int (0 : Int32), .int (0 : Int32), rx_no] [] (rx_hp L t hi hl v) Q) : rx_me 84 [.ref 1] (rx_hp L t hi hl v) Q := by
  show rx_aw 84 0 [.ref 1, rx_no, rx_no, rx_no] [] (rx_hp L t hi hl v) Q
  refine rx_aw_s 4 (pc := 0) rfl ?_
  show rx_aw 84 4 [.ref 1, .int (0 : Int32), .int (0 : Int32), rx_no] [] (rx_hp L t hi hl v) Q
  exact k
set_option maxRecDepth 100000 in
theorem w84_many_4 {L : Nat} {t : List (Nat × Nat)} {hi : Nat → Nat → Int32} {hl : Nat → Nat → Int64} {v : Nat → Nat → Option Nat} {Q : Option Value → rx_H → Prop} {x1 : Int32} {x2 : Int32} (k : (((hi 13 3) ≤ x2 → Q (some (.int x1)) (rx_hp L t hi hl v)) ∧ (¬ ((hi 13 3) ≤ x2) → (∃ j2 : Nat, x2 = nI j2 ∧ j2 < 6 ∧ rx_me 62 [.ref (rx_ct j2)] (rx_hp L t hi hl v) (fun r h2 => ∃ z3 : Int32, r = some (.int z3) ∧ rx_ok2 L t h2 (fun hi3 hl3 v3 => ((z3 = 0 → rx_aw 84 4 [.ref 1, .int x1, .int (x2 + (1 : Int32)), rx_no] [] (rx_hp L t hi3 hl3 v3) Q) ∧ (¬ (z3 = 0) → rx_me 63 [.ref 76, .ref (rx_ct j2), .int (0 : Int32)] (rx_hp L t hi3 hl3 v3) (fun r h2 => ∃ z5 : Int32, r = some (.int z5) ∧ rx_ok2 L t h2 (fun hi5 hl5 v5 => ((z5 = 0 → rx_aw 84 4 [.ref 1, .int x1, .int (x2 + (1 : Int32)), rx_no] [] (rx_hp L t hi5 hl5 v5) Q) ∧ (¬ (z5 = 0) → rx_aw 84 4 [.ref 1, .int (x1 + (1 : Int32)), .int (x2 + (1 : Int32)), rx_no] [] (rx_hp L t hi5 hl5 v5) Q)))))))))))) : rx_aw 84 4 [.ref 1, .int x1, .int x2, rx_no] [] (rx_hp L t hi hl v) Q := by
  refine rx_aw_s 5 (pc := 4) rfl ?_
  refine rx_w_if (c := (hi 13 3) ≤ x2) ⟨fun c1 => ?_, fun c1 => ?_⟩
  · have k := k.1 c1
    show rx_aw 84 53 [.ref 1, .int x1, .int x2, rx_no] [] (rx_hp L t hi hl v) Q
    refine rx_aw_s 1 (pc := 53) rfl ?_
    show rx_aw 84 54 [.ref 1, .int x1, .int x2, rx_no] [.int x1] (rx_hp L t hi hl v) Q
    exact rx_aw_ret (pc := 54) rfl k
  · have k := k.2 c1
    show rx_aw 84 15 [.ref 1, .int x1, .int x2, rx_no] [] (rx_hp L t hi hl v) Q
    refine rx_aw_s 4 (pc := 15) rfl ?_
    show rx_aw 84 23 [.ref 1, .int x1, .int x2, rx_no] [.int x2, .ref 14] (rx_hp L t hi hl v) Q
    obtain ⟨j2, ej2, hj2, k⟩ := k
    refine rx_w_carts (pc := 23) rfl ⟨j2, ej2, hj2, ?_⟩
    show rx_aw 84 24 [.ref 1, .int x1, .int x2, rx_no] [.ref (rx_ct j2)] (rx_hp L t hi hl v) Q
    refine rx_aw_s 2 (pc := 24) rfl ?_
    show rx_aw 84 26 [.ref 1, .int x1, .int x2, .ref (rx_ct j2)] [.ref (rx_ct j2)] (rx_hp L t hi hl v) Q
    refine rx_w_callI (j := 62) (pc := 26) rfl rfl rfl rfl (rx_mayc rfl rfl rfl rfl (rx_ck (rx_cart_s hj2).1) (rx_ct_pos _)) ?_
    refine rx_aw.mono k (fun r h2 k => ?_)
    obtain ⟨z3, rfl, hi3, hl3, v3, rfl, k⟩ := k
    refine ⟨z3, rfl, ?_⟩
    show rx_aw 84 29 [.ref 1, .int x1, .int x2, .ref (rx_ct j2)] [.int z3] (rx_hp L t hi3 hl3 v3) Q
    refine rx_aw_s 1 (pc := 29) rfl ?_
    refine rx_w_if (c := z3 = 0) ⟨fun c4 => ?_, fun c4 => ?_⟩
    · have k := k.1 c4
      show rx_aw 84 47 [.ref 1, .int x1, .int x2, .ref (rx_ct j2)] [] (rx_hp L t hi3 hl3 v3) Q
      refine rx_aw_s 2 (pc := 47) rfl ?_
      show rx_aw 84 4 [.ref 1, .int x1, .int (x2 + (1 : Int32)), .ref (rx_ct j2)] [] (rx_hp L t hi3 hl3 v3) Q
      exact rx_aw_le (ls := [.ref 1, .int x1, .int (x2 + (1 : Int32)), rx_no]) ⟨Or.inr rfl, ⟨Or.inr rfl, ⟨Or.inr rfl, ⟨Or.inl rfl, trivial⟩⟩⟩⟩ k
    · have k := k.2 c4
      show rx_aw 84 32 [.ref 1, .int x1, .int x2, .ref (rx_ct j2)] [] (rx_hp L t hi3 hl3 v3) Q
      refine rx_aw_s 4 (pc := 32) rfl ?_
      show rx_aw 84 38 [.ref 1, .int x1, .int x2, .ref (rx_ct j2)] [.int (0 : Int32), .ref (rx_ct j2), .ref 76] (rx_hp L t hi3 hl3 v3) Q
      refine rx_w_callI (j := 63) (pc := 38) rfl rfl rfl rfl rfl ?_
      refine rx_aw.mono k (fun r h2 k => ?_)
      obtain ⟨z5, rfl, hi5, hl5, v5, rfl, k⟩ := k
      refine ⟨z5, rfl, ?_⟩
      show rx_aw 84 41 [.ref 1, .int x1, .int x2, .ref (rx_ct j2)] [.int z5] (rx_hp L t hi5 hl5 v5) Q
      refine rx_aw_s 1 (pc := 41) rfl ?_
      refine rx_w_if (c := z5 = 0) ⟨fun c6 => ?_, fun c6 => ?_⟩
      · have k := k.1 c6
        show rx_aw 84 47 [.ref 1, .int x1, .int x2, .ref (rx_ct j2)] [] (rx_hp L t hi5 hl5 v5) Q
        refine rx_aw_s 2 (pc := 47) rfl ?_
        show rx_aw 84 4 [.ref 1, .int x1, .int (x2 + (1 : Int32)), .ref (rx_ct j2)] [] (rx_hp L t hi5 hl5 v5) Q
        exact rx_aw_le (ls := [.ref 1, .int x1, .int (x2 + (1 : Int32)), rx_no]) ⟨Or.inr rfl, ⟨Or.inr rfl, ⟨Or.inr rfl, ⟨Or.inl rfl, trivial⟩⟩⟩⟩ k
      · have k := k.2 c6
        show rx_aw 84 44 [.ref 1, .int x1, .int x2, .ref (rx_ct j2)] [] (rx_hp L t hi5 hl5 v5) Q
        refine rx_aw_s 3 (pc := 44) rfl ?_
        show rx_aw 84 4 [.ref 1, .int (x1 + (1 : Int32)), .int (x2 + (1 : Int32)), .ref (rx_ct j2)] [] (rx_hp L t hi5 hl5 v5) Q
        exact rx_aw_le (ls := [.ref 1, .int (x1 + (1 : Int32)), .int (x2 + (1 : Int32)), rx_no]) ⟨Or.inr rfl, ⟨Or.inr rfl, ⟨Or.inr rfl, ⟨Or.inl rfl, trivial⟩⟩⟩⟩ k
set_option maxRecDepth 100000 in
/-- CartFloor.stop(II)I -/
theorem w85_stop {L : Nat} {t : List (Nat × Nat)} {hi : Nat → Nat → Int32} {hl : Nat → Nat → Int64} {v : Nat → Nat → Option Nat} {Q : Option Value → rx_H → Prop} {a0 : Int32} {a1 : Int32} (k : rx_me 59 [.ref 13, .int a0] (rx_hp L t hi hl v) (fun r h2 => ∃ z1 : Option Nat, r = some (va_rf z1) ∧ rx_ok2 L t h2 (fun hi1 hl1 v1 => (z1 = none ∧ Q (some (.int (-2 : Int32))) (rx_hp L t hi1 hl1 v1)) ∨ (∃ q1 : Nat, q1 < 6 ∧ z1 = some (rx_ct q1) ∧ (((hi1 (rx_ct q1) 5) = (3 : Int32) → Q (some (.int (-2 : Int32))) (rx_hp L t hi1 hl1 v1)) ∧ (¬ ((hi1 (rx_ct q1) 5) = (3 : Int32)) → (((hi1 (rx_ct q1) 10) = 0 → ((a1 < (hi1 76 3) → Q (some (.int (-2 : Int32))) (rx_hp L t hi1 hl1 v1)) ∧ (¬ (a1 < (hi1 76 3)) → ((a1 ≤ (400 : Int32) → rx_me 86 [.ref 13] (rx_hp L t hi1 hl1 v1) (fun r h2 => r = none ∧ rx_ok2 L t h2 (fun hi6 hl6 v6 => rx_me 88 [.ref (rx_ct q1), .int a1] (rx_hp L t hi6 hl6 v6) (fun r h2 => r = none ∧ rx_ok2 L t h2 (fun hi7 hl7 v7 => rx_me 41 [.ref 13] (rx_hp L t (rx_u hi7 (rx_ct q1) 10 (1 : Int32)) hl7 v7) (fun r h2 => r = none ∧ rx_ok2 L t h2 (fun hi8 hl8 v8 => rx_me 89 [.ref 76, .int a1] (rx_hp L t hi8 hl8 v8) (fun r h2 => ∃ z9 : Int32, r = some (.int z9) ∧ rx_ok2 L t h2 (fun hi9 hl9 v9 => rx_me 90 [.ref 13, .int a1, .int (1 : Int32)] (rx_hp L t hi9 hl9 v9) (fun r h2 => ∃ z10 : Int32, r = some (.int z10) ∧ rx_ok2 L t h2 (fun hi10 hl10 v10 => ((z10 < 0 → Q (some (.int z9)) (rx_hp L t (rx_u hi10 76 3 a1) hl10 v10)) ∧ (¬ (z10 < 0) → rx_me 94 [.ref 13] (rx_hp L t hi10 hl10 v10) (fun r h2 => r = none ∧ rx_ok2 L t h2 (fun hi12 hl12 v12 => Q (some (.int (-3 : Int32))) (rx_hp L t hi12 hl12 v12)))))))))))))))) ∧ (¬ (a1 ≤ (400 : Int32)) → Q (some (.int (-2 : Int32))) (rx_hp L t hi1 hl1 v1)))))) ∧ (¬ ((hi1 (rx_ct q1) 10) = 0) → Q (some (.int (-2 : Int32))) (rx_hp L t hi1 hl1 v1))))))))) : rx_me 85 [.ref 1, .int a0, .int a1] (rx_hp L t hi hl v) Q := by
  show rx_aw 85 0 [.ref 1, .int a0, .int a1, rx_no, rx_no] [] (rx_hp L t hi hl v) Q
  refine rx_aw_s 3 (pc := 0) rfl ?_
  show rx_aw 85 5 [.ref 1, .int a0, .int a1, rx_no, rx_no] [.int a0, .ref 13] (rx_hp L t hi hl v) Q
  refine rx_w_callR (j := 59) (pc := 5) rfl rfl rfl rfl rfl ?_
  refine rx_aw.mono k (fun r h2 k => ?_)
  obtain ⟨z1, rfl, hi1, hl1, v1, rfl, k⟩ := k
  refine ⟨z1, rfl, ?_⟩
  rcases k with ⟨rfl, k⟩ | ⟨q1, hq1, rfl, k⟩
  · show rx_aw 85 8 [.ref 1, .int a0, .int a1, rx_no, rx_no] [.null] (rx_hp L t hi1 hl1 v1) Q
    refine rx_aw_s 4 (pc := 8) rfl ?_
    show rx_aw 85 48 [.ref 1, .int a0, .int a1, .null, rx_no] [.int (-2 : Int32)] (rx_hp L t hi1 hl1 v1) Q
    exact rx_aw_ret (pc := 48) rfl k
  · show rx_aw 85 8 [.ref 1, .int a0, .int a1, rx_no, rx_no] [.ref (rx_ct q1)] (rx_hp L t hi1 hl1 v1) Q
    refine rx_aw_s 4 (pc := 8) rfl ?_
    show rx_aw 85 14 [.ref 1, .int a0, .int a1, .ref (rx_ct q1), rx_no] [.ref (rx_ct q1)] (rx_hp L t hi1 hl1 v1) Q
    refine rx_w_cg hq1 (pc := 14) rfl (by decide) (by decide) ?_
    show rx_aw 85 17 [.ref 1, .int a0, .int a1, .ref (rx_ct q1), rx_no] [.int (hi1 (rx_ct q1) 5)] (rx_hp L t hi1 hl1 v1) Q
    refine rx_aw_s 2 (pc := 17) rfl ?_
    refine rx_w_if (c := (hi1 (rx_ct q1) 5) = (3 : Int32)) ⟨fun c2 => ?_, fun c2 => ?_⟩
    · have k := k.1 c2
      show rx_aw 85 46 [.ref 1, .int a0, .int a1, .ref (rx_ct q1), rx_no] [] (rx_hp L t hi1 hl1 v1) Q
      refine rx_aw_s 1 (pc := 46) rfl ?_
      show rx_aw 85 48 [.ref 1, .int a0, .int a1, .ref (rx_ct q1), rx_no] [.int (-2 : Int32)] (rx_hp L t hi1 hl1 v1) Q
      exact rx_aw_ret (pc := 48) rfl k
    · have k := k.2 c2
      show rx_aw 85 21 [.ref 1, .int a0, .int a1, .ref (rx_ct q1), rx_no] [] (rx_hp L t hi1 hl1 v1) Q
      refine rx_aw_s 1 (pc := 21) rfl ?_
      show rx_aw 85 22 [.ref 1, .int a0, .int a1, .ref (rx_ct q1), rx_no] [.ref (rx_ct q1)] (rx_hp L t hi1 hl1 v1) Q
      refine rx_w_cg hq1 (pc := 22) rfl (by decide) (by decide) ?_
      show rx_aw 85 25 [.ref 1, .int a0, .int a1, .ref (rx_ct q1), rx_no] [.int (hi1 (rx_ct q1) 10)] (rx_hp L t hi1 hl1 v1) Q
      refine rx_aw_s 1 (pc := 25) rfl ?_
      refine rx_w_ifn (c := (hi1 (rx_ct q1) 10) = 0) ⟨fun c3 => ?_, fun c3 => ?_⟩
      · have k := k.1 c3
        show rx_aw 85 28 [.ref 1, .int a0, .int a1, .ref (rx_ct q1), rx_no] [] (rx_hp L t hi1 hl1 v1) Q
        refine rx_aw_s 5 (pc := 28) rfl ?_
        refine rx_w_if (c := a1 < (hi1 76 3)) ⟨fun c4 => ?_, fun c4 => ?_⟩
        · have k := k.1 c4
          show rx_aw 85 46 [.ref 1, .int a0, .int a1, .ref (rx_ct q1), rx_no] [] (rx_hp L t hi1 hl1 v1) Q
          refine rx_aw_s 1 (pc := 46) rfl ?_
          show rx_aw 85 48 [.ref 1, .int a0, .int a1, .ref (rx_ct q1), rx_no] [.int (-2 : Int32)] (rx_hp L t hi1 hl1 v1) Q
          exact rx_aw_ret (pc := 48) rfl k
        · have k := k.2 c4
          show rx_aw 85 39 [.ref 1, .int a0, .int a1, .ref (rx_ct q1), rx_no] [] (rx_hp L t hi1 hl1 v1) Q
          refine rx_aw_s 3 (pc := 39) rfl ?_
          refine rx_w_if (c := a1 ≤ (400 : Int32)) ⟨fun c5 => ?_, fun c5 => ?_⟩
          · have k := k.1 c5
            show rx_aw 85 49 [.ref 1, .int a0, .int a1, .ref (rx_ct q1), rx_no] [] (rx_hp L t hi1 hl1 v1) Q
            refine rx_aw_s 2 (pc := 49) rfl ?_
            show rx_aw 85 53 [.ref 1, .int a0, .int a1, .ref (rx_ct q1), rx_no] [.ref 13] (rx_hp L t hi1 hl1 v1) Q
            refine rx_w_callV (j := 86) (pc := 53) rfl rfl rfl rfl rfl ?_
            refine rx_aw.mono k (fun r h2 k => ?_)
            obtain ⟨rfl, hi6, hl6, v6, rfl, k⟩ := k
            refine ⟨rfl, ?_⟩
            show rx_aw 85 56 [.ref 1, .int a0, .int a1, .ref (rx_ct q1), rx_no] [] (rx_hp L t hi6 hl6 v6) Q
            refine rx_aw_s 2 (pc := 56) rfl ?_
            show rx_aw 85 58 [.ref 1, .int a0, .int a1, .ref (rx_ct q1), rx_no] [.int a1, .ref (rx_ct q1)] (rx_hp L t hi6 hl6 v6) Q
            refine rx_w_callV (j := 88) (pc := 58) rfl rfl rfl rfl (rx_mayc rfl rfl rfl rfl (rx_ck (rx_cart_s hq1).1) (rx_ct_pos _)) ?_
            refine rx_aw.mono k (fun r h2 k => ?_)
            obtain ⟨rfl, hi7, hl7, v7, rfl, k⟩ := k
            refine ⟨rfl, ?_⟩
            show rx_aw 85 61 [.ref 1, .int a0, .int a1, .ref (rx_ct q1), rx_no] [] (rx_hp L t hi7 hl7 v7) Q
            refine rx_aw_s 2 (pc := 61) rfl ?_
            show rx_aw 85 63 [.ref 1, .int a0, .int a1, .ref (rx_ct q1), rx_no] [.int (1 : Int32), .ref (rx_ct q1)] (rx_hp L t hi7 hl7 v7) Q
            refine rx_w_cp hq1 (pc := 63) rfl rfl (by decide) ?_
            show rx_aw 85 66 [.ref 1, .int a0, .int a1, .ref (rx_ct q1), rx_no] [] (rx_hp L t (rx_u hi7 (rx_ct q1) 10 (1 : Int32)) hl7 v7) Q
            refine rx_aw_s 2 (pc := 66) rfl ?_
            show rx_aw 85 70 [.ref 1, .int a0, .int a1, .ref (rx_ct q1), rx_no] [.ref 13] (rx_hp L t (rx_u hi7 (rx_ct q1) 10 (1 : Int32)) hl7 v7) Q
            refine rx_w_callV (j := 41) (pc := 70) rfl rfl rfl rfl rfl ?_
            refine rx_aw.mono k (fun r h2 k => ?_)
            obtain ⟨rfl, hi8, hl8, v8, rfl, k⟩ := k
            refine ⟨rfl, ?_⟩
            show rx_aw 85 73 [.ref 1, .int a0, .int a1, .ref (rx_ct q1), rx_no] [] (rx_hp L t hi8 hl8 v8) Q
            refine rx_aw_s 3 (pc := 73) rfl ?_
            show rx_aw 85 78 [.ref 1, .int a0, .int a1, .ref (rx_ct q1), rx_no] [.int a1, .ref 76] (rx_hp L t hi8 hl8 v8) Q
            refine rx_w_callI (j := 89) (pc := 78) rfl rfl rfl rfl rfl ?_
            refine rx_aw.mono k (fun r h2 k => ?_)
            obtain ⟨z9, rfl, hi9, hl9, v9, rfl, k⟩ := k
            refine ⟨z9, rfl, ?_⟩
            show rx_aw 85 81 [.ref 1, .int a0, .int a1, .ref (rx_ct q1), rx_no] [.int z9] (rx_hp L t hi9 hl9 v9) Q
            refine rx_aw_s 5 (pc := 81) rfl ?_
            show rx_aw 85 89 [.ref 1, .int a0, .int a1, .ref (rx_ct q1), .int z9] [.int (1 : Int32), .int a1, .ref 13] (rx_hp L t hi9 hl9 v9) Q
            refine rx_w_callI (j := 90) (pc := 89) rfl rfl rfl rfl rfl ?_
            refine rx_aw.mono k (fun r h2 k => ?_)
            obtain ⟨z10, rfl, hi10, hl10, v10, rfl, k⟩ := k
            refine ⟨z10, rfl, ?_⟩
            show rx_aw 85 92 [.ref 1, .int a0, .int a1, .ref (rx_ct q1), .int z9] [.int z10] (rx_hp L t hi10 hl10 v10) Q
            refine rx_aw_s 1 (pc := 92) rfl ?_
            refine rx_w_if (c := z10 < 0) ⟨fun c11 => ?_, fun c11 => ?_⟩
            · have k := k.1 c11
              show rx_aw 85 105 [.ref 1, .int a0, .int a1, .ref (rx_ct q1), .int z9] [] (rx_hp L t hi10 hl10 v10) Q
              refine rx_aw_s 5 (pc := 105) rfl ?_
              show rx_aw 85 115 [.ref 1, .int a0, .int a1, .ref (rx_ct q1), .int z9] [.int z9] (rx_hp L t (rx_u hi10 76 3 a1) hl10 v10) Q
              exact rx_aw_ret (pc := 115) rfl k
            · have k := k.2 c11
              show rx_aw 85 95 [.ref 1, .int a0, .int a1, .ref (rx_ct q1), .int z9] [] (rx_hp L t hi10 hl10 v10) Q
              refine rx_aw_s 2 (pc := 95) rfl ?_
              show rx_aw 85 99 [.ref 1, .int a0, .int a1, .ref (rx_ct q1), .int z9] [.ref 13] (rx_hp L t hi10 hl10 v10) Q
              refine rx_w_callV (j := 94) (pc := 99) rfl rfl rfl rfl rfl ?_
              refine rx_aw.mono k (fun r h2 k => ?_)
              obtain ⟨rfl, hi12, hl12, v12, rfl, k⟩ := k
              refine ⟨rfl, ?_⟩
              show rx_aw 85 102 [.ref 1, .int a0, .int a1, .ref (rx_ct q1), .int z9] [] (rx_hp L t hi12 hl12 v12) Q
              refine rx_aw_s 1 (pc := 102) rfl ?_
              show rx_aw 85 104 [.ref 1, .int a0, .int a1, .ref (rx_ct q1), .int z9] [.int (-3 : Int32)] (rx_hp L t hi12 hl12 v12) Q
              exact rx_aw_ret (pc := 104) rfl k
          · have k := k.2 c5
            show rx_aw 85 46 [.ref 1, .int a0, .int a1, .ref (rx_ct q1), rx_no] [] (rx_hp L t hi1 hl1 v1) Q
            refine rx_aw_s 1 (pc := 46) rfl ?_
            show rx_aw 85 48 [.ref 1, .int a0, .int a1, .ref (rx_ct q1), rx_no] [.int (-2 : Int32)] (rx_hp L t hi1 hl1 v1) Q
            exact rx_aw_ret (pc := 48) rfl k
      · have k := k.2 c3
        show rx_aw 85 46 [.ref 1, .int a0, .int a1, .ref (rx_ct q1), rx_no] [] (rx_hp L t hi1 hl1 v1) Q
        refine rx_aw_s 1 (pc := 46) rfl ?_
        show rx_aw 85 48 [.ref 1, .int a0, .int a1, .ref (rx_ct q1), rx_no] [.int (-2 : Int32)] (rx_hp L t hi1 hl1 v1) Q
        exact rx_aw_ret (pc := 48) rfl k
set_option maxRecDepth 100000 in
/-- CartFloor$Traffic.keepWays()V -/
theorem w86_keepWays {L : Nat} {t : List (Nat × Nat)} {hi : Nat → Nat → Int32} {hl : Nat → Nat → Int64} {v : Nat → Nat → Option Nat} {Q : Option Value → rx_H → Prop}  (k : rx_aw 86 2 [.ref 13, .int (0 : Int32)] [] (rx_hp L t hi hl v) Q) : rx_me 86 [.ref 13] (rx_hp L t hi hl v) Q := by
  show rx_aw 86 0 [.ref 13, rx_no] [] (rx_hp L t hi hl v) Q
  refine rx_aw_s 2 (pc := 0) rfl ?_
  show rx_aw 86 2 [.ref 13, .int (0 : Int32)] [] (rx_hp L t hi hl v) Q
  exact k
set_option maxRecDepth 100000 in
theorem w86_keepWays_2 {L : Nat} {t : List (Nat × Nat)} {hi : Nat → Nat → Int32} {hl : Nat → Nat → Int64} {v : Nat → Nat → Option Nat} {Q : Option Value → rx_H → Prop} {x1 : Int32} (k : (((hi 13 3) ≤ x1 → Q none (rx_hp L t hi hl v)) ∧ (¬ ((hi 13 3) ≤ x1) → (∃ j2 : Nat, x1 = nI j2 ∧ j2 < 6 ∧ rx_me 87 [.ref (rx_ct j2)] (rx_hp L t hi hl v) (fun r h2 => r = none ∧ rx_ok2 L t h2 (fun hi3 hl3 v3 => rx_aw 86 2 [.ref 13, .int (x1 + (1 : Int32))] [] (rx_hp L t hi3 hl3 v3) Q)))))) : rx_aw 86 2 [.ref 13, .int x1] [] (rx_hp L t hi hl v) Q := by
  refine rx_aw_s 4 (pc := 2) rfl ?_
  refine rx_w_if (c := (hi 13 3) ≤ x1) ⟨fun c1 => ?_, fun c1 => ?_⟩
  · have k := k.1 c1
    show rx_aw 86 25 [.ref 13, .int x1] [] (rx_hp L t hi hl v) Q
    exact rx_aw_ret (pc := 25) rfl k
  · have k := k.2 c1
    show rx_aw 86 10 [.ref 13, .int x1] [] (rx_hp L t hi hl v) Q
    refine rx_aw_s 3 (pc := 10) rfl ?_
    show rx_aw 86 15 [.ref 13, .int x1] [.int x1, .ref 14] (rx_hp L t hi hl v) Q
    obtain ⟨j2, ej2, hj2, k⟩ := k
    refine rx_w_carts (pc := 15) rfl ⟨j2, ej2, hj2, ?_⟩
    show rx_aw 86 16 [.ref 13, .int x1] [.ref (rx_ct j2)] (rx_hp L t hi hl v) Q
    refine rx_w_callV (j := 87) (pc := 16) rfl rfl rfl rfl (rx_mayc rfl rfl rfl rfl (rx_ck (rx_cart_s hj2).1) (rx_ct_pos _)) ?_
    refine rx_aw.mono k (fun r h2 k => ?_)
    obtain ⟨rfl, hi3, hl3, v3, rfl, k⟩ := k
    refine ⟨rfl, ?_⟩
    show rx_aw 86 19 [.ref 13, .int x1] [] (rx_hp L t hi3 hl3 v3) Q
    refine rx_aw_s 2 (pc := 19) rfl ?_
    show rx_aw 86 2 [.ref 13, .int (x1 + (1 : Int32))] [] (rx_hp L t hi3 hl3 v3) Q
    exact k
set_option maxRecDepth 100000 in
/-- CartFloor$Cart.cut(I)V -/
theorem w88_cut {L : Nat} {t : List (Nat × Nat)} {hi : Nat → Nat → Int32} {hl : Nat → Nat → Int64} {v : Nat → Nat → Option Nat} {Q : Option Value → rx_H → Prop} {c : Nat} (hc : c < 6) {a0 : Int32} (k : Q none (rx_hp L t (rx_u hi (rx_ct c) 7 (if a0 < (hi (rx_ct c) 7) then a0 else (hi (rx_ct c) 7))) hl v)) : rx_me 88 [.ref (rx_ct c), .int a0] (rx_hp L t hi hl v) Q := by
  show rx_aw 88 0 [.ref (rx_ct c), .int a0] [] (rx_hp L t hi hl v) Q
  refine rx_aw_s 2 (pc := 0) rfl ?_
  show rx_aw 88 2 [.ref (rx_ct c), .int a0] [.ref (rx_ct c), .ref (rx_ct c)] (rx_hp L t hi hl v) Q
  refine rx_w_cg hc (pc := 2) rfl (by decide) (by decide) ?_
  show rx_aw 88 5 [.ref (rx_ct c), .int a0] [.int (hi (rx_ct c) 7), .ref (rx_ct c)] (rx_hp L t hi hl v) Q
  refine rx_aw_s 2 (pc := 5) rfl ?_
  show rx_aw 88 9 [.ref (rx_ct c), .int a0] [.int (if a0 < (hi (rx_ct c) 7) then a0 else (hi (rx_ct c) 7)), .ref (rx_ct c)] (rx_hp L t hi hl v) Q
  refine rx_w_cp hc (pc := 9) rfl rfl (by decide) ?_
  show rx_aw 88 12 [.ref (rx_ct c), .int a0] [] (rx_hp L t (rx_u hi (rx_ct c) 7 (if a0 < (hi (rx_ct c) 7) then a0 else (hi (rx_ct c) 7))) hl v) Q
  exact rx_aw_ret (pc := 12) rfl k
set_option maxRecDepth 100000 in
/-- CartFloor$Planner.planTroubled(I)I -/
theorem w89_planTroubled {L : Nat} {t : List (Nat × Nat)} {hi : Nat → Nat → Int32} {hl : Nat → Nat → Int64} {v : Nat → Nat → Option Nat} {Q : Option Value → rx_H → Prop} {a0 : Int32} (k : rx_aw 89 4 [.ref 76, .int a0, .int (0 : Int32), .int (0 : Int32), rx_no] [] (rx_hp L t hi hl v) Q) : rx_me 89 [.ref 76, .int a0] (rx_hp L t hi hl v) Q := by
  show rx_aw 89 0 [.ref 76, .int a0, rx_no, rx_no, rx_no] [] (rx_hp L t hi hl v) Q
  refine rx_aw_s 4 (pc := 0) rfl ?_
  show rx_aw 89 4 [.ref 76, .int a0, .int (0 : Int32), .int (0 : Int32), rx_no] [] (rx_hp L t hi hl v) Q
  exact k
set_option maxRecDepth 100000 in
theorem w89_planTroubled_4 {L : Nat} {t : List (Nat × Nat)} {hi : Nat → Nat → Int32} {hl : Nat → Nat → Int64} {v : Nat → Nat → Option Nat} {Q : Option Value → rx_H → Prop} {x1 : Int32} {x2 : Int32} {x3 : Int32} (k : (((10006 : Int32) ≤ x3 → Q (some (.int x2)) (rx_hp L t hi hl v)) ∧ (¬ ((10006 : Int32) ≤ x3) → rx_me 90 [.ref 13, .int x1, .int (0 : Int32)] (rx_hp L t hi hl v) (fun r h2 => ∃ z2 : Int32, r = some (.int z2) ∧ rx_ok2 L t h2 (fun hi2 hl2 v2 => rx_me 59 [.ref 13, .int z2] (rx_hp L t hi2 hl2 v2) (fun r h2 => ∃ z3 : Option Nat, r = some (va_rf z3) ∧ rx_ok2 L t h2 (fun hi3 hl3 v3 => (z3 = none ∧ Q (some (.int x2)) (rx_hp L t hi3 hl3 v3)) ∨ (∃ q3 : Nat, q3 < 6 ∧ z3 = some (rx_ct q3) ∧ rx_me 88 [.ref (rx_ct q3), .int x1] (rx_hp L t hi3 hl3 v3) (fun r h2 => r = none ∧ rx_ok2 L t h2 (fun hi4 hl4 v4 => rx_me 41 [.ref 13] (rx_hp L t hi4 hl4 v4) (fun r h2 => r = none ∧ rx_ok2 L t h2 (fun hi5 hl5 v5 => (((10000 : Int32) ≤ x3 → rx_aw 89 4 [.ref 76, .int x1, .int x2, .int (x3 + (1 : Int32)), rx_no] [] (rx_hp L t (rx_u hi5 (rx_ct q3) 10 (2 : Int32)) hl5 v5) Q) ∧ (¬ ((10000 : Int32) ≤ x3) → rx_me 63 [.ref 76, .ref (rx_ct q3), .int x1] (rx_hp L t hi5 hl5 v5) (fun r h2 => ∃ z7 : Int32, r = some (.int z7) ∧ rx_ok2 L t h2 (fun hi7 hl7 v7 => ((z7 = 0 → rx_aw 89 4 [.ref 76, .int x1, .int x2, .int (x3 + (1 : Int32)), rx_no] [] (rx_hp L t (rx_u hi7 (rx_ct q3) 10 (2 : Int32)) hl7 v7) Q) ∧ (¬ (z7 = 0) → rx_aw 89 4 [.ref 76, .int x1, .int (x2 + (1 : Int32)), .int (x3 + (1 : Int32)), rx_no] [] (rx_hp L t hi7 hl7 v7) Q)))))))))))))))))) : rx_aw 89 4 [.ref 76, .int x1, .int x2, .int x3, rx_no] [] (rx_hp L t hi hl v) Q := by
  refine rx_aw_s 3 (pc := 4) rfl ?_
  refine rx_w_if (c := (10006 : Int32) ≤ x3) ⟨fun c1 => ?_, fun c1 => ?_⟩
  · have k := k.1 c1
    show rx_aw 89 84 [.ref 76, .int x1, .int x2, .int x3, rx_no] [] (rx_hp L t hi hl v) Q
    refine rx_aw_s 1 (pc := 84) rfl ?_
    show rx_aw 89 85 [.ref 76, .int x1, .int x2, .int x3, rx_no] [.int x2] (rx_hp L t hi hl v) Q
    exact rx_aw_ret (pc := 85) rfl k
  · have k := k.2 c1
    show rx_aw 89 11 [.ref 76, .int x1, .int x2, .int x3, rx_no] [] (rx_hp L t hi hl v) Q
    refine rx_aw_s 6 (pc := 11) rfl ?_
    show rx_aw 89 21 [.ref 76, .int x1, .int x2, .int x3, rx_no] [.int (0 : Int32), .int x1, .ref 13, .ref 13] (rx_hp L t hi hl v) Q
    refine rx_w_callI (j := 90) (pc := 21) rfl rfl rfl rfl rfl ?_
    refine rx_aw.mono k (fun r h2 k => ?_)
    obtain ⟨z2, rfl, hi2, hl2, v2, rfl, k⟩ := k
    refine ⟨z2, rfl, ?_⟩
    show rx_aw 89 24 [.ref 76, .int x1, .int x2, .int x3, rx_no] [.int z2, .ref 13] (rx_hp L t hi2 hl2 v2) Q
    refine rx_w_callR (j := 59) (pc := 24) rfl rfl rfl rfl rfl ?_
    refine rx_aw.mono k (fun r h2 k => ?_)
    obtain ⟨z3, rfl, hi3, hl3, v3, rfl, k⟩ := k
    refine ⟨z3, rfl, ?_⟩
    rcases k with ⟨rfl, k⟩ | ⟨q3, hq3, rfl, k⟩
    · show rx_aw 89 27 [.ref 76, .int x1, .int x2, .int x3, rx_no] [.null] (rx_hp L t hi3 hl3 v3) Q
      refine rx_aw_s 4 (pc := 27) rfl ?_
      show rx_aw 89 35 [.ref 76, .int x1, .int x2, .int x3, .null] [.int x2] (rx_hp L t hi3 hl3 v3) Q
      exact rx_aw_ret (pc := 35) rfl k
    · show rx_aw 89 27 [.ref 76, .int x1, .int x2, .int x3, rx_no] [.ref (rx_ct q3)] (rx_hp L t hi3 hl3 v3) Q
      refine rx_aw_s 5 (pc := 27) rfl ?_
      show rx_aw 89 39 [.ref 76, .int x1, .int x2, .int x3, .ref (rx_ct q3)] [.int x1, .ref (rx_ct q3)] (rx_hp L t hi3 hl3 v3) Q
      refine rx_w_callV (j := 88) (pc := 39) rfl rfl rfl rfl (rx_mayc rfl rfl rfl rfl (rx_ck (rx_cart_s hq3).1) (rx_ct_pos _)) ?_
      refine rx_aw.mono k (fun r h2 k => ?_)
      obtain ⟨rfl, hi4, hl4, v4, rfl, k⟩ := k
      refine ⟨rfl, ?_⟩
      show rx_aw 89 42 [.ref 76, .int x1, .int x2, .int x3, .ref (rx_ct q3)] [] (rx_hp L t hi4 hl4 v4) Q
      refine rx_aw_s 2 (pc := 42) rfl ?_
      show rx_aw 89 46 [.ref 76, .int x1, .int x2, .int x3, .ref (rx_ct q3)] [.ref 13] (rx_hp L t hi4 hl4 v4) Q
      refine rx_w_callV (j := 41) (pc := 46) rfl rfl rfl rfl rfl ?_
      refine rx_aw.mono k (fun r h2 k => ?_)
      obtain ⟨rfl, hi5, hl5, v5, rfl, k⟩ := k
      refine ⟨rfl, ?_⟩
      show rx_aw 89 49 [.ref 76, .int x1, .int x2, .int x3, .ref (rx_ct q3)] [] (rx_hp L t hi5 hl5 v5) Q
      refine rx_aw_s 3 (pc := 49) rfl ?_
      refine rx_w_if (c := (10000 : Int32) ≤ x3) ⟨fun c6 => ?_, fun c6 => ?_⟩
      · have k := k.1 c6
        show rx_aw 89 72 [.ref 76, .int x1, .int x2, .int x3, .ref (rx_ct q3)] [] (rx_hp L t hi5 hl5 v5) Q
        refine rx_aw_s 2 (pc := 72) rfl ?_
        show rx_aw 89 75 [.ref 76, .int x1, .int x2, .int x3, .ref (rx_ct q3)] [.int (2 : Int32), .ref (rx_ct q3)] (rx_hp L t hi5 hl5 v5) Q
        refine rx_w_cp hq3 (pc := 75) rfl rfl (by decide) ?_
        show rx_aw 89 78 [.ref 76, .int x1, .int x2, .int x3, .ref (rx_ct q3)] [] (rx_hp L t (rx_u hi5 (rx_ct q3) 10 (2 : Int32)) hl5 v5) Q
        refine rx_aw_s 2 (pc := 78) rfl ?_
        show rx_aw 89 4 [.ref 76, .int x1, .int x2, .int (x3 + (1 : Int32)), .ref (rx_ct q3)] [] (rx_hp L t (rx_u hi5 (rx_ct q3) 10 (2 : Int32)) hl5 v5) Q
        exact rx_aw_le (ls := [.ref 76, .int x1, .int x2, .int (x3 + (1 : Int32)), rx_no]) ⟨Or.inr rfl, ⟨Or.inr rfl, ⟨Or.inr rfl, ⟨Or.inr rfl, ⟨Or.inl rfl, trivial⟩⟩⟩⟩⟩ k
      · have k := k.2 c6
        show rx_aw 89 56 [.ref 76, .int x1, .int x2, .int x3, .ref (rx_ct q3)] [] (rx_hp L t hi5 hl5 v5) Q
        refine rx_aw_s 3 (pc := 56) rfl ?_
        show rx_aw 89 60 [.ref 76, .int x1, .int x2, .int x3, .ref (rx_ct q3)] [.int x1, .ref (rx_ct q3), .ref 76] (rx_hp L t hi5 hl5 v5) Q
        refine rx_w_callI (j := 63) (pc := 60) rfl rfl rfl rfl rfl ?_
        refine rx_aw.mono k (fun r h2 k => ?_)
        obtain ⟨z7, rfl, hi7, hl7, v7, rfl, k⟩ := k
        refine ⟨z7, rfl, ?_⟩
        show rx_aw 89 63 [.ref 76, .int x1, .int x2, .int x3, .ref (rx_ct q3)] [.int z7] (rx_hp L t hi7 hl7 v7) Q
        refine rx_aw_s 1 (pc := 63) rfl ?_
        refine rx_w_if (c := z7 = 0) ⟨fun c8 => ?_, fun c8 => ?_⟩
        · have k := k.1 c8
          show rx_aw 89 72 [.ref 76, .int x1, .int x2, .int x3, .ref (rx_ct q3)] [] (rx_hp L t hi7 hl7 v7) Q
          refine rx_aw_s 2 (pc := 72) rfl ?_
          show rx_aw 89 75 [.ref 76, .int x1, .int x2, .int x3, .ref (rx_ct q3)] [.int (2 : Int32), .ref (rx_ct q3)] (rx_hp L t hi7 hl7 v7) Q
          refine rx_w_cp hq3 (pc := 75) rfl rfl (by decide) ?_
          show rx_aw 89 78 [.ref 76, .int x1, .int x2, .int x3, .ref (rx_ct q3)] [] (rx_hp L t (rx_u hi7 (rx_ct q3) 10 (2 : Int32)) hl7 v7) Q
          refine rx_aw_s 2 (pc := 78) rfl ?_
          show rx_aw 89 4 [.ref 76, .int x1, .int x2, .int (x3 + (1 : Int32)), .ref (rx_ct q3)] [] (rx_hp L t (rx_u hi7 (rx_ct q3) 10 (2 : Int32)) hl7 v7) Q
          exact rx_aw_le (ls := [.ref 76, .int x1, .int x2, .int (x3 + (1 : Int32)), rx_no]) ⟨Or.inr rfl, ⟨Or.inr rfl, ⟨Or.inr rfl, ⟨Or.inr rfl, ⟨Or.inl rfl, trivial⟩⟩⟩⟩⟩ k
        · have k := k.2 c8
          show rx_aw 89 66 [.ref 76, .int x1, .int x2, .int x3, .ref (rx_ct q3)] [] (rx_hp L t hi7 hl7 v7) Q
          refine rx_aw_s 4 (pc := 66) rfl ?_
          show rx_aw 89 4 [.ref 76, .int x1, .int (x2 + (1 : Int32)), .int (x3 + (1 : Int32)), .ref (rx_ct q3)] [] (rx_hp L t hi7 hl7 v7) Q
          exact rx_aw_le (ls := [.ref 76, .int x1, .int (x2 + (1 : Int32)), .int (x3 + (1 : Int32)), rx_no]) ⟨Or.inr rfl, ⟨Or.inr rfl, ⟨Or.inr rfl, ⟨Or.inr rfl, ⟨Or.inl rfl, trivial⟩⟩⟩⟩⟩ k
set_option maxRecDepth 100000 in
/-- CartFloor$Traffic.firstTroubled(IZ)I -/
theorem w90_firstTroubled {L : Nat} {t : List (Nat × Nat)} {hi : Nat → Nat → Int32} {hl : Nat → Nat → Int64} {v : Nat → Nat → Option Nat} {Q : Option Value → rx_H → Prop} {a0 : Int32} {a1 : Int32} (k : rx_aw 90 2 [.ref 13, .int a0, .int a1, .int (0 : Int32)] [] (rx_hp L t hi hl v) Q) : rx_me 90 [.ref 13, .int a0, .int a1] (rx_hp L t hi hl v) Q := by
  show rx_aw 90 0 [.ref 13, .int a0, .int a1, rx_no] [] (rx_hp L t hi hl v) Q
  refine rx_aw_s 2 (pc := 0) rfl ?_
  show rx_aw 90 2 [.ref 13, .int a0, .int a1, .int (0 : Int32)] [] (rx_hp L t hi hl v) Q
  exact k
set_option maxRecDepth 100000 in
theorem w90_firstTroubled_2 {L : Nat} {t : List (Nat × Nat)} {hi : Nat → Nat → Int32} {hl : Nat → Nat → Int64} {v : Nat → Nat → Option Nat} {Q : Option Value → rx_H → Prop} {x1 : Int32} {x2 : Int32} {x3 : Int32} (k : (((hi 13 3) ≤ x3 → Q (some (.int (-1 : Int32))) (rx_hp L t hi hl v)) ∧ (¬ ((hi 13 3) ≤ x3) → (∃ j2 : Nat, x3 = nI j2 ∧ j2 < 6 ∧ (((hi (rx_ct j2) 5) = (3 : Int32) → (((1 : Int32) = x2 → (∃ j5 : Nat, x3 = nI j5 ∧ j5 < 6 ∧ rx_me 91 [.ref 13, .ref (rx_ct j5), .int x1] (rx_hp L t hi hl v) (fun r h2 => ∃ z6 : Int32, r = some (.int z6) ∧ rx_ok2 L t h2 (fun hi6 hl6 v6 => ((z6 = 0 → rx_aw 90 2 [.ref 13, .int x1, .int x2, .int (x3 + (1 : Int32))] [] (rx_hp L t hi6 hl6 v6) Q) ∧ (¬ (z6 = 0) → Q (some (.int x3)) (rx_hp L t hi6 hl6 v6))))))) ∧ (¬ ((1 : Int32) = x2) → rx_aw 90 2 [.ref 13, .int x1, .int x2, .int (x3 + (1 : Int32))] [] (rx_hp L t hi hl v) Q))) ∧ (¬ ((hi (rx_ct j2) 5) = (3 : Int32)) → (((0 : Int32) = x2 → (∃ j9 : Nat, x3 = nI j9 ∧ j9 < 6 ∧ rx_me 91 [.ref 13, .ref (rx_ct j9), .int x1] (rx_hp L t hi hl v) (fun r h2 => ∃ z10 : Int32, r = some (.int z10) ∧ rx_ok2 L t h2 (fun hi10 hl10 v10 => ((z10 = 0 → rx_aw 90 2 [.ref 13, .int x1, .int x2, .int (x3 + (1 : Int32))] [] (rx_hp L t hi10 hl10 v10) Q) ∧ (¬ (z10 = 0) → Q (some (.int x3)) (rx_hp L t hi10 hl10 v10))))))) ∧ (¬ ((0 : Int32) = x2) → rx_aw 90 2 [.ref 13, .int x1, .int x2, .int (x3 + (1 : Int32))] [] (rx_hp L t hi hl v) Q)))))))) : rx_aw 90 2 [.ref 13, .int x1, .int x2, .int x3] [] (rx_hp L t hi hl v) Q := by
  refine rx_aw_s 4 (pc := 2) rfl ?_
  refine rx_w_if (c := (hi 13 3) ≤ x3) ⟨fun c1 => ?_, fun c1 => ?_⟩
  · have k := k.1 c1
    show rx_aw 90 54 [.ref 13, .int x1, .int x2, .int x3] [] (rx_hp L t hi hl v) Q
    refine rx_aw_s 1 (pc := 54) rfl ?_
    show rx_aw 90 55 [.ref 13, .int x1, .int x2, .int x3] [.int (-1 : Int32)] (rx_hp L t hi hl v) Q
    exact rx_aw_ret (pc := 55) rfl k
  · have k := k.2 c1
    show rx_aw 90 10 [.ref 13, .int x1, .int x2, .int x3] [] (rx_hp L t hi hl v) Q
    refine rx_aw_s 3 (pc := 10) rfl ?_
    show rx_aw 90 15 [.ref 13, .int x1, .int x2, .int x3] [.int x3, .ref 14] (rx_hp L t hi hl v) Q
    obtain ⟨j2, ej2, hj2, k⟩ := k
    refine rx_w_carts (pc := 15) rfl ⟨j2, ej2, hj2, ?_⟩
    show rx_aw 90 16 [.ref 13, .int x1, .int x2, .int x3] [.ref (rx_ct j2)] (rx_hp L t hi hl v) Q
    refine rx_w_cg hj2 (pc := 16) rfl (by decide) (by decide) ?_
    show rx_aw 90 19 [.ref 13, .int x1, .int x2, .int x3] [.int (hi (rx_ct j2) 5)] (rx_hp L t hi hl v) Q
    refine rx_aw_s 2 (pc := 19) rfl ?_
    refine rx_w_ifn (c := (hi (rx_ct j2) 5) = (3 : Int32)) ⟨fun c3 => ?_, fun c3 => ?_⟩
    · have k := k.1 c3
      show rx_aw 90 23 [.ref 13, .int x1, .int x2, .int x3] [] (rx_hp L t hi hl v) Q
      refine rx_aw_s 4 (pc := 23) rfl ?_
      refine rx_w_ifn (c := (1 : Int32) = x2) ⟨fun c4 => ?_, fun c4 => ?_⟩
      · have k := k.1 c4
        show rx_aw 90 32 [.ref 13, .int x1, .int x2, .int x3] [] (rx_hp L t hi hl v) Q
        refine rx_aw_s 4 (pc := 32) rfl ?_
        show rx_aw 90 38 [.ref 13, .int x1, .int x2, .int x3] [.int x3, .ref 14, .ref 13] (rx_hp L t hi hl v) Q
        obtain ⟨j5, ej5, hj5, k⟩ := k
        refine rx_w_carts (pc := 38) rfl ⟨j5, ej5, hj5, ?_⟩
        show rx_aw 90 39 [.ref 13, .int x1, .int x2, .int x3] [.ref (rx_ct j5), .ref 13] (rx_hp L t hi hl v) Q
        refine rx_aw_s 1 (pc := 39) rfl ?_
        show rx_aw 90 40 [.ref 13, .int x1, .int x2, .int x3] [.int x1, .ref (rx_ct j5), .ref 13] (rx_hp L t hi hl v) Q
        refine rx_w_callI (j := 91) (pc := 40) rfl rfl rfl rfl rfl ?_
        refine rx_aw.mono k (fun r h2 k => ?_)
        obtain ⟨z6, rfl, hi6, hl6, v6, rfl, k⟩ := k
        refine ⟨z6, rfl, ?_⟩
        show rx_aw 90 43 [.ref 13, .int x1, .int x2, .int x3] [.int z6] (rx_hp L t hi6 hl6 v6) Q
        refine rx_aw_s 1 (pc := 43) rfl ?_
        refine rx_w_if (c := z6 = 0) ⟨fun c7 => ?_, fun c7 => ?_⟩
        · have k := k.1 c7
          show rx_aw 90 48 [.ref 13, .int x1, .int x2, .int x3] [] (rx_hp L t hi6 hl6 v6) Q
          refine rx_aw_s 2 (pc := 48) rfl ?_
          show rx_aw 90 2 [.ref 13, .int x1, .int x2, .int (x3 + (1 : Int32))] [] (rx_hp L t hi6 hl6 v6) Q
          exact k
        · have k := k.2 c7
          show rx_aw 90 46 [.ref 13, .int x1, .int x2, .int x3] [] (rx_hp L t hi6 hl6 v6) Q
          refine rx_aw_s 1 (pc := 46) rfl ?_
          show rx_aw 90 47 [.ref 13, .int x1, .int x2, .int x3] [.int x3] (rx_hp L t hi6 hl6 v6) Q
          exact rx_aw_ret (pc := 47) rfl k
      · have k := k.2 c4
        show rx_aw 90 48 [.ref 13, .int x1, .int x2, .int x3] [] (rx_hp L t hi hl v) Q
        refine rx_aw_s 2 (pc := 48) rfl ?_
        show rx_aw 90 2 [.ref 13, .int x1, .int x2, .int (x3 + (1 : Int32))] [] (rx_hp L t hi hl v) Q
        exact k
    · have k := k.2 c3
      show rx_aw 90 27 [.ref 13, .int x1, .int x2, .int x3] [] (rx_hp L t hi hl v) Q
      refine rx_aw_s 3 (pc := 27) rfl ?_
      refine rx_w_ifn (c := (0 : Int32) = x2) ⟨fun c8 => ?_, fun c8 => ?_⟩
      · have k := k.1 c8
        show rx_aw 90 32 [.ref 13, .int x1, .int x2, .int x3] [] (rx_hp L t hi hl v) Q
        refine rx_aw_s 4 (pc := 32) rfl ?_
        show rx_aw 90 38 [.ref 13, .int x1, .int x2, .int x3] [.int x3, .ref 14, .ref 13] (rx_hp L t hi hl v) Q
        obtain ⟨j9, ej9, hj9, k⟩ := k
        refine rx_w_carts (pc := 38) rfl ⟨j9, ej9, hj9, ?_⟩
        show rx_aw 90 39 [.ref 13, .int x1, .int x2, .int x3] [.ref (rx_ct j9), .ref 13] (rx_hp L t hi hl v) Q
        refine rx_aw_s 1 (pc := 39) rfl ?_
        show rx_aw 90 40 [.ref 13, .int x1, .int x2, .int x3] [.int x1, .ref (rx_ct j9), .ref 13] (rx_hp L t hi hl v) Q
        refine rx_w_callI (j := 91) (pc := 40) rfl rfl rfl rfl rfl ?_
        refine rx_aw.mono k (fun r h2 k => ?_)
        obtain ⟨z10, rfl, hi10, hl10, v10, rfl, k⟩ := k
        refine ⟨z10, rfl, ?_⟩
        show rx_aw 90 43 [.ref 13, .int x1, .int x2, .int x3] [.int z10] (rx_hp L t hi10 hl10 v10) Q
        refine rx_aw_s 1 (pc := 43) rfl ?_
        refine rx_w_if (c := z10 = 0) ⟨fun c11 => ?_, fun c11 => ?_⟩
        · have k := k.1 c11
          show rx_aw 90 48 [.ref 13, .int x1, .int x2, .int x3] [] (rx_hp L t hi10 hl10 v10) Q
          refine rx_aw_s 2 (pc := 48) rfl ?_
          show rx_aw 90 2 [.ref 13, .int x1, .int x2, .int (x3 + (1 : Int32))] [] (rx_hp L t hi10 hl10 v10) Q
          exact k
        · have k := k.2 c11
          show rx_aw 90 46 [.ref 13, .int x1, .int x2, .int x3] [] (rx_hp L t hi10 hl10 v10) Q
          refine rx_aw_s 1 (pc := 46) rfl ?_
          show rx_aw 90 47 [.ref 13, .int x1, .int x2, .int x3] [.int x3] (rx_hp L t hi10 hl10 v10) Q
          exact rx_aw_ret (pc := 47) rfl k
      · have k := k.2 c8
        show rx_aw 90 48 [.ref 13, .int x1, .int x2, .int x3] [] (rx_hp L t hi hl v) Q
        refine rx_aw_s 2 (pc := 48) rfl ?_
        show rx_aw 90 2 [.ref 13, .int x1, .int x2, .int (x3 + (1 : Int32))] [] (rx_hp L t hi hl v) Q
        exact k
set_option maxRecDepth 100000 in
/-- CartFloor$Traffic.isTroubled(LCartFloor$Cart;I)Z -/
theorem w91_isTroubled {L : Nat} {t : List (Nat × Nat)} {hi : Nat → Nat → Int32} {hl : Nat → Nat → Int64} {v : Nat → Nat → Option Nat} {Q : Option Value → rx_H → Prop} {c0 : Nat} (hc0 : c0 < 6) {a1 : Int32} (k : (((hi (rx_ct c0) 10) = 0 → ((a1 < (hi (rx_ct c0) 7) → (((hi (rx_ct c0) 12) = 0 → rx_aw 91 30 [.ref 13, .ref (rx_ct c0), .int a1, .int (a1 + (1 : Int32)), rx_no, rx_no, rx_no, rx_no] [] (rx_hp L t hi hl v) Q) ∧ (¬ ((hi (rx_ct c0) 12) = 0) → Q (some (.int (1 : Int32))) (rx_hp L t hi hl v)))) ∧ (¬ (a1 < (hi (rx_ct c0) 7)) → Q (some (.int (0 : Int32))) (rx_hp L t hi hl v)))) ∧ (¬ ((hi (rx_ct c0) 10) = 0) → Q (some (.int (0 : Int32))) (rx_hp L t hi hl v)))) : rx_me 91 [.ref 13, .ref (rx_ct c0), .int a1] (rx_hp L t hi hl v) Q := by
  show rx_aw 91 0 [.ref 13, .ref (rx_ct c0), .int a1, rx_no, rx_no, rx_no, rx_no, rx_no] [] (rx_hp L t hi hl v) Q
  refine rx_aw_s 1 (pc := 0) rfl ?_
  show rx_aw 91 1 [.ref 13, .ref (rx_ct c0), .int a1, rx_no, rx_no, rx_no, rx_no, rx_no] [.ref (rx_ct c0)] (rx_hp L t hi hl v) Q
  refine rx_w_cg hc0 (pc := 1) rfl (by decide) (by decide) ?_
  show rx_aw 91 4 [.ref 13, .ref (rx_ct c0), .int a1, rx_no, rx_no, rx_no, rx_no, rx_no] [.int (hi (rx_ct c0) 10)] (rx_hp L t hi hl v) Q
  refine rx_aw_s 1 (pc := 4) rfl ?_
  refine rx_w_ifn (c := (hi (rx_ct c0) 10) = 0) ⟨fun c1 => ?_, fun c1 => ?_⟩
  · have k := k.1 c1
    show rx_aw 91 7 [.ref 13, .ref (rx_ct c0), .int a1, rx_no, rx_no, rx_no, rx_no, rx_no] [] (rx_hp L t hi hl v) Q
    refine rx_aw_s 1 (pc := 7) rfl ?_
    show rx_aw 91 8 [.ref 13, .ref (rx_ct c0), .int a1, rx_no, rx_no, rx_no, rx_no, rx_no] [.ref (rx_ct c0)] (rx_hp L t hi hl v) Q
    refine rx_w_cg hc0 (pc := 8) rfl (by decide) (by decide) ?_
    show rx_aw 91 11 [.ref 13, .ref (rx_ct c0), .int a1, rx_no, rx_no, rx_no, rx_no, rx_no] [.int (hi (rx_ct c0) 7)] (rx_hp L t hi hl v) Q
    refine rx_aw_s 2 (pc := 11) rfl ?_
    refine rx_w_if (c := a1 < (hi (rx_ct c0) 7)) ⟨fun c2 => ?_, fun c2 => ?_⟩
    · have k := k.1 c2
      show rx_aw 91 17 [.ref 13, .ref (rx_ct c0), .int a1, rx_no, rx_no, rx_no, rx_no, rx_no] [] (rx_hp L t hi hl v) Q
      refine rx_aw_s 1 (pc := 17) rfl ?_
      show rx_aw 91 18 [.ref 13, .ref (rx_ct c0), .int a1, rx_no, rx_no, rx_no, rx_no, rx_no] [.ref (rx_ct c0)] (rx_hp L t hi hl v) Q
      refine rx_w_cg hc0 (pc := 18) rfl (by decide) (by decide) ?_
      show rx_aw 91 21 [.ref 13, .ref (rx_ct c0), .int a1, rx_no, rx_no, rx_no, rx_no, rx_no] [.int (hi (rx_ct c0) 12)] (rx_hp L t hi hl v) Q
      refine rx_aw_s 1 (pc := 21) rfl ?_
      refine rx_w_if (c := (hi (rx_ct c0) 12) = 0) ⟨fun c3 => ?_, fun c3 => ?_⟩
      · have k := k.1 c3
        show rx_aw 91 26 [.ref 13, .ref (rx_ct c0), .int a1, rx_no, rx_no, rx_no, rx_no, rx_no] [] (rx_hp L t hi hl v) Q
        refine rx_aw_s 4 (pc := 26) rfl ?_
        show rx_aw 91 30 [.ref 13, .ref (rx_ct c0), .int a1, .int (a1 + (1 : Int32)), rx_no, rx_no, rx_no, rx_no] [] (rx_hp L t hi hl v) Q
        exact k
      · have k := k.2 c3
        show rx_aw 91 24 [.ref 13, .ref (rx_ct c0), .int a1, rx_no, rx_no, rx_no, rx_no, rx_no] [] (rx_hp L t hi hl v) Q
        refine rx_aw_s 1 (pc := 24) rfl ?_
        show rx_aw 91 25 [.ref 13, .ref (rx_ct c0), .int a1, rx_no, rx_no, rx_no, rx_no, rx_no] [.int (1 : Int32)] (rx_hp L t hi hl v) Q
        exact rx_aw_ret (pc := 25) rfl k
    · have k := k.2 c2
      show rx_aw 91 15 [.ref 13, .ref (rx_ct c0), .int a1, rx_no, rx_no, rx_no, rx_no, rx_no] [] (rx_hp L t hi hl v) Q
      refine rx_aw_s 1 (pc := 15) rfl ?_
      show rx_aw 91 16 [.ref 13, .ref (rx_ct c0), .int a1, rx_no, rx_no, rx_no, rx_no, rx_no] [.int (0 : Int32)] (rx_hp L t hi hl v) Q
      exact rx_aw_ret (pc := 16) rfl k
  · have k := k.2 c1
    show rx_aw 91 15 [.ref 13, .ref (rx_ct c0), .int a1, rx_no, rx_no, rx_no, rx_no, rx_no] [] (rx_hp L t hi hl v) Q
    refine rx_aw_s 1 (pc := 15) rfl ?_
    show rx_aw 91 16 [.ref 13, .ref (rx_ct c0), .int a1, rx_no, rx_no, rx_no, rx_no, rx_no] [.int (0 : Int32)] (rx_hp L t hi hl v) Q
    exact rx_aw_ret (pc := 16) rfl k
set_option maxRecDepth 100000 in
theorem w91_isTroubled_30 {L : Nat} {t : List (Nat × Nat)} {hi : Nat → Nat → Int32} {hl : Nat → Nat → Int64} {v : Nat → Nat → Option Nat} {Q : Option Value → rx_H → Prop} {c0 : Nat} (hc0 : c0 < 6) {x2 : Int32} {x3 : Int32} (k : (((hi 13 5) < x3 → Q (some (.int (0 : Int32))) (rx_hp L t hi hl v)) ∧ (¬ ((hi 13 5) < x3) → (∃ j5 : Nat, x3 = nI j5 ∧ j5 < 402 ∧ rx_me 48 [.int (hi (rx_ct c0 + 3) j5)] (rx_hp L t hi hl v) (fun r h2 => ∃ z6 : Int32, r = some (.int z6) ∧ rx_ok2 L t h2 (fun hi6 hl6 v6 => rx_me 66 [.ref 13, .ref (rx_ct c0), .int z6, .int x3] (rx_hp L t hi6 hl6 v6) (fun r h2 => ∃ z7 : Int64, r = some (.long z7) ∧ rx_ok2 L t h2 (fun hi7 hl7 v7 => (∃ j8 : Nat, x3 = nI j8 ∧ j8 < 402 ∧ (((lg_cmp (z7 &&& (hl7 (rx_ct c0 + 5) j8)) (0 : Int64)) = 0 → (∃ j10 : Nat, (x3 - (1 : Int32)) = nI j10 ∧ j10 < 402 ∧ (∃ j11 : Nat, x3 = nI j11 ∧ j11 < 402 ∧ rx_me 92 [.ref 13, .ref (rx_ct c0), .long (hl7 (rx_ct c0 + 4) j10), .long (hl7 (rx_ct c0 + 4) j11), .long (hl7 (rx_ct c0 + 5) j8), .int x3] (rx_hp L t hi7 hl7 v7) (fun r h2 => ∃ z12 : Int32, r = some (.int z12) ∧ rx_ok2 L t h2 (fun hi12 hl12 v12 => ((z12 = 0 → rx_aw 91 30 [.ref 13, .ref (rx_ct c0), .int x2, .int (x3 + (1 : Int32)), rx_no, rx_no, rx_no, rx_no] [] (rx_hp L t hi12 hl12 v12) Q) ∧ (¬ (z12 = 0) → Q (some (.int (1 : Int32))) (rx_hp L t hi12 hl12 v12)))))))) ∧ (¬ ((lg_cmp (z7 &&& (hl7 (rx_ct c0 + 5) j8)) (0 : Int64)) = 0) → Q (some (.int (1 : Int32))) (rx_hp L t hi7 hl7 v7)))))))))))) : rx_aw 91 30 [.ref 13, .ref (rx_ct c0), .int x2, .int x3, rx_no, rx_no, rx_no, rx_no] [] (rx_hp L t hi hl v) Q := by
  refine rx_aw_s 4 (pc := 30) rfl ?_
  refine rx_w_if (c := (hi 13 5) < x3) ⟨fun c4 => ?_, fun c4 => ?_⟩
  · have k := k.1 c4
    show rx_aw 91 106 [.ref 13, .ref (rx_ct c0), .int x2, .int x3, rx_no, rx_no, rx_no, rx_no] [] (rx_hp L t hi hl v) Q
    refine rx_aw_s 1 (pc := 106) rfl ?_
    show rx_aw 91 107 [.ref 13, .ref (rx_ct c0), .int x2, .int x3, rx_no, rx_no, rx_no, rx_no] [.int (0 : Int32)] (rx_hp L t hi hl v) Q
    exact rx_aw_ret (pc := 107) rfl k
  · have k := k.2 c4
    show rx_aw 91 38 [.ref 13, .ref (rx_ct c0), .int x2, .int x3, rx_no, rx_no, rx_no, rx_no] [] (rx_hp L t hi hl v) Q
    refine rx_aw_s 3 (pc := 38) rfl ?_
    show rx_aw 91 41 [.ref 13, .ref (rx_ct c0), .int x2, .int x3, rx_no, rx_no, rx_no, rx_no] [.ref (rx_ct c0), .ref (rx_ct c0), .ref 13] (rx_hp L t hi hl v) Q
    refine rx_w_cr hc0 (pc := 41) rfl (by decide) ?_
    show rx_aw 91 44 [.ref 13, .ref (rx_ct c0), .int x2, .int x3, rx_no, rx_no, rx_no, rx_no] [.ref (rx_ct c0 + 3), .ref (rx_ct c0), .ref 13] (rx_hp L t hi hl v) Q
    refine rx_aw_s 1 (pc := 44) rfl ?_
    show rx_aw 91 45 [.ref 13, .ref (rx_ct c0), .int x2, .int x3, rx_no, rx_no, rx_no, rx_no] [.int x3, .ref (rx_ct c0 + 3), .ref (rx_ct c0), .ref 13] (rx_hp L t hi hl v) Q
    obtain ⟨j5, ej5, hj5, k⟩ := k
    refine rx_aw_iald (pc := 45) (n := 402) j5 ej5 rfl (rx_ck (rx_cart_s hc0).2.2.2.1) (rx_cle (rx_cart_s hc0).2.2.2.1) hj5 (by decide) ?_
    show rx_aw 91 46 [.ref 13, .ref (rx_ct c0), .int x2, .int x3, rx_no, rx_no, rx_no, rx_no] [.int (hi (rx_ct c0 + 3) j5), .ref (rx_ct c0), .ref 13] (rx_hp L t hi hl v) Q
    refine rx_w_callI (j := 48) (pc := 46) rfl rfl rfl rfl rfl ?_
    refine rx_aw.mono k (fun r h2 k => ?_)
    obtain ⟨z6, rfl, hi6, hl6, v6, rfl, k⟩ := k
    refine ⟨z6, rfl, ?_⟩
    show rx_aw 91 49 [.ref 13, .ref (rx_ct c0), .int x2, .int x3, rx_no, rx_no, rx_no, rx_no] [.int z6, .ref (rx_ct c0), .ref 13] (rx_hp L t hi6 hl6 v6) Q
    refine rx_aw_s 1 (pc := 49) rfl ?_
    show rx_aw 91 50 [.ref 13, .ref (rx_ct c0), .int x2, .int x3, rx_no, rx_no, rx_no, rx_no] [.int x3, .int z6, .ref (rx_ct c0), .ref 13] (rx_hp L t hi6 hl6 v6) Q
    refine rx_w_callL (j := 66) (pc := 50) rfl rfl rfl rfl rfl ?_
    refine rx_aw.mono k (fun r h2 k => ?_)
    obtain ⟨z7, rfl, hi7, hl7, v7, rfl, k⟩ := k
    refine ⟨z7, rfl, ?_⟩
    show rx_aw 91 53 [.ref 13, .ref (rx_ct c0), .int x2, .int x3, rx_no, rx_no, rx_no, rx_no] [.long z7] (rx_hp L t hi7 hl7 v7) Q
    refine rx_aw_s 2 (pc := 53) rfl ?_
    show rx_aw 91 56 [.ref 13, .ref (rx_ct c0), .int x2, .int x3, .long z7, rx_no, rx_no, rx_no] [.ref (rx_ct c0)] (rx_hp L t hi7 hl7 v7) Q
    refine rx_w_cr hc0 (pc := 56) rfl (by decide) ?_
    show rx_aw 91 59 [.ref 13, .ref (rx_ct c0), .int x2, .int x3, .long z7, rx_no, rx_no, rx_no] [.ref (rx_ct c0 + 5)] (rx_hp L t hi7 hl7 v7) Q
    refine rx_aw_s 1 (pc := 59) rfl ?_
    show rx_aw 91 60 [.ref 13, .ref (rx_ct c0), .int x2, .int x3, .long z7, rx_no, rx_no, rx_no] [.int x3, .ref (rx_ct c0 + 5)] (rx_hp L t hi7 hl7 v7) Q
    obtain ⟨j8, ej8, hj8, k⟩ := k
    refine rx_aw_lald (pc := 60) (n := 402) j8 ej8 rfl (rx_ck (rx_cart_s hc0).2.2.2.2.2) (Nat.lt_of_lt_of_le (rx_ct_pos _) (Nat.le_add_right _ _)) (rx_cle (rx_cart_s hc0).2.2.2.2.2) hj8 (by decide) ?_
    show rx_aw 91 61 [.ref 13, .ref (rx_ct c0), .int x2, .int x3, .long z7, rx_no, rx_no, rx_no] [.long (hl7 (rx_ct c0 + 5) j8)] (rx_hp L t hi7 hl7 v7) Q
    refine rx_aw_s 7 (pc := 61) rfl ?_
    refine rx_w_ifn (c := (lg_cmp (z7 &&& (hl7 (rx_ct c0 + 5) j8)) (0 : Int64)) = 0) ⟨fun c9 => ?_, fun c9 => ?_⟩
    · have k := k.1 c9
      show rx_aw 91 73 [.ref 13, .ref (rx_ct c0), .int x2, .int x3, .long z7, rx_no, .long (hl7 (rx_ct c0 + 5) j8), rx_no] [] (rx_hp L t hi7 hl7 v7) Q
      refine rx_aw_s 3 (pc := 73) rfl ?_
      show rx_aw 91 76 [.ref 13, .ref (rx_ct c0), .int x2, .int x3, .long z7, rx_no, .long (hl7 (rx_ct c0 + 5) j8), rx_no] [.ref (rx_ct c0), .ref (rx_ct c0), .ref 13] (rx_hp L t hi7 hl7 v7) Q
      refine rx_w_cr hc0 (pc := 76) rfl (by decide) ?_
      show rx_aw 91 79 [.ref 13, .ref (rx_ct c0), .int x2, .int x3, .long z7, rx_no, .long (hl7 (rx_ct c0 + 5) j8), rx_no] [.ref (rx_ct c0 + 4), .ref (rx_ct c0), .ref 13] (rx_hp L t hi7 hl7 v7) Q
      refine rx_aw_s 3 (pc := 79) rfl ?_
      show rx_aw 91 82 [.ref 13, .ref (rx_ct c0), .int x2, .int x3, .long z7, rx_no, .long (hl7 (rx_ct c0 + 5) j8), rx_no] [.int (x3 - (1 : Int32)), .ref (rx_ct c0 + 4), .ref (rx_ct c0), .ref 13] (rx_hp L t hi7 hl7 v7) Q
      obtain ⟨j10, ej10, hj10, k⟩ := k
      refine rx_aw_lald (pc := 82) (n := 402) j10 ej10 rfl (rx_ck (rx_cart_s hc0).2.2.2.2.1) (Nat.lt_of_lt_of_le (rx_ct_pos _) (Nat.le_add_right _ _)) (rx_cle (rx_cart_s hc0).2.2.2.2.1) hj10 (by decide) ?_
      show rx_aw 91 83 [.ref 13, .ref (rx_ct c0), .int x2, .int x3, .long z7, rx_no, .long (hl7 (rx_ct c0 + 5) j8), rx_no] [.long (hl7 (rx_ct c0 + 4) j10), .ref (rx_ct c0), .ref 13] (rx_hp L t hi7 hl7 v7) Q
      refine rx_aw_s 1 (pc := 83) rfl ?_
      show rx_aw 91 84 [.ref 13, .ref (rx_ct c0), .int x2, .int x3, .long z7, rx_no, .long (hl7 (rx_ct c0 + 5) j8), rx_no] [.ref (rx_ct c0), .long (hl7 (rx_ct c0 + 4) j10), .ref (rx_ct c0), .ref 13] (rx_hp L t hi7 hl7 v7) Q
      refine rx_w_cr hc0 (pc := 84) rfl (by decide) ?_
      show rx_aw 91 87 [.ref 13, .ref (rx_ct c0), .int x2, .int x3, .long z7, rx_no, .long (hl7 (rx_ct c0 + 5) j8), rx_no] [.ref (rx_ct c0 + 4), .long (hl7 (rx_ct c0 + 4) j10), .ref (rx_ct c0), .ref 13] (rx_hp L t hi7 hl7 v7) Q
      refine rx_aw_s 1 (pc := 87) rfl ?_
      show rx_aw 91 88 [.ref 13, .ref (rx_ct c0), .int x2, .int x3, .long z7, rx_no, .long (hl7 (rx_ct c0 + 5) j8), rx_no] [.int x3, .ref (rx_ct c0 + 4), .long (hl7 (rx_ct c0 + 4) j10), .ref (rx_ct c0), .ref 13] (rx_hp L t hi7 hl7 v7) Q
      obtain ⟨j11, ej11, hj11, k⟩ := k
      refine rx_aw_lald (pc := 88) (n := 402) j11 ej11 rfl (rx_ck (rx_cart_s hc0).2.2.2.2.1) (Nat.lt_of_lt_of_le (rx_ct_pos _) (Nat.le_add_right _ _)) (rx_cle (rx_cart_s hc0).2.2.2.2.1) hj11 (by decide) ?_
      show rx_aw 91 89 [.ref 13, .ref (rx_ct c0), .int x2, .int x3, .long z7, rx_no, .long (hl7 (rx_ct c0 + 5) j8), rx_no] [.long (hl7 (rx_ct c0 + 4) j11), .long (hl7 (rx_ct c0 + 4) j10), .ref (rx_ct c0), .ref 13] (rx_hp L t hi7 hl7 v7) Q
      refine rx_aw_s 2 (pc := 89) rfl ?_
      show rx_aw 91 92 [.ref 13, .ref (rx_ct c0), .int x2, .int x3, .long z7, rx_no, .long (hl7 (rx_ct c0 + 5) j8), rx_no] [.int x3, .long (hl7 (rx_ct c0 + 5) j8), .long (hl7 (rx_ct c0 + 4) j11), .long (hl7 (rx_ct c0 + 4) j10), .ref (rx_ct c0), .ref 13] (rx_hp L t hi7 hl7 v7) Q
      refine rx_w_callI (j := 92) (pc := 92) rfl rfl rfl rfl rfl ?_
      refine rx_aw.mono k (fun r h2 k => ?_)
      obtain ⟨z12, rfl, hi12, hl12, v12, rfl, k⟩ := k
      refine ⟨z12, rfl, ?_⟩
      show rx_aw 91 95 [.ref 13, .ref (rx_ct c0), .int x2, .int x3, .long z7, rx_no, .long (hl7 (rx_ct c0 + 5) j8), rx_no] [.int z12] (rx_hp L t hi12 hl12 v12) Q
      refine rx_aw_s 1 (pc := 95) rfl ?_
      refine rx_w_if (c := z12 = 0) ⟨fun c13 => ?_, fun c13 => ?_⟩
      · have k := k.1 c13
        show rx_aw 91 100 [.ref 13, .ref (rx_ct c0), .int x2, .int x3, .long z7, rx_no, .long (hl7 (rx_ct c0 + 5) j8), rx_no] [] (rx_hp L t hi12 hl12 v12) Q
        refine rx_aw_s 2 (pc := 100) rfl ?_
        show rx_aw 91 30 [.ref 13, .ref (rx_ct c0), .int x2, .int (x3 + (1 : Int32)), .long z7, rx_no, .long (hl7 (rx_ct c0 + 5) j8), rx_no] [] (rx_hp L t hi12 hl12 v12) Q
        exact rx_aw_le (ls := [.ref 13, .ref (rx_ct c0), .int x2, .int (x3 + (1 : Int32)), rx_no, rx_no, rx_no, rx_no]) ⟨Or.inr rfl, ⟨Or.inr rfl, ⟨Or.inr rfl, ⟨Or.inr rfl, ⟨Or.inl rfl, ⟨Or.inl rfl, ⟨Or.inl rfl, ⟨Or.inl rfl, trivial⟩⟩⟩⟩⟩⟩⟩⟩ k
      · have k := k.2 c13
        show rx_aw 91 98 [.ref 13, .ref (rx_ct c0), .int x2, .int x3, .long z7, rx_no, .long (hl7 (rx_ct c0 + 5) j8), rx_no] [] (rx_hp L t hi12 hl12 v12) Q
        refine rx_aw_s 1 (pc := 98) rfl ?_
        show rx_aw 91 99 [.ref 13, .ref (rx_ct c0), .int x2, .int x3, .long z7, rx_no, .long (hl7 (rx_ct c0 + 5) j8), rx_no] [.int (1 : Int32)] (rx_hp L t hi12 hl12 v12) Q
        exact rx_aw_ret (pc := 99) rfl k
    · have k := k.2 c9
      show rx_aw 91 98 [.ref 13, .ref (rx_ct c0), .int x2, .int x3, .long z7, rx_no, .long (hl7 (rx_ct c0 + 5) j8), rx_no] [] (rx_hp L t hi7 hl7 v7) Q
      refine rx_aw_s 1 (pc := 98) rfl ?_
      show rx_aw 91 99 [.ref 13, .ref (rx_ct c0), .int x2, .int x3, .long z7, rx_no, .long (hl7 (rx_ct c0 + 5) j8), rx_no] [.int (1 : Int32)] (rx_hp L t hi7 hl7 v7) Q
      exact rx_aw_ret (pc := 99) rfl k
