/-! Methods walked by program (gen/wp.py): what is left to show of each. -/
/-- CartFloorModel.isTurn(II)Z -/
theorem w186_isTurn_r {L : Nat} {t : List (Nat × Nat)} {hi : Nat → Nat → Int32} {hl : Nat → Nat → Int64} {v : Nat → Nat → Option Nat} {Q : Option Value → rx_H → Prop} {a0 : Int32} {a1 : Int32} (k : rx_me 180 [.ref 90, .int a0] (rx_hp L t hi hl v) (fun r h2 => ∃ z1 : Int32, r = some (.int z1) ∧ rx_ok2 L t h2 (fun hi1 hl1 v1 => ((z1 = 0 → Q (some (.int 0)) (rx_hp L t hi1 hl1 v1)) ∧ (¬ (z1 = 0) → ((a1 = 3 → Q (some (.int 1)) (rx_hp L t hi1 hl1 v1)) ∧ (¬ (a1 = 3) → ((a1 = 4 → Q (some (.int 1)) (rx_hp L t hi1 hl1 v1)) ∧ (¬ (a1 = 4) → Q (some (.int 0)) (rx_hp L t hi1 hl1 v1)))))))))) : rx_me 186 [.ref 90, .int a0, .int a1] (rx_hp L t hi hl v) Q := by
  show rx_aw 186 0 [.ref 90, .int a0, .int a1] [] (rx_hp L t hi hl v) Q
  refine rx_aw_s 2 (pc := 0) rfl ?_
  show rx_aw 186 2 [.ref 90, .int a0, .int a1] [.int a0, .ref 90] (rx_hp L t hi hl v) Q
  refine rx_w_callI (j := 180) (pc := 2) rfl rfl rfl rfl rfl ?_
  refine rx_aw.mono k (fun r h2 k => ?_)
  obtain ⟨z1, rfl, hi1, hl1, v1, rfl, k⟩ := k
  refine ⟨z1, rfl, ?_⟩
  show rx_aw 186 5 [.ref 90, .int a0, .int a1] [.int z1] (rx_hp L t hi1 hl1 v1) Q
  refine rx_aw_s 1 (pc := 5) rfl ?_
  refine rx_w_if (c := z1 = 0) ⟨fun c2 => ?_, fun c2 => ?_⟩
  · have k := k.1 c2
    show rx_aw 186 22 [.ref 90, .int a0, .int a1] [] (rx_hp L t hi1 hl1 v1) Q
    refine rx_aw_s 1 (pc := 22) rfl ?_
    show rx_aw 186 23 [.ref 90, .int a0, .int a1] [.int 0] (rx_hp L t hi1 hl1 v1) Q
    exact rx_aw_ret (pc := 23) rfl k
  · have k := k.2 c2
    show rx_aw 186 8 [.ref 90, .int a0, .int a1] [] (rx_hp L t hi1 hl1 v1) Q
    refine rx_aw_s 3 (pc := 8) rfl ?_
    refine rx_w_if (c := a1 = 3) ⟨fun c3 => ?_, fun c3 => ?_⟩
    · have k := k.1 c3
      show rx_aw 186 18 [.ref 90, .int a0, .int a1] [] (rx_hp L t hi1 hl1 v1) Q
      refine rx_aw_s 2 (pc := 18) rfl ?_
      show rx_aw 186 23 [.ref 90, .int a0, .int a1] [.int 1] (rx_hp L t hi1 hl1 v1) Q
      exact rx_aw_ret (pc := 23) rfl k
    · have k := k.2 c3
      show rx_aw 186 13 [.ref 90, .int a0, .int a1] [] (rx_hp L t hi1 hl1 v1) Q
      refine rx_aw_s 3 (pc := 13) rfl ?_
      refine rx_w_ifn (c := a1 = 4) ⟨fun c4 => ?_, fun c4 => ?_⟩
      · have k := k.1 c4
        show rx_aw 186 18 [.ref 90, .int a0, .int a1] [] (rx_hp L t hi1 hl1 v1) Q
        refine rx_aw_s 2 (pc := 18) rfl ?_
        show rx_aw 186 23 [.ref 90, .int a0, .int a1] [.int 1] (rx_hp L t hi1 hl1 v1) Q
        exact rx_aw_ret (pc := 23) rfl k
      · have k := k.2 c4
        show rx_aw 186 22 [.ref 90, .int a0, .int a1] [] (rx_hp L t hi1 hl1 v1) Q
        refine rx_aw_s 1 (pc := 22) rfl ?_
        show rx_aw 186 23 [.ref 90, .int a0, .int a1] [.int 0] (rx_hp L t hi1 hl1 v1) Q
        exact rx_aw_ret (pc := 23) rfl k
/-- CartFloorModel.isFree(JI)Z -/
theorem w187_isFree_r {L : Nat} {t : List (Nat × Nat)} {hi : Nat → Nat → Int32} {hl : Nat → Nat → Int64} {v : Nat → Nat → Option Nat} {Q : Option Value → rx_H → Prop} {a0 : Int64} {a1 : Int32} (k : (∃ j1 : Nat, a1 = nI j1 ∧ j1 < 402 ∧ (∃ j2 : Nat, a1 = nI j2 ∧ j2 < 402 ∧ (((lg_cmp (a0 &&& (((hl 90 43) ||| (hl 117 j1)) ||| (hl 119 j2))) 0) = 0 → Q (some (.int 1)) (rx_hp L t hi hl v)) ∧ (¬ ((lg_cmp (a0 &&& (((hl 90 43) ||| (hl 117 j1)) ||| (hl 119 j2))) 0) = 0) → Q (some (.int 0)) (rx_hp L t hi hl v)))))) : rx_me 187 [.ref 90, .long a0, .int a1] (rx_hp L t hi hl v) Q := by
  show rx_aw 187 0 [.ref 90, .long a0, rx_no, .int a1] [] (rx_hp L t hi hl v) Q
  refine rx_aw_s 6 (pc := 0) rfl ?_
  show rx_aw 187 10 [.ref 90, .long a0, rx_no, .int a1] [.int a1, .ref 117, .long (hl 90 43), .long a0] (rx_hp L t hi hl v) Q
  obtain ⟨j1, ej1, hj1, k⟩ := k
  refine rx_aw_lald (pc := 10) (n := 402) j1 ej1 rfl rfl (by decide) rfl hj1 (by decide) ?_
  show rx_aw 187 11 [.ref 90, .long a0, rx_no, .int a1] [.long (hl 117 j1), .long (hl 90 43), .long a0] (rx_hp L t hi hl v) Q
  refine rx_aw_s 4 (pc := 11) rfl ?_
  show rx_aw 187 17 [.ref 90, .long a0, rx_no, .int a1] [.int a1, .ref 119, .long ((hl 90 43) ||| (hl 117 j1)), .long a0] (rx_hp L t hi hl v) Q
  obtain ⟨j2, ej2, hj2, k⟩ := k
  refine rx_aw_lald (pc := 17) (n := 402) j2 ej2 rfl rfl (by decide) rfl hj2 (by decide) ?_
  show rx_aw 187 18 [.ref 90, .long a0, rx_no, .int a1] [.long (hl 119 j2), .long ((hl 90 43) ||| (hl 117 j1)), .long a0] (rx_hp L t hi hl v) Q
  refine rx_aw_s 5 (pc := 18) rfl ?_
  refine rx_w_ifn (c := (lg_cmp (a0 &&& (((hl 90 43) ||| (hl 117 j1)) ||| (hl 119 j2))) 0) = 0) ⟨fun c3 => ?_, fun c3 => ?_⟩
  · have k := k.1 c3
    show rx_aw 187 25 [.ref 90, .long a0, rx_no, .int a1] [] (rx_hp L t hi hl v) Q
    refine rx_aw_s 2 (pc := 25) rfl ?_
    show rx_aw 187 30 [.ref 90, .long a0, rx_no, .int a1] [.int 1] (rx_hp L t hi hl v) Q
    exact rx_aw_ret (pc := 30) rfl k
  · have k := k.2 c3
    show rx_aw 187 29 [.ref 90, .long a0, rx_no, .int a1] [] (rx_hp L t hi hl v) Q
    refine rx_aw_s 1 (pc := 29) rfl ?_
    show rx_aw 187 30 [.ref 90, .long a0, rx_no, .int a1] [.int 0] (rx_hp L t hi hl v) Q
    exact rx_aw_ret (pc := 30) rfl k
/-- CartFloorModel.bestOf(III)I -/
theorem w188_bestOf_r {L : Nat} {t : List (Nat × Nat)} {hi : Nat → Nat → Int32} {hl : Nat → Nat → Int64} {v : Nat → Nat → Option Nat} {Q : Option Value → rx_H → Prop} {a0 : Int32} {a1 : Int32} {a2 : Int32} (k : rx_aw 188 8 [.ref 90, .int a0, .int a1, .int a2, .int 1000000, .int 0, rx_no] [] (rx_hp L t hi hl v) Q) : rx_me 188 [.ref 90, .int a0, .int a1, .int a2] (rx_hp L t hi hl v) Q := by
  show rx_aw 188 0 [.ref 90, .int a0, .int a1, .int a2, rx_no, rx_no, rx_no] [] (rx_hp L t hi hl v) Q
  refine rx_aw_s 4 (pc := 0) rfl ?_
  show rx_aw 188 8 [.ref 90, .int a0, .int a1, .int a2, .int 1000000, .int 0, rx_no] [] (rx_hp L t hi hl v) Q
  exact k
theorem w188_bestOf_r_8 {L : Nat} {t : List (Nat × Nat)} {hi : Nat → Nat → Int32} {hl : Nat → Nat → Int64} {v : Nat → Nat → Option Nat} {Q : Option Value → rx_H → Prop} {x1 : Int32} {x2 : Int32} {x3 : Int32} {x4 : Int32} {x5 : Int32} (k : ((4 < x5 → Q (some (.int x4)) (rx_hp L t hi hl v)) ∧ (¬ (4 < x5) → rx_me 183 [.ref 90, .int x1, .int (x2 / 4), .int (x2 - x2 / 4 * 4), .int x5, .int x3] (rx_hp L t hi hl v) (fun r h2 => ∃ z2 : Int32, r = some (.int z2) ∧ rx_ok2 L t h2 (fun hi2 hl2 v2 => ((z2 = 0 → rx_aw 188 8 [.ref 90, .int x1, .int x2, .int x3, .int x4, .int (x5 + 1), rx_no] [] (rx_hp L t hi2 hl2 v2) Q) ∧ (¬ (z2 = 0) → (∃ j4 : Nat, x1 = nI j4 ∧ j4 < 6 ∧ rx_me 189 [.ref 90, .int (hi2 93 j4), .int (x2 - x2 / 4 * 4), .int x5] (rx_hp L t hi2 hl2 v2) (fun r h2 => ∃ z5 : Int32, r = some (.int z5) ∧ rx_ok2 L t h2 (fun hi5 hl5 v5 => (∃ j6 : Nat, (((256 * (x3 + 1)) + (4 * (hi5 90 33))) + (hi5 90 34)) = nI j6 ∧ j6 < 102912 ∧ ((x4 ≤ (z5 + (hi5 116 j6)) → rx_aw 188 8 [.ref 90, .int x1, .int x2, .int x3, .int x4, .int (x5 + 1), rx_no] [] (rx_hp L t hi5 hl5 v5) Q) ∧ (¬ (x4 ≤ (z5 + (hi5 116 j6))) → rx_aw 188 8 [.ref 90, .int x1, .int x2, .int x3, .int (z5 + (hi5 116 j6)), .int (x5 + 1), rx_no] [] (rx_hp L t hi5 hl5 v5) Q))))))))))))) : rx_aw 188 8 [.ref 90, .int x1, .int x2, .int x3, .int x4, .int x5, rx_no] [] (rx_hp L t hi hl v) Q := by
  refine rx_aw_s 3 (pc := 8) rfl ?_
  refine rx_w_if (c := 4 < x5) ⟨fun c1 => ?_, fun c1 => ?_⟩
  · have k := k.1 c1
    show rx_aw 188 95 [.ref 90, .int x1, .int x2, .int x3, .int x4, .int x5, rx_no] [] (rx_hp L t hi hl v) Q
    refine rx_aw_s 1 (pc := 95) rfl ?_
    show rx_aw 188 97 [.ref 90, .int x1, .int x2, .int x3, .int x4, .int x5, rx_no] [.int x4] (rx_hp L t hi hl v) Q
    exact rx_aw_ret (pc := 97) rfl k
  · have k := k.2 c1
    show rx_aw 188 14 [.ref 90, .int x1, .int x2, .int x3, .int x4, .int x5, rx_no] [] (rx_hp L t hi hl v) Q
    refine rx_aw_s 4 (pc := 14) rfl ?_
    show rx_aw 188 18 [.ref 90, .int x1, .int x2, .int x3, .int x4, .int x5, rx_no] [.int 4, .int x2, .int x1, .ref 90] (rx_hp L t hi hl v) Q
    refine rx_aw_div (pc := 18) rfl (by decide) ?_
    show rx_aw 188 19 [.ref 90, .int x1, .int x2, .int x3, .int x4, .int x5, rx_no] [.int (x2 / 4), .int x1, .ref 90] (rx_hp L t hi hl v) Q
    refine rx_aw_s 2 (pc := 19) rfl ?_
    show rx_aw 188 21 [.ref 90, .int x1, .int x2, .int x3, .int x4, .int x5, rx_no] [.int 4, .int x2, .int (x2 / 4), .int x1, .ref 90] (rx_hp L t hi hl v) Q
    refine rx_aw_rem (pc := 21) rfl (by decide) ?_
    show rx_aw 188 22 [.ref 90, .int x1, .int x2, .int x3, .int x4, .int x5, rx_no] [.int (x2 - x2 / 4 * 4), .int (x2 / 4), .int x1, .ref 90] (rx_hp L t hi hl v) Q
    refine rx_aw_s 2 (pc := 22) rfl ?_
    show rx_aw 188 25 [.ref 90, .int x1, .int x2, .int x3, .int x4, .int x5, rx_no] [.int x3, .int x5, .int (x2 - x2 / 4 * 4), .int (x2 / 4), .int x1, .ref 90] (rx_hp L t hi hl v) Q
    refine rx_w_callI (j := 183) (pc := 25) rfl rfl rfl rfl rfl ?_
    refine rx_aw.mono k (fun r h2 k => ?_)
    obtain ⟨z2, rfl, hi2, hl2, v2, rfl, k⟩ := k
    refine ⟨z2, rfl, ?_⟩
    show rx_aw 188 28 [.ref 90, .int x1, .int x2, .int x3, .int x4, .int x5, rx_no] [.int z2] (rx_hp L t hi2 hl2 v2) Q
    refine rx_aw_s 1 (pc := 28) rfl ?_
    refine rx_w_if (c := z2 = 0) ⟨fun c3 => ?_, fun c3 => ?_⟩
    · have k := k.1 c3
      show rx_aw 188 89 [.ref 90, .int x1, .int x2, .int x3, .int x4, .int x5, rx_no] [] (rx_hp L t hi2 hl2 v2) Q
      refine rx_aw_s 2 (pc := 89) rfl ?_
      show rx_aw 188 8 [.ref 90, .int x1, .int x2, .int x3, .int x4, .int (x5 + 1), rx_no] [] (rx_hp L t hi2 hl2 v2) Q
      exact k
    · have k := k.2 c3
      show rx_aw 188 31 [.ref 90, .int x1, .int x2, .int x3, .int x4, .int x5, rx_no] [] (rx_hp L t hi2 hl2 v2) Q
      refine rx_aw_s 4 (pc := 31) rfl ?_
      show rx_aw 188 37 [.ref 90, .int x1, .int x2, .int x3, .int x4, .int x5, rx_no] [.int x1, .ref 93, .ref 90] (rx_hp L t hi2 hl2 v2) Q
      obtain ⟨j4, ej4, hj4, k⟩ := k
      refine rx_aw_iald (pc := 37) (n := 6) j4 ej4 rfl rfl rfl hj4 (by decide) ?_
      show rx_aw 188 38 [.ref 90, .int x1, .int x2, .int x3, .int x4, .int x5, rx_no] [.int (hi2 93 j4), .ref 90] (rx_hp L t hi2 hl2 v2) Q
      refine rx_aw_s 2 (pc := 38) rfl ?_
      show rx_aw 188 40 [.ref 90, .int x1, .int x2, .int x3, .int x4, .int x5, rx_no] [.int 4, .int x2, .int (hi2 93 j4), .ref 90] (rx_hp L t hi2 hl2 v2) Q
      refine rx_aw_rem (pc := 40) rfl (by decide) ?_
      show rx_aw 188 41 [.ref 90, .int x1, .int x2, .int x3, .int x4, .int x5, rx_no] [.int (x2 - x2 / 4 * 4), .int (hi2 93 j4), .ref 90] (rx_hp L t hi2 hl2 v2) Q
      refine rx_aw_s 1 (pc := 41) rfl ?_
      show rx_aw 188 43 [.ref 90, .int x1, .int x2, .int x3, .int x4, .int x5, rx_no] [.int x5, .int (x2 - x2 / 4 * 4), .int (hi2 93 j4), .ref 90] (rx_hp L t hi2 hl2 v2) Q
      refine rx_w_callI (j := 189) (pc := 43) rfl rfl rfl rfl rfl ?_
      refine rx_aw.mono k (fun r h2 k => ?_)
      obtain ⟨z5, rfl, hi5, hl5, v5, rfl, k⟩ := k
      refine ⟨z5, rfl, ?_⟩
      show rx_aw 188 46 [.ref 90, .int x1, .int x2, .int x3, .int x4, .int x5, rx_no] [.int z5] (rx_hp L t hi5 hl5 v5) Q
      refine rx_aw_s 15 (pc := 46) rfl ?_
      show rx_aw 188 69 [.ref 90, .int x1, .int x2, .int x3, .int x4, .int x5, rx_no] [.int (((256 * (x3 + 1)) + (4 * (hi5 90 33))) + (hi5 90 34)), .ref 116, .int z5] (rx_hp L t hi5 hl5 v5) Q
      obtain ⟨j6, ej6, hj6, k⟩ := k
      refine rx_aw_iald (pc := 69) (n := 102912) j6 ej6 rfl rfl rfl hj6 (by decide) ?_
      show rx_aw 188 70 [.ref 90, .int x1, .int x2, .int x3, .int x4, .int x5, rx_no] [.int (hi5 116 j6), .int z5] (rx_hp L t hi5 hl5 v5) Q
      refine rx_aw_s 5 (pc := 70) rfl ?_
      refine rx_w_if (c := x4 ≤ (z5 + (hi5 116 j6))) ⟨fun c7 => ?_, fun c7 => ?_⟩
      · have k := k.1 c7
        show rx_aw 188 85 [.ref 90, .int x1, .int x2, .int x3, .int x4, .int x5, .int (z5 + (hi5 116 j6))] [] (rx_hp L t hi5 hl5 v5) Q
        refine rx_aw_s 4 (pc := 85) rfl ?_
        show rx_aw 188 8 [.ref 90, .int x1, .int x2, .int x3, .int x4, .int (x5 + 1), .int (z5 + (hi5 116 j6))] [] (rx_hp L t hi5 hl5 v5) Q
        exact rx_aw_le (ls := [.ref 90, .int x1, .int x2, .int x3, .int x4, .int (x5 + 1), rx_no]) ⟨Or.inr rfl, ⟨Or.inr rfl, ⟨Or.inr rfl, ⟨Or.inr rfl, ⟨Or.inr rfl, ⟨Or.inr rfl, ⟨Or.inl rfl, trivial⟩⟩⟩⟩⟩⟩⟩ k
      · have k := k.2 c7
        show rx_aw 188 80 [.ref 90, .int x1, .int x2, .int x3, .int x4, .int x5, .int (z5 + (hi5 116 j6))] [] (rx_hp L t hi5 hl5 v5) Q
        refine rx_aw_s 5 (pc := 80) rfl ?_
        show rx_aw 188 8 [.ref 90, .int x1, .int x2, .int x3, .int (z5 + (hi5 116 j6)), .int (x5 + 1), .int (z5 + (hi5 116 j6))] [] (rx_hp L t hi5 hl5 v5) Q
        exact rx_aw_le (ls := [.ref 90, .int x1, .int x2, .int x3, .int (z5 + (hi5 116 j6)), .int (x5 + 1), rx_no]) ⟨Or.inr rfl, ⟨Or.inr rfl, ⟨Or.inr rfl, ⟨Or.inr rfl, ⟨Or.inr rfl, ⟨Or.inr rfl, ⟨Or.inl rfl, trivial⟩⟩⟩⟩⟩⟩⟩ k
/-- CartFloorModel.turnsOf(III)I -/
theorem w189_turnsOf_r {L : Nat} {t : List (Nat × Nat)} {hi : Nat → Nat → Int32} {hl : Nat → Nat → Int64} {v : Nat → Nat → Option Nat} {Q : Option Value → rx_H → Prop} {a0 : Int32} {a1 : Int32} {a2 : Int32} (k : rx_me 180 [.ref 90, .int a0] (rx_hp L t hi hl v) (fun r h2 => ∃ z1 : Int32, r = some (.int z1) ∧ rx_ok2 L t h2 (fun hi1 hl1 v1 => ((z1 = 0 → ((a2 ≤ 0 → Q (some (.int 0)) (rx_hp L t hi1 hl1 v1)) ∧ (¬ (a2 ≤ 0) → (((a2 - 1) = a1 → Q (some (.int 0)) (rx_hp L t hi1 hl1 v1)) ∧ (¬ ((a2 - 1) = a1) → Q (some (.int 1)) (rx_hp L t hi1 hl1 v1)))))) ∧ (¬ (z1 = 0) → ((a2 = 3 → Q (some (.int 1)) (rx_hp L t hi1 hl1 v1)) ∧ (¬ (a2 = 3) → ((a2 = 4 → Q (some (.int 1)) (rx_hp L t hi1 hl1 v1)) ∧ (¬ (a2 = 4) → Q (some (.int 0)) (rx_hp L t hi1 hl1 v1)))))))))) : rx_me 189 [.ref 90, .int a0, .int a1, .int a2] (rx_hp L t hi hl v) Q := by
  show rx_aw 189 0 [.ref 90, .int a0, .int a1, .int a2] [] (rx_hp L t hi hl v) Q
  refine rx_aw_s 2 (pc := 0) rfl ?_
  show rx_aw 189 2 [.ref 90, .int a0, .int a1, .int a2] [.int a0, .ref 90] (rx_hp L t hi hl v) Q
  refine rx_w_callI (j := 180) (pc := 2) rfl rfl rfl rfl rfl ?_
  refine rx_aw.mono k (fun r h2 k => ?_)
  obtain ⟨z1, rfl, hi1, hl1, v1, rfl, k⟩ := k
  refine ⟨z1, rfl, ?_⟩
  show rx_aw 189 5 [.ref 90, .int a0, .int a1, .int a2] [.int z1] (rx_hp L t hi1 hl1 v1) Q
  refine rx_aw_s 1 (pc := 5) rfl ?_
  refine rx_w_if (c := z1 = 0) ⟨fun c2 => ?_, fun c2 => ?_⟩
  · have k := k.1 c2
    show rx_aw 189 26 [.ref 90, .int a0, .int a1, .int a2] [] (rx_hp L t hi1 hl1 v1) Q
    refine rx_aw_s 2 (pc := 26) rfl ?_
    refine rx_w_if (c := a2 ≤ 0) ⟨fun c3 => ?_, fun c3 => ?_⟩
    · have k := k.1 c3
      show rx_aw 189 41 [.ref 90, .int a0, .int a1, .int a2] [] (rx_hp L t hi1 hl1 v1) Q
      refine rx_aw_s 1 (pc := 41) rfl ?_
      show rx_aw 189 42 [.ref 90, .int a0, .int a1, .int a2] [.int 0] (rx_hp L t hi1 hl1 v1) Q
      exact rx_aw_ret (pc := 42) rfl k
    · have k := k.2 c3
      show rx_aw 189 30 [.ref 90, .int a0, .int a1, .int a2] [] (rx_hp L t hi1 hl1 v1) Q
      refine rx_aw_s 5 (pc := 30) rfl ?_
      refine rx_w_if (c := (a2 - 1) = a1) ⟨fun c4 => ?_, fun c4 => ?_⟩
      · have k := k.1 c4
        show rx_aw 189 41 [.ref 90, .int a0, .int a1, .int a2] [] (rx_hp L t hi1 hl1 v1) Q
        refine rx_aw_s 1 (pc := 41) rfl ?_
        show rx_aw 189 42 [.ref 90, .int a0, .int a1, .int a2] [.int 0] (rx_hp L t hi1 hl1 v1) Q
        exact rx_aw_ret (pc := 42) rfl k
      · have k := k.2 c4
        show rx_aw 189 37 [.ref 90, .int a0, .int a1, .int a2] [] (rx_hp L t hi1 hl1 v1) Q
        refine rx_aw_s 2 (pc := 37) rfl ?_
        show rx_aw 189 42 [.ref 90, .int a0, .int a1, .int a2] [.int 1] (rx_hp L t hi1 hl1 v1) Q
        exact rx_aw_ret (pc := 42) rfl k
  · have k := k.2 c2
    show rx_aw 189 8 [.ref 90, .int a0, .int a1, .int a2] [] (rx_hp L t hi1 hl1 v1) Q
    refine rx_aw_s 3 (pc := 8) rfl ?_
    refine rx_w_if (c := a2 = 3) ⟨fun c5 => ?_, fun c5 => ?_⟩
    · have k := k.1 c5
      show rx_aw 189 18 [.ref 90, .int a0, .int a1, .int a2] [] (rx_hp L t hi1 hl1 v1) Q
      refine rx_aw_s 2 (pc := 18) rfl ?_
      show rx_aw 189 42 [.ref 90, .int a0, .int a1, .int a2] [.int 1] (rx_hp L t hi1 hl1 v1) Q
      exact rx_aw_ret (pc := 42) rfl k
    · have k := k.2 c5
      show rx_aw 189 13 [.ref 90, .int a0, .int a1, .int a2] [] (rx_hp L t hi1 hl1 v1) Q
      refine rx_aw_s 3 (pc := 13) rfl ?_
      refine rx_w_ifn (c := a2 = 4) ⟨fun c6 => ?_, fun c6 => ?_⟩
      · have k := k.1 c6
        show rx_aw 189 18 [.ref 90, .int a0, .int a1, .int a2] [] (rx_hp L t hi1 hl1 v1) Q
        refine rx_aw_s 2 (pc := 18) rfl ?_
        show rx_aw 189 42 [.ref 90, .int a0, .int a1, .int a2] [.int 1] (rx_hp L t hi1 hl1 v1) Q
        exact rx_aw_ret (pc := 42) rfl k
      · have k := k.2 c6
        show rx_aw 189 22 [.ref 90, .int a0, .int a1, .int a2] [] (rx_hp L t hi1 hl1 v1) Q
        refine rx_aw_s 2 (pc := 22) rfl ?_
        show rx_aw 189 42 [.ref 90, .int a0, .int a1, .int a2] [.int 0] (rx_hp L t hi1 hl1 v1) Q
        exact rx_aw_ret (pc := 42) rfl k
/-- CartFloorModel.isBest(IIII)Z -/
theorem w190_isBest_r {L : Nat} {t : List (Nat × Nat)} {hi : Nat → Nat → Int32} {hl : Nat → Nat → Int64} {v : Nat → Nat → Option Nat} {Q : Option Value → rx_H → Prop} {a0 : Int32} {a1 : Int32} {a2 : Int32} {a3 : Int32} (k : rx_me 183 [.ref 90, .int a0, .int (a1 / 4), .int (a1 - a1 / 4 * 4), .int a2, .int a3] (rx_hp L t hi hl v) (fun r h2 => ∃ z1 : Int32, r = some (.int z1) ∧ rx_ok2 L t h2 (fun hi1 hl1 v1 => ((z1 = 0 → Q (some (.int 0)) (rx_hp L t hi1 hl1 v1)) ∧ (¬ (z1 = 0) → (∃ j3 : Nat, a0 = nI j3 ∧ j3 < 6 ∧ rx_me 189 [.ref 90, .int (hi1 93 j3), .int (a1 - a1 / 4 * 4), .int a2] (rx_hp L t hi1 hl1 v1) (fun r h2 => ∃ z4 : Int32, r = some (.int z4) ∧ rx_ok2 L t h2 (fun hi4 hl4 v4 => (∃ j5 : Nat, (((256 * (a3 + 1)) + (4 * (hi4 90 33))) + (hi4 90 34)) = nI j5 ∧ j5 < 102912 ∧ (∃ j6 : Nat, ((256 * a3) + a1) = nI j6 ∧ j6 < 102912 ∧ (((z4 + (hi4 116 j5)) = (hi4 116 j6) → Q (some (.int 1)) (rx_hp L t hi4 hl4 v4)) ∧ (¬ ((z4 + (hi4 116 j5)) = (hi4 116 j6)) → Q (some (.int 0)) (rx_hp L t hi4 hl4 v4))))))))))))) : rx_me 190 [.ref 90, .int a0, .int a1, .int a2, .int a3] (rx_hp L t hi hl v) Q := by
  show rx_aw 190 0 [.ref 90, .int a0, .int a1, .int a2, .int a3] [] (rx_hp L t hi hl v) Q
  refine rx_aw_s 4 (pc := 0) rfl ?_
  show rx_aw 190 4 [.ref 90, .int a0, .int a1, .int a2, .int a3] [.int 4, .int a1, .int a0, .ref 90] (rx_hp L t hi hl v) Q
  refine rx_aw_div (pc := 4) rfl (by decide) ?_
  show rx_aw 190 5 [.ref 90, .int a0, .int a1, .int a2, .int a3] [.int (a1 / 4), .int a0, .ref 90] (rx_hp L t hi hl v) Q
  refine rx_aw_s 2 (pc := 5) rfl ?_
  show rx_aw 190 7 [.ref 90, .int a0, .int a1, .int a2, .int a3] [.int 4, .int a1, .int (a1 / 4), .int a0, .ref 90] (rx_hp L t hi hl v) Q
  refine rx_aw_rem (pc := 7) rfl (by decide) ?_
  show rx_aw 190 8 [.ref 90, .int a0, .int a1, .int a2, .int a3] [.int (a1 - a1 / 4 * 4), .int (a1 / 4), .int a0, .ref 90] (rx_hp L t hi hl v) Q
  refine rx_aw_s 2 (pc := 8) rfl ?_
  show rx_aw 190 11 [.ref 90, .int a0, .int a1, .int a2, .int a3] [.int a3, .int a2, .int (a1 - a1 / 4 * 4), .int (a1 / 4), .int a0, .ref 90] (rx_hp L t hi hl v) Q
  refine rx_w_callI (j := 183) (pc := 11) rfl rfl rfl rfl rfl ?_
  refine rx_aw.mono k (fun r h2 k => ?_)
  obtain ⟨z1, rfl, hi1, hl1, v1, rfl, k⟩ := k
  refine ⟨z1, rfl, ?_⟩
  show rx_aw 190 14 [.ref 90, .int a0, .int a1, .int a2, .int a3] [.int z1] (rx_hp L t hi1 hl1 v1) Q
  refine rx_aw_s 1 (pc := 14) rfl ?_
  refine rx_w_if (c := z1 = 0) ⟨fun c2 => ?_, fun c2 => ?_⟩
  · have k := k.1 c2
    show rx_aw 190 77 [.ref 90, .int a0, .int a1, .int a2, .int a3] [] (rx_hp L t hi1 hl1 v1) Q
    refine rx_aw_s 1 (pc := 77) rfl ?_
    show rx_aw 190 78 [.ref 90, .int a0, .int a1, .int a2, .int a3] [.int 0] (rx_hp L t hi1 hl1 v1) Q
    exact rx_aw_ret (pc := 78) rfl k
  · have k := k.2 c2
    show rx_aw 190 17 [.ref 90, .int a0, .int a1, .int a2, .int a3] [] (rx_hp L t hi1 hl1 v1) Q
    refine rx_aw_s 4 (pc := 17) rfl ?_
    show rx_aw 190 23 [.ref 90, .int a0, .int a1, .int a2, .int a3] [.int a0, .ref 93, .ref 90] (rx_hp L t hi1 hl1 v1) Q
    obtain ⟨j3, ej3, hj3, k⟩ := k
    refine rx_aw_iald (pc := 23) (n := 6) j3 ej3 rfl rfl rfl hj3 (by decide) ?_
    show rx_aw 190 24 [.ref 90, .int a0, .int a1, .int a2, .int a3] [.int (hi1 93 j3), .ref 90] (rx_hp L t hi1 hl1 v1) Q
    refine rx_aw_s 2 (pc := 24) rfl ?_
    show rx_aw 190 26 [.ref 90, .int a0, .int a1, .int a2, .int a3] [.int 4, .int a1, .int (hi1 93 j3), .ref 90] (rx_hp L t hi1 hl1 v1) Q
    refine rx_aw_rem (pc := 26) rfl (by decide) ?_
    show rx_aw 190 27 [.ref 90, .int a0, .int a1, .int a2, .int a3] [.int (a1 - a1 / 4 * 4), .int (hi1 93 j3), .ref 90] (rx_hp L t hi1 hl1 v1) Q
    refine rx_aw_s 1 (pc := 27) rfl ?_
    show rx_aw 190 28 [.ref 90, .int a0, .int a1, .int a2, .int a3] [.int a2, .int (a1 - a1 / 4 * 4), .int (hi1 93 j3), .ref 90] (rx_hp L t hi1 hl1 v1) Q
    refine rx_w_callI (j := 189) (pc := 28) rfl rfl rfl rfl rfl ?_
    refine rx_aw.mono k (fun r h2 k => ?_)
    obtain ⟨z4, rfl, hi4, hl4, v4, rfl, k⟩ := k
    refine ⟨z4, rfl, ?_⟩
    show rx_aw 190 31 [.ref 90, .int a0, .int a1, .int a2, .int a3] [.int z4] (rx_hp L t hi4 hl4 v4) Q
    refine rx_aw_s 15 (pc := 31) rfl ?_
    show rx_aw 190 55 [.ref 90, .int a0, .int a1, .int a2, .int a3] [.int (((256 * (a3 + 1)) + (4 * (hi4 90 33))) + (hi4 90 34)), .ref 116, .int z4] (rx_hp L t hi4 hl4 v4) Q
    obtain ⟨j5, ej5, hj5, k⟩ := k
    refine rx_aw_iald (pc := 55) (n := 102912) j5 ej5 rfl rfl rfl hj5 (by decide) ?_
    show rx_aw 190 56 [.ref 90, .int a0, .int a1, .int a2, .int a3] [.int (hi4 116 j5), .int z4] (rx_hp L t hi4 hl4 v4) Q
    refine rx_aw_s 8 (pc := 56) rfl ?_
    show rx_aw 190 69 [.ref 90, .int a0, .int a1, .int a2, .int a3] [.int ((256 * a3) + a1), .ref 116, .int (z4 + (hi4 116 j5))] (rx_hp L t hi4 hl4 v4) Q
    obtain ⟨j6, ej6, hj6, k⟩ := k
    refine rx_aw_iald (pc := 69) (n := 102912) j6 ej6 rfl rfl rfl hj6 (by decide) ?_
    show rx_aw 190 70 [.ref 90, .int a0, .int a1, .int a2, .int a3] [.int (hi4 116 j6), .int (z4 + (hi4 116 j5))] (rx_hp L t hi4 hl4 v4) Q
    refine rx_aw_s 1 (pc := 70) rfl ?_
    refine rx_w_ifn (c := (z4 + (hi4 116 j5)) = (hi4 116 j6)) ⟨fun c7 => ?_, fun c7 => ?_⟩
    · have k := k.1 c7
      show rx_aw 190 73 [.ref 90, .int a0, .int a1, .int a2, .int a3] [] (rx_hp L t hi4 hl4 v4) Q
      refine rx_aw_s 2 (pc := 73) rfl ?_
      show rx_aw 190 78 [.ref 90, .int a0, .int a1, .int a2, .int a3] [.int 1] (rx_hp L t hi4 hl4 v4) Q
      exact rx_aw_ret (pc := 78) rfl k
    · have k := k.2 c7
      show rx_aw 190 77 [.ref 90, .int a0, .int a1, .int a2, .int a3] [] (rx_hp L t hi4 hl4 v4) Q
      refine rx_aw_s 1 (pc := 77) rfl ?_
      show rx_aw 190 78 [.ref 90, .int a0, .int a1, .int a2, .int a3] [.int 0] (rx_hp L t hi4 hl4 v4) Q
      exact rx_aw_ret (pc := 78) rfl k
/-- CartFloorModel.work()V -/
theorem w191_work_r {L : Nat} {t : List (Nat × Nat)} {hi : Nat → Nat → Int32} {hl : Nat → Nat → Int64} {v : Nat → Nat → Option Nat} {Q : Option Value → rx_H → Prop}  (k : rx_aw 191 2 [.ref 90, .int 0, rx_no, rx_no] [] (rx_hp L t hi hl v) Q) : rx_me 191 [.ref 90] (rx_hp L t hi hl v) Q := by
  show rx_aw 191 0 [.ref 90, rx_no, rx_no, rx_no] [] (rx_hp L t hi hl v) Q
  refine rx_aw_s 2 (pc := 0) rfl ?_
  show rx_aw 191 2 [.ref 90, .int 0, rx_no, rx_no] [] (rx_hp L t hi hl v) Q
  exact k
theorem w191_work_r_2 {L : Nat} {t : List (Nat × Nat)} {hi : Nat → Nat → Int32} {hl : Nat → Nat → Int64} {v : Nat → Nat → Option Nat} {Q : Option Value → rx_H → Prop} {x1 : Int32} (k : ((402 ≤ x1 → rx_aw 191 53 [.ref 90, .int 0, rx_no, rx_no] [] (rx_hp L t hi hl v) Q) ∧ (¬ (402 ≤ x1) → rx_me 192 [.ref 90, .int x1] (rx_hp L t hi hl v) (fun r h2 => r = none ∧ rx_ok2 L t h2 (fun hi2 hl2 v2 => rx_aw 191 16 [.ref 90, .int x1, .int 0, rx_no] [] (rx_hp L t hi2 hl2 v2) Q))))) : rx_aw 191 2 [.ref 90, .int x1, rx_no, rx_no] [] (rx_hp L t hi hl v) Q := by
  refine rx_aw_s 3 (pc := 2) rfl ?_
  refine rx_w_if (c := 402 ≤ x1) ⟨fun c1 => ?_, fun c1 => ?_⟩
  · have k := k.1 c1
    show rx_aw 191 51 [.ref 90, .int x1, rx_no, rx_no] [] (rx_hp L t hi hl v) Q
    refine rx_aw_s 2 (pc := 51) rfl ?_
    show rx_aw 191 53 [.ref 90, .int 0, rx_no, rx_no] [] (rx_hp L t hi hl v) Q
    exact k
  · have k := k.2 c1
    show rx_aw 191 9 [.ref 90, .int x1, rx_no, rx_no] [] (rx_hp L t hi hl v) Q
    refine rx_aw_s 2 (pc := 9) rfl ?_
    show rx_aw 191 11 [.ref 90, .int x1, rx_no, rx_no] [.int x1, .ref 90] (rx_hp L t hi hl v) Q
    refine rx_w_callV (j := 192) (pc := 11) rfl rfl rfl rfl rfl ?_
    refine rx_aw.mono k (fun r h2 k => ?_)
    obtain ⟨rfl, hi2, hl2, v2, rfl, k⟩ := k
    refine ⟨rfl, ?_⟩
    show rx_aw 191 14 [.ref 90, .int x1, rx_no, rx_no] [] (rx_hp L t hi2 hl2 v2) Q
    refine rx_aw_s 2 (pc := 14) rfl ?_
    show rx_aw 191 16 [.ref 90, .int x1, .int 0, rx_no] [] (rx_hp L t hi2 hl2 v2) Q
    exact k
theorem w191_work_r_53 {L : Nat} {t : List (Nat × Nat)} {hi : Nat → Nat → Int32} {hl : Nat → Nat → Int64} {v : Nat → Nat → Option Nat} {Q : Option Value → rx_H → Prop} {x1 : Int32} (k : (((hi 90 6) ≤ x1 → Q none (rx_hp L t hi hl v)) ∧ (¬ ((hi 90 6) ≤ x1) → rx_aw 191 63 [.ref 90, .int x1, .int 0, rx_no] [] (rx_hp L t hi hl v) Q))) : rx_aw 191 53 [.ref 90, .int x1, rx_no, rx_no] [] (rx_hp L t hi hl v) Q := by
  refine rx_aw_s 4 (pc := 53) rfl ?_
  refine rx_w_if (c := (hi 90 6) ≤ x1) ⟨fun c3 => ?_, fun c3 => ?_⟩
  · have k := k.1 c3
    show rx_aw 191 177 [.ref 90, .int x1, rx_no, rx_no] [] (rx_hp L t hi hl v) Q
    exact rx_aw_ret (pc := 177) rfl k
  · have k := k.2 c3
    show rx_aw 191 61 [.ref 90, .int x1, rx_no, rx_no] [] (rx_hp L t hi hl v) Q
    refine rx_aw_s 2 (pc := 61) rfl ?_
    show rx_aw 191 63 [.ref 90, .int x1, .int 0, rx_no] [] (rx_hp L t hi hl v) Q
    exact k
theorem w191_work_r_16 {L : Nat} {t : List (Nat × Nat)} {hi : Nat → Nat → Int32} {hl : Nat → Nat → Int64} {v : Nat → Nat → Option Nat} {Q : Option Value → rx_H → Prop} {x1 : Int32} {x2 : Int32} (k : (((hi 90 6) ≤ x2 → rx_aw 191 2 [.ref 90, .int (x1 + 1), rx_no, rx_no] [] (rx_hp L t hi hl v) Q) ∧ (¬ ((hi 90 6) ≤ x2) → ((402 ≤ (x1 + 1) → rx_aw 191 2 [.ref 90, .int (x1 + 1), rx_no, rx_no] [] (rx_hp L t hi hl v) Q) ∧ (¬ (402 ≤ (x1 + 1)) → rx_me 193 [.ref 90, .int x2, .int x1] (rx_hp L t hi hl v) (fun r h2 => r = none ∧ rx_ok2 L t h2 (fun hi6 hl6 v6 => rx_aw 191 16 [.ref 90, .int x1, .int (x2 + 1), rx_no] [] (rx_hp L t hi6 hl6 v6) Q))))))) : rx_aw 191 16 [.ref 90, .int x1, .int x2, rx_no] [] (rx_hp L t hi hl v) Q := by
  refine rx_aw_s 4 (pc := 16) rfl ?_
  refine rx_w_if (c := (hi 90 6) ≤ x2) ⟨fun c4 => ?_, fun c4 => ?_⟩
  · have k := k.1 c4
    show rx_aw 191 45 [.ref 90, .int x1, .int x2, rx_no] [] (rx_hp L t hi hl v) Q
    refine rx_aw_s 2 (pc := 45) rfl ?_
    show rx_aw 191 2 [.ref 90, .int (x1 + 1), .int x2, rx_no] [] (rx_hp L t hi hl v) Q
    exact rx_aw_le (ls := [.ref 90, .int (x1 + 1), rx_no, rx_no]) ⟨Or.inr rfl, ⟨Or.inr rfl, ⟨Or.inl rfl, ⟨Or.inl rfl, trivial⟩⟩⟩⟩ k
  · have k := k.2 c4
    show rx_aw 191 24 [.ref 90, .int x1, .int x2, rx_no] [] (rx_hp L t hi hl v) Q
    refine rx_aw_s 5 (pc := 24) rfl ?_
    refine rx_w_if (c := 402 ≤ (x1 + 1)) ⟨fun c5 => ?_, fun c5 => ?_⟩
    · have k := k.1 c5
      show rx_aw 191 45 [.ref 90, .int x1, .int x2, rx_no] [] (rx_hp L t hi hl v) Q
      refine rx_aw_s 2 (pc := 45) rfl ?_
      show rx_aw 191 2 [.ref 90, .int (x1 + 1), .int x2, rx_no] [] (rx_hp L t hi hl v) Q
      exact rx_aw_le (ls := [.ref 90, .int (x1 + 1), rx_no, rx_no]) ⟨Or.inr rfl, ⟨Or.inr rfl, ⟨Or.inl rfl, ⟨Or.inl rfl, trivial⟩⟩⟩⟩ k
    · have k := k.2 c5
      show rx_aw 191 33 [.ref 90, .int x1, .int x2, rx_no] [] (rx_hp L t hi hl v) Q
      refine rx_aw_s 3 (pc := 33) rfl ?_
      show rx_aw 191 36 [.ref 90, .int x1, .int x2, rx_no] [.int x1, .int x2, .ref 90] (rx_hp L t hi hl v) Q
      refine rx_w_callV (j := 193) (pc := 36) rfl rfl rfl rfl rfl ?_
      refine rx_aw.mono k (fun r h2 k => ?_)
      obtain ⟨rfl, hi6, hl6, v6, rfl, k⟩ := k
      refine ⟨rfl, ?_⟩
      show rx_aw 191 39 [.ref 90, .int x1, .int x2, rx_no] [] (rx_hp L t hi6 hl6 v6) Q
      refine rx_aw_s 2 (pc := 39) rfl ?_
      show rx_aw 191 16 [.ref 90, .int x1, .int (x2 + 1), rx_no] [] (rx_hp L t hi6 hl6 v6) Q
      exact k
theorem w191_work_r_63 {L : Nat} {t : List (Nat × Nat)} {hi : Nat → Nat → Int32} {hl : Nat → Nat → Int64} {v : Nat → Nat → Option Nat} {Q : Option Value → rx_H → Prop} {x1 : Int32} {x2 : Int32} (k : ((402 ≤ x2 → rx_aw 191 114 [.ref 90, .int x1, .int 0, rx_no] [] (rx_hp L t hi hl v) Q) ∧ (¬ (402 ≤ x2) → (∃ j8 : Nat, x1 = nI j8 ∧ j8 < 6 ∧ (∃ j9 : Nat, ((402 * x1) + x2) = nI j9 ∧ j9 < 2412 ∧ (∃ j10 : Nat, ((402 * x1) + x2) = nI j10 ∧ j10 < 2412 ∧ rx_me 179 [.ref 90, .int (hi 93 j8), .int (hi 101 j9), .int (hi 102 j10)] (rx_hp L t hi hl v) (fun r h2 => ∃ z11 : Int64, r = some (.long z11) ∧ rx_ok2 L t h2 (fun hi11 hl11 v11 => (∃ j12 : Nat, ((402 * x1) + x2) = nI j12 ∧ j12 < 2412 ∧ rx_aw 191 63 [.ref 90, .int x1, .int (x2 + 1), rx_no] [] (rx_hp L t hi11 (rx_u hl11 105 j12 z11) v11) Q))))))))) : rx_aw 191 63 [.ref 90, .int x1, .int x2, rx_no] [] (rx_hp L t hi hl v) Q := by
  refine rx_aw_s 3 (pc := 63) rfl ?_
  refine rx_w_if (c := 402 ≤ x2) ⟨fun c7 => ?_, fun c7 => ?_⟩
  · have k := k.1 c7
    show rx_aw 191 112 [.ref 90, .int x1, .int x2, rx_no] [] (rx_hp L t hi hl v) Q
    refine rx_aw_s 2 (pc := 112) rfl ?_
    show rx_aw 191 114 [.ref 90, .int x1, .int 0, rx_no] [] (rx_hp L t hi hl v) Q
    exact k
  · have k := k.2 c7
    show rx_aw 191 70 [.ref 90, .int x1, .int x2, rx_no] [] (rx_hp L t hi hl v) Q
    refine rx_aw_s 13 (pc := 70) rfl ?_
    show rx_aw 191 89 [.ref 90, .int x1, .int x2, .int ((402 * x1) + x2)] [.int x1, .ref 93, .ref 90, .int ((402 * x1) + x2), .ref 105] (rx_hp L t hi hl v) Q
    obtain ⟨j8, ej8, hj8, k⟩ := k
    refine rx_aw_iald (pc := 89) (n := 6) j8 ej8 rfl rfl rfl hj8 (by decide) ?_
    show rx_aw 191 90 [.ref 90, .int x1, .int x2, .int ((402 * x1) + x2)] [.int (hi 93 j8), .ref 90, .int ((402 * x1) + x2), .ref 105] (rx_hp L t hi hl v) Q
    refine rx_aw_s 3 (pc := 90) rfl ?_
    show rx_aw 191 95 [.ref 90, .int x1, .int x2, .int ((402 * x1) + x2)] [.int ((402 * x1) + x2), .ref 101, .int (hi 93 j8), .ref 90, .int ((402 * x1) + x2), .ref 105] (rx_hp L t hi hl v) Q
    obtain ⟨j9, ej9, hj9, k⟩ := k
    refine rx_aw_iald (pc := 95) (n := 2412) j9 ej9 rfl rfl rfl hj9 (by decide) ?_
    show rx_aw 191 96 [.ref 90, .int x1, .int x2, .int ((402 * x1) + x2)] [.int (hi 101 j9), .int (hi 93 j8), .ref 90, .int ((402 * x1) + x2), .ref 105] (rx_hp L t hi hl v) Q
    refine rx_aw_s 3 (pc := 96) rfl ?_
    show rx_aw 191 101 [.ref 90, .int x1, .int x2, .int ((402 * x1) + x2)] [.int ((402 * x1) + x2), .ref 102, .int (hi 101 j9), .int (hi 93 j8), .ref 90, .int ((402 * x1) + x2), .ref 105] (rx_hp L t hi hl v) Q
    obtain ⟨j10, ej10, hj10, k⟩ := k
    refine rx_aw_iald (pc := 101) (n := 2412) j10 ej10 rfl rfl rfl hj10 (by decide) ?_
    show rx_aw 191 102 [.ref 90, .int x1, .int x2, .int ((402 * x1) + x2)] [.int (hi 102 j10), .int (hi 101 j9), .int (hi 93 j8), .ref 90, .int ((402 * x1) + x2), .ref 105] (rx_hp L t hi hl v) Q
    refine rx_w_callL (j := 179) (pc := 102) rfl rfl rfl rfl rfl ?_
    refine rx_aw.mono k (fun r h2 k => ?_)
    obtain ⟨z11, rfl, hi11, hl11, v11, rfl, k⟩ := k
    refine ⟨z11, rfl, ?_⟩
    show rx_aw 191 105 [.ref 90, .int x1, .int x2, .int ((402 * x1) + x2)] [.long z11, .int ((402 * x1) + x2), .ref 105] (rx_hp L t hi11 hl11 v11) Q
    obtain ⟨j12, ej12, hj12, k⟩ := k
    refine rx_aw_last (pc := 105) (n := 2412) j12 ej12 rfl rfl (by decide) rfl hj12 (by decide) ?_
    show rx_aw 191 106 [.ref 90, .int x1, .int x2, .int ((402 * x1) + x2)] [] (rx_hp L t hi11 (rx_u hl11 105 j12 z11) v11) Q
    refine rx_aw_s 2 (pc := 106) rfl ?_
    show rx_aw 191 63 [.ref 90, .int x1, .int (x2 + 1), .int ((402 * x1) + x2)] [] (rx_hp L t hi11 (rx_u hl11 105 j12 z11) v11) Q
    exact rx_aw_le (ls := [.ref 90, .int x1, .int (x2 + 1), rx_no]) ⟨Or.inr rfl, ⟨Or.inr rfl, ⟨Or.inr rfl, ⟨Or.inl rfl, trivial⟩⟩⟩⟩ k
theorem w191_work_r_114 {L : Nat} {t : List (Nat × Nat)} {hi : Nat → Nat → Int32} {hl : Nat → Nat → Int64} {v : Nat → Nat → Option Nat} {Q : Option Value → rx_H → Prop} {x1 : Int32} {x2 : Int32} (k : ((402 ≤ x2 → rx_aw 191 53 [.ref 90, .int (x1 + 1), rx_no, rx_no] [] (rx_hp L t hi hl v) Q) ∧ (¬ (402 ≤ x2) → (∃ j14 : Nat, ((402 * x1) + x2) = nI j14 ∧ j14 < 2412 ∧ rx_me 196 [.ref 90, .int x1, .int x2] (rx_hp L t hi hl v) (fun r h2 => ∃ z15 : Int64, r = some (.long z15) ∧ rx_ok2 L t h2 (fun hi15 hl15 v15 => ((x2 = 0 → (∃ j17 : Nat, ((402 * x1) + x2) = nI j17 ∧ j17 < 2412 ∧ rx_aw 191 114 [.ref 90, .int x1, .int (x2 + 1), rx_no] [] (rx_hp L t hi15 (rx_u hl15 106 j17 (((hl 105 j14) ||| z15) ||| 0)) v15) Q)) ∧ (¬ (x2 = 0) → rx_me 196 [.ref 90, .int x1, .int (x2 - 1)] (rx_hp L t hi15 hl15 v15) (fun r h2 => ∃ z18 : Int64, r = some (.long z18) ∧ rx_ok2 L t h2 (fun hi18 hl18 v18 => (∃ j19 : Nat, ((402 * x1) + x2) = nI j19 ∧ j19 < 2412 ∧ rx_aw 191 114 [.ref 90, .int x1, .int (x2 + 1), rx_no] [] (rx_hp L t hi18 (rx_u hl18 106 j19 (((hl 105 j14) ||| z15) ||| z18)) v18) Q))))))))))) : rx_aw 191 114 [.ref 90, .int x1, .int x2, rx_no] [] (rx_hp L t hi hl v) Q := by
  refine rx_aw_s 3 (pc := 114) rfl ?_
  refine rx_w_if (c := 402 ≤ x2) ⟨fun c13 => ?_, fun c13 => ?_⟩
  · have k := k.1 c13
    show rx_aw 191 171 [.ref 90, .int x1, .int x2, rx_no] [] (rx_hp L t hi hl v) Q
    refine rx_aw_s 2 (pc := 171) rfl ?_
    show rx_aw 191 53 [.ref 90, .int (x1 + 1), .int x2, rx_no] [] (rx_hp L t hi hl v) Q
    exact rx_aw_le (ls := [.ref 90, .int (x1 + 1), rx_no, rx_no]) ⟨Or.inr rfl, ⟨Or.inr rfl, ⟨Or.inl rfl, ⟨Or.inl rfl, trivial⟩⟩⟩⟩ k
  · have k := k.2 c13
    show rx_aw 191 121 [.ref 90, .int x1, .int x2, rx_no] [] (rx_hp L t hi hl v) Q
    refine rx_aw_s 12 (pc := 121) rfl ?_
    show rx_aw 191 139 [.ref 90, .int x1, .int x2, .int ((402 * x1) + x2)] [.int ((402 * x1) + x2), .ref 105, .int ((402 * x1) + x2), .ref 106] (rx_hp L t hi hl v) Q
    obtain ⟨j14, ej14, hj14, k⟩ := k
    refine rx_aw_lald (pc := 139) (n := 2412) j14 ej14 rfl rfl (by decide) rfl hj14 (by decide) ?_
    show rx_aw 191 140 [.ref 90, .int x1, .int x2, .int ((402 * x1) + x2)] [.long (hl 105 j14), .int ((402 * x1) + x2), .ref 106] (rx_hp L t hi hl v) Q
    refine rx_aw_s 3 (pc := 140) rfl ?_
    show rx_aw 191 143 [.ref 90, .int x1, .int x2, .int ((402 * x1) + x2)] [.int x2, .int x1, .ref 90, .long (hl 105 j14), .int ((402 * x1) + x2), .ref 106] (rx_hp L t hi hl v) Q
    refine rx_w_callL (j := 196) (pc := 143) rfl rfl rfl rfl rfl ?_
    refine rx_aw.mono k (fun r h2 k => ?_)
    obtain ⟨z15, rfl, hi15, hl15, v15, rfl, k⟩ := k
    refine ⟨z15, rfl, ?_⟩
    show rx_aw 191 146 [.ref 90, .int x1, .int x2, .int ((402 * x1) + x2)] [.long z15, .long (hl 105 j14), .int ((402 * x1) + x2), .ref 106] (rx_hp L t hi15 hl15 v15) Q
    refine rx_aw_s 3 (pc := 146) rfl ?_
    refine rx_w_ifn (c := x2 = 0) ⟨fun c16 => ?_, fun c16 => ?_⟩
    · have k := k.1 c16
      show rx_aw 191 151 [.ref 90, .int x1, .int x2, .int ((402 * x1) + x2)] [.long ((hl 105 j14) ||| z15), .int ((402 * x1) + x2), .ref 106] (rx_hp L t hi15 hl15 v15) Q
      refine rx_aw_s 3 (pc := 151) rfl ?_
      show rx_aw 191 164 [.ref 90, .int x1, .int x2, .int ((402 * x1) + x2)] [.long (((hl 105 j14) ||| z15) ||| 0), .int ((402 * x1) + x2), .ref 106] (rx_hp L t hi15 hl15 v15) Q
      obtain ⟨j17, ej17, hj17, k⟩ := k
      refine rx_aw_last (pc := 164) (n := 2412) j17 ej17 rfl rfl (by decide) rfl hj17 (by decide) ?_
      show rx_aw 191 165 [.ref 90, .int x1, .int x2, .int ((402 * x1) + x2)] [] (rx_hp L t hi15 (rx_u hl15 106 j17 (((hl 105 j14) ||| z15) ||| 0)) v15) Q
      refine rx_aw_s 2 (pc := 165) rfl ?_
      show rx_aw 191 114 [.ref 90, .int x1, .int (x2 + 1), .int ((402 * x1) + x2)] [] (rx_hp L t hi15 (rx_u hl15 106 j17 (((hl 105 j14) ||| z15) ||| 0)) v15) Q
      exact rx_aw_le (ls := [.ref 90, .int x1, .int (x2 + 1), rx_no]) ⟨Or.inr rfl, ⟨Or.inr rfl, ⟨Or.inr rfl, ⟨Or.inl rfl, trivial⟩⟩⟩⟩ k
    · have k := k.2 c16
      show rx_aw 191 155 [.ref 90, .int x1, .int x2, .int ((402 * x1) + x2)] [.long ((hl 105 j14) ||| z15), .int ((402 * x1) + x2), .ref 106] (rx_hp L t hi15 hl15 v15) Q
      refine rx_aw_s 5 (pc := 155) rfl ?_
      show rx_aw 191 160 [.ref 90, .int x1, .int x2, .int ((402 * x1) + x2)] [.int (x2 - 1), .int x1, .ref 90, .long ((hl 105 j14) ||| z15), .int ((402 * x1) + x2), .ref 106] (rx_hp L t hi15 hl15 v15) Q
      refine rx_w_callL (j := 196) (pc := 160) rfl rfl rfl rfl rfl ?_
      refine rx_aw.mono k (fun r h2 k => ?_)
      obtain ⟨z18, rfl, hi18, hl18, v18, rfl, k⟩ := k
      refine ⟨z18, rfl, ?_⟩
      show rx_aw 191 163 [.ref 90, .int x1, .int x2, .int ((402 * x1) + x2)] [.long z18, .long ((hl 105 j14) ||| z15), .int ((402 * x1) + x2), .ref 106] (rx_hp L t hi18 hl18 v18) Q
      refine rx_aw_s 1 (pc := 163) rfl ?_
      show rx_aw 191 164 [.ref 90, .int x1, .int x2, .int ((402 * x1) + x2)] [.long (((hl 105 j14) ||| z15) ||| z18), .int ((402 * x1) + x2), .ref 106] (rx_hp L t hi18 hl18 v18) Q
      obtain ⟨j19, ej19, hj19, k⟩ := k
      refine rx_aw_last (pc := 164) (n := 2412) j19 ej19 rfl rfl (by decide) rfl hj19 (by decide) ?_
      show rx_aw 191 165 [.ref 90, .int x1, .int x2, .int ((402 * x1) + x2)] [] (rx_hp L t hi18 (rx_u hl18 106 j19 (((hl 105 j14) ||| z15) ||| z18)) v18) Q
      refine rx_aw_s 2 (pc := 165) rfl ?_
      show rx_aw 191 114 [.ref 90, .int x1, .int (x2 + 1), .int ((402 * x1) + x2)] [] (rx_hp L t hi18 (rx_u hl18 106 j19 (((hl 105 j14) ||| z15) ||| z18)) v18) Q
      exact rx_aw_le (ls := [.ref 90, .int x1, .int (x2 + 1), rx_no]) ⟨Or.inr rfl, ⟨Or.inr rfl, ⟨Or.inr rfl, ⟨Or.inl rfl, trivial⟩⟩⟩⟩ k
/-- CartFloorModel.placeShelves(I)V -/
theorem w192_placeShelves_r {L : Nat} {t : List (Nat × Nat)} {hi : Nat → Nat → Int32} {hl : Nat → Nat → Int64} {v : Nat → Nat → Option Nat} {Q : Option Value → rx_H → Prop} {a0 : Int32} (k : rx_aw 192 2 [.ref 90, .int a0, .int 0, rx_no, rx_no] [] (rx_hp L t hi hl v) Q) : rx_me 192 [.ref 90, .int a0] (rx_hp L t hi hl v) Q := by
  show rx_aw 192 0 [.ref 90, .int a0, rx_no, rx_no, rx_no] [] (rx_hp L t hi hl v) Q
  refine rx_aw_s 2 (pc := 0) rfl ?_
  show rx_aw 192 2 [.ref 90, .int a0, .int 0, rx_no, rx_no] [] (rx_hp L t hi hl v) Q
  exact k
theorem w192_placeShelves_r_2 {L : Nat} {t : List (Nat × Nat)} {hi : Nat → Nat → Int32} {hl : Nat → Nat → Int64} {v : Nat → Nat → Option Nat} {Q : Option Value → rx_H → Prop} {x1 : Int32} {x2 : Int32} (k : (((hi 90 21) ≤ x2 → Q none (rx_hp L t hi hl v)) ∧ (¬ ((hi 90 21) ≤ x2) → ((x1 = 0 → (∃ j3 : Nat, x2 = nI j3 ∧ j3 < 12 ∧ (∃ j4 : Nat, ((402 * x2) + x1) = nI j4 ∧ j4 < 4824 ∧ rx_aw 192 48 [.ref 90, .int x1, .int x2, .int ((402 * x2) + x1), .int 0] [] (rx_hp L t (rx_u hi 108 j4 (hi 107 j3)) hl v) Q))) ∧ (¬ (x1 = 0) → (∃ j5 : Nat, (((402 * x2) + x1) - 1) = nI j5 ∧ j5 < 4824 ∧ (∃ j6 : Nat, ((402 * x2) + x1) = nI j6 ∧ j6 < 4824 ∧ rx_aw 192 48 [.ref 90, .int x1, .int x2, .int ((402 * x2) + x1), .int 0] [] (rx_hp L t (rx_u hi 108 j6 (hi 108 j5)) hl v) Q))))))) : rx_aw 192 2 [.ref 90, .int x1, .int x2, rx_no, rx_no] [] (rx_hp L t hi hl v) Q := by
  refine rx_aw_s 4 (pc := 2) rfl ?_
  refine rx_w_if (c := (hi 90 21) ≤ x2) ⟨fun c1 => ?_, fun c1 => ?_⟩
  · have k := k.1 c1
    show rx_aw 192 105 [.ref 90, .int x1, .int x2, rx_no, rx_no] [] (rx_hp L t hi hl v) Q
    exact rx_aw_ret (pc := 105) rfl k
  · have k := k.2 c1
    show rx_aw 192 10 [.ref 90, .int x1, .int x2, rx_no, rx_no] [] (rx_hp L t hi hl v) Q
    refine rx_aw_s 11 (pc := 10) rfl ?_
    refine rx_w_ifn (c := x1 = 0) ⟨fun c2 => ?_, fun c2 => ?_⟩
    · have k := k.1 c2
      show rx_aw 192 27 [.ref 90, .int x1, .int x2, .int ((402 * x2) + x1), rx_no] [.int ((402 * x2) + x1), .ref 108] (rx_hp L t hi hl v) Q
      refine rx_aw_s 3 (pc := 27) rfl ?_
      show rx_aw 192 32 [.ref 90, .int x1, .int x2, .int ((402 * x2) + x1), rx_no] [.int x2, .ref 107, .int ((402 * x2) + x1), .ref 108] (rx_hp L t hi hl v) Q
      obtain ⟨j3, ej3, hj3, k⟩ := k
      refine rx_aw_iald (pc := 32) (n := 12) j3 ej3 rfl rfl rfl hj3 (by decide) ?_
      show rx_aw 192 33 [.ref 90, .int x1, .int x2, .int ((402 * x2) + x1), rx_no] [.int (hi 107 j3), .int ((402 * x2) + x1), .ref 108] (rx_hp L t hi hl v) Q
      refine rx_aw_s 1 (pc := 33) rfl ?_
      show rx_aw 192 44 [.ref 90, .int x1, .int x2, .int ((402 * x2) + x1), rx_no] [.int (hi 107 j3), .int ((402 * x2) + x1), .ref 108] (rx_hp L t hi hl v) Q
      obtain ⟨j4, ej4, hj4, k⟩ := k
      refine rx_aw_iast (pc := 44) (n := 4824) j4 ej4 rfl rfl (by decide) rfl hj4 (by decide) ?_
      show rx_aw 192 45 [.ref 90, .int x1, .int x2, .int ((402 * x2) + x1), rx_no] [] (rx_hp L t (rx_u hi 108 j4 (hi 107 j3)) hl v) Q
      refine rx_aw_s 2 (pc := 45) rfl ?_
      show rx_aw 192 48 [.ref 90, .int x1, .int x2, .int ((402 * x2) + x1), .int 0] [] (rx_hp L t (rx_u hi 108 j4 (hi 107 j3)) hl v) Q
      exact k
    · have k := k.2 c2
      show rx_aw 192 36 [.ref 90, .int x1, .int x2, .int ((402 * x2) + x1), rx_no] [.int ((402 * x2) + x1), .ref 108] (rx_hp L t hi hl v) Q
      refine rx_aw_s 5 (pc := 36) rfl ?_
      show rx_aw 192 43 [.ref 90, .int x1, .int x2, .int ((402 * x2) + x1), rx_no] [.int (((402 * x2) + x1) - 1), .ref 108, .int ((402 * x2) + x1), .ref 108] (rx_hp L t hi hl v) Q
      obtain ⟨j5, ej5, hj5, k⟩ := k
      refine rx_aw_iald (pc := 43) (n := 4824) j5 ej5 rfl rfl rfl hj5 (by decide) ?_
      show rx_aw 192 44 [.ref 90, .int x1, .int x2, .int ((402 * x2) + x1), rx_no] [.int (hi 108 j5), .int ((402 * x2) + x1), .ref 108] (rx_hp L t hi hl v) Q
      obtain ⟨j6, ej6, hj6, k⟩ := k
      refine rx_aw_iast (pc := 44) (n := 4824) j6 ej6 rfl rfl (by decide) rfl hj6 (by decide) ?_
      show rx_aw 192 45 [.ref 90, .int x1, .int x2, .int ((402 * x2) + x1), rx_no] [] (rx_hp L t (rx_u hi 108 j6 (hi 108 j5)) hl v) Q
      refine rx_aw_s 2 (pc := 45) rfl ?_
      show rx_aw 192 48 [.ref 90, .int x1, .int x2, .int ((402 * x2) + x1), .int 0] [] (rx_hp L t (rx_u hi 108 j6 (hi 108 j5)) hl v) Q
      exact k
theorem w192_placeShelves_r_48 {L : Nat} {t : List (Nat × Nat)} {hi : Nat → Nat → Int32} {hl : Nat → Nat → Int64} {v : Nat → Nat → Option Nat} {Q : Option Value → rx_H → Prop} {x1 : Int32} {x2 : Int32} {x3 : Int32} {x4 : Int32} (k : (((hi 90 6) ≤ x4 → rx_aw 192 2 [.ref 90, .int x1, .int (x2 + 1), rx_no, rx_no] [] (rx_hp L t hi hl v) Q) ∧ (¬ ((hi 90 6) ≤ x4) → (∃ j8 : Nat, ((402 * x4) + x1) = nI j8 ∧ j8 < 2412 ∧ (((hi 103 j8) = x2 → (∃ j10 : Nat, ((402 * x4) + x1) = nI j10 ∧ j10 < 2412 ∧ (∃ j11 : Nat, x3 = nI j11 ∧ j11 < 4824 ∧ rx_aw 192 48 [.ref 90, .int x1, .int x2, .int x3, .int (x4 + 1)] [] (rx_hp L t (rx_u hi 108 j11 (hi 101 j10)) hl v) Q))) ∧ (¬ ((hi 103 j8) = x2) → rx_aw 192 48 [.ref 90, .int x1, .int x2, .int x3, .int (x4 + 1)] [] (rx_hp L t hi hl v) Q)))))) : rx_aw 192 48 [.ref 90, .int x1, .int x2, .int x3, .int x4] [] (rx_hp L t hi hl v) Q := by
  refine rx_aw_s 4 (pc := 48) rfl ?_
  refine rx_w_if (c := (hi 90 6) ≤ x4) ⟨fun c7 => ?_, fun c7 => ?_⟩
  · have k := k.1 c7
    show rx_aw 192 99 [.ref 90, .int x1, .int x2, .int x3, .int x4] [] (rx_hp L t hi hl v) Q
    refine rx_aw_s 2 (pc := 99) rfl ?_
    show rx_aw 192 2 [.ref 90, .int x1, .int (x2 + 1), .int x3, .int x4] [] (rx_hp L t hi hl v) Q
    exact rx_aw_le (ls := [.ref 90, .int x1, .int (x2 + 1), rx_no, rx_no]) ⟨Or.inr rfl, ⟨Or.inr rfl, ⟨Or.inr rfl, ⟨Or.inl rfl, ⟨Or.inl rfl, trivial⟩⟩⟩⟩⟩ k
  · have k := k.2 c7
    show rx_aw 192 57 [.ref 90, .int x1, .int x2, .int x3, .int x4] [] (rx_hp L t hi hl v) Q
    refine rx_aw_s 7 (pc := 57) rfl ?_
    show rx_aw 192 69 [.ref 90, .int x1, .int x2, .int x3, .int x4] [.int ((402 * x4) + x1), .ref 103] (rx_hp L t hi hl v) Q
    obtain ⟨j8, ej8, hj8, k⟩ := k
    refine rx_aw_iald (pc := 69) (n := 2412) j8 ej8 rfl rfl rfl hj8 (by decide) ?_
    show rx_aw 192 70 [.ref 90, .int x1, .int x2, .int x3, .int x4] [.int (hi 103 j8)] (rx_hp L t hi hl v) Q
    refine rx_aw_s 2 (pc := 70) rfl ?_
    refine rx_w_ifn (c := (hi 103 j8) = x2) ⟨fun c9 => ?_, fun c9 => ?_⟩
    · have k := k.1 c9
      show rx_aw 192 74 [.ref 90, .int x1, .int x2, .int x3, .int x4] [] (rx_hp L t hi hl v) Q
      refine rx_aw_s 10 (pc := 74) rfl ?_
      show rx_aw 192 91 [.ref 90, .int x1, .int x2, .int x3, .int x4] [.int ((402 * x4) + x1), .ref 101, .int x3, .ref 108] (rx_hp L t hi hl v) Q
      obtain ⟨j10, ej10, hj10, k⟩ := k
      refine rx_aw_iald (pc := 91) (n := 2412) j10 ej10 rfl rfl rfl hj10 (by decide) ?_
      show rx_aw 192 92 [.ref 90, .int x1, .int x2, .int x3, .int x4] [.int (hi 101 j10), .int x3, .ref 108] (rx_hp L t hi hl v) Q
      obtain ⟨j11, ej11, hj11, k⟩ := k
      refine rx_aw_iast (pc := 92) (n := 4824) j11 ej11 rfl rfl (by decide) rfl hj11 (by decide) ?_
      show rx_aw 192 93 [.ref 90, .int x1, .int x2, .int x3, .int x4] [] (rx_hp L t (rx_u hi 108 j11 (hi 101 j10)) hl v) Q
      refine rx_aw_s 2 (pc := 93) rfl ?_
      show rx_aw 192 48 [.ref 90, .int x1, .int x2, .int x3, .int (x4 + 1)] [] (rx_hp L t (rx_u hi 108 j11 (hi 101 j10)) hl v) Q
      exact k
    · have k := k.2 c9
      show rx_aw 192 93 [.ref 90, .int x1, .int x2, .int x3, .int x4] [] (rx_hp L t hi hl v) Q
      refine rx_aw_s 2 (pc := 93) rfl ?_
      show rx_aw 192 48 [.ref 90, .int x1, .int x2, .int x3, .int (x4 + 1)] [] (rx_hp L t hi hl v) Q
      exact k
/-- CartFloorModel.next(II)V -/
theorem w193_next_r {L : Nat} {t : List (Nat × Nat)} {hi : Nat → Nat → Int32} {hl : Nat → Nat → Int64} {v : Nat → Nat → Option Nat} {Q : Option Value → rx_H → Prop} {a0 : Int32} {a1 : Int32} (k : rx_me 194 [.ref 90, .int a0, .int a1] (rx_hp L t hi hl v) (fun r h2 => ∃ z1 : Int32, r = some (.int z1) ∧ rx_ok2 L t h2 (fun hi1 hl1 v1 => (∃ j2 : Nat, ((402 * a0) + a1) = nI j2 ∧ j2 < 2412 ∧ (∃ j3 : Nat, ((402 * a0) + a1) = nI j3 ∧ j3 < 2412 ∧ (∃ j4 : Nat, ((402 * a0) + a1) = nI j4 ∧ j4 < 2412 ∧ ((z1 = 5 → (∃ j6 : Nat, a0 = nI j6 ∧ j6 < 6 ∧ (((hi1 93 j6) = 1 → ((0 ≤ (hi1 103 j2) → (((-1) < 0 → ((0 = 0 → (∃ j11 : Nat, ((402 * a0) + a1) = nI j11 ∧ j11 < 2412 ∧ (∃ j12 : Nat, (((402 * a0) + a1) + 1) = nI j12 ∧ j12 < 2412 ∧ (∃ j13 : Nat, (((402 * a0) + a1) + 1) = nI j13 ∧ j13 < 2412 ∧ (∃ j14 : Nat, (((402 * a0) + a1) + 1) = nI j14 ∧ j14 < 2412 ∧ Q none (rx_hp L t (rx_u (rx_u (rx_u (rx_u hi1 104 j11 (vp_nar .boolean 0)) 101 j12 (hi1 101 j3)) 102 j13 (hi1 102 j4)) 103 j14 (hi1 103 j2)) hl1 v1)))))) ∧ (¬ (0 = 0) → (∃ j15 : Nat, ((402 * a0) + a1) = nI j15 ∧ j15 < 2412 ∧ (∃ j16 : Nat, (((402 * a0) + a1) + 1) = nI j16 ∧ j16 < 2412 ∧ (∃ j17 : Nat, (((402 * a0) + a1) + 1) = nI j17 ∧ j17 < 2412 ∧ (∃ j18 : Nat, (((402 * a0) + a1) + 1) = nI j18 ∧ j18 < 2412 ∧ Q none (rx_hp L t (rx_u (rx_u (rx_u (rx_u hi1 104 j15 (vp_nar .boolean 0)) 101 j16 (hi1 101 j3)) 102 j17 (hi1 102 j4)) 103 j18 (-1)) hl1 v1)))))))) ∧ (¬ ((-1) < 0) → ((a0 = (hi1 90 35) → (((((hi1 90 36) >>> ((-1) &&& 31)) &&& 1) = 0 → ((1 = 0 → (∃ j22 : Nat, ((402 * a0) + a1) = nI j22 ∧ j22 < 2412 ∧ (∃ j23 : Nat, (((402 * a0) + a1) + 1) = nI j23 ∧ j23 < 2412 ∧ (∃ j24 : Nat, (((402 * a0) + a1) + 1) = nI j24 ∧ j24 < 2412 ∧ (∃ j25 : Nat, (((402 * a0) + a1) + 1) = nI j25 ∧ j25 < 2412 ∧ Q none (rx_hp L t (rx_u (rx_u (rx_u (rx_u hi1 104 j22 (vp_nar .boolean 1)) 101 j23 (hi1 101 j3)) 102 j24 (hi1 102 j4)) 103 j25 (hi1 103 j2)) hl1 v1)))))) ∧ (¬ (1 = 0) → (∃ j26 : Nat, ((402 * a0) + a1) = nI j26 ∧ j26 < 2412 ∧ (∃ j27 : Nat, (((402 * a0) + a1) + 1) = nI j27 ∧ j27 < 2412 ∧ (∃ j28 : Nat, (((402 * a0) + a1) + 1) = nI j28 ∧ j28 < 2412 ∧ (∃ j29 : Nat, (((402 * a0) + a1) + 1) = nI j29 ∧ j29 < 2412 ∧ Q none (rx_hp L t (rx_u (rx_u (rx_u (rx_u hi1 104 j26 (vp_nar .boolean 1)) 101 j27 (hi1 101 j3)) 102 j28 (hi1 102 j4)) 103 j29 (-1)) hl1 v1)))))))) ∧ (¬ ((((hi1 90 36) >>> ((-1) &&& 31)) &&& 1) = 0) → ((0 = 0 → (∃ j31 : Nat, ((402 * a0) + a1) = nI j31 ∧ j31 < 2412 ∧ (∃ j32 : Nat, (((402 * a0) + a1) + 1) = nI j32 ∧ j32 < 2412 ∧ (∃ j33 : Nat, (((402 * a0) + a1) + 1) = nI j33 ∧ j33 < 2412 ∧ (∃ j34 : Nat, (((402 * a0) + a1) + 1) = nI j34 ∧ j34 < 2412 ∧ Q none (rx_hp L t (rx_u (rx_u (rx_u (rx_u hi1 104 j31 (vp_nar .boolean 0)) 101 j32 (hi1 101 j3)) 102 j33 (hi1 102 j4)) 103 j34 (hi1 103 j2)) hl1 v1)))))) ∧ (¬ (0 = 0) → (∃ j35 : Nat, ((402 * a0) + a1) = nI j35 ∧ j35 < 2412 ∧ (∃ j36 : Nat, (((402 * a0) + a1) + 1) = nI j36 ∧ j36 < 2412 ∧ (∃ j37 : Nat, (((402 * a0) + a1) + 1) = nI j37 ∧ j37 < 2412 ∧ (∃ j38 : Nat, (((402 * a0) + a1) + 1) = nI j38 ∧ j38 < 2412 ∧ Q none (rx_hp L t (rx_u (rx_u (rx_u (rx_u hi1 104 j35 (vp_nar .boolean 0)) 101 j36 (hi1 101 j3)) 102 j37 (hi1 102 j4)) 103 j38 (-1)) hl1 v1)))))))))) ∧ (¬ (a0 = (hi1 90 35)) → ((1 = 0 → (∃ j40 : Nat, ((402 * a0) + a1) = nI j40 ∧ j40 < 2412 ∧ (∃ j41 : Nat, (((402 * a0) + a1) + 1) = nI j41 ∧ j41 < 2412 ∧ (∃ j42 : Nat, (((402 * a0) + a1) + 1) = nI j42 ∧ j42 < 2412 ∧ (∃ j43 : Nat, (((402 * a0) + a1) + 1) = nI j43 ∧ j43 < 2412 ∧ Q none (rx_hp L t (rx_u (rx_u (rx_u (rx_u hi1 104 j40 (vp_nar .boolean 1)) 101 j41 (hi1 101 j3)) 102 j42 (hi1 102 j4)) 103 j43 (hi1 103 j2)) hl1 v1)))))) ∧ (¬ (1 = 0) → (∃ j44 : Nat, ((402 * a0) + a1) = nI j44 ∧ j44 < 2412 ∧ (∃ j45 : Nat, (((402 * a0) + a1) + 1) = nI j45 ∧ j45 < 2412 ∧ (∃ j46 : Nat, (((402 * a0) + a1) + 1) = nI j46 ∧ j46 < 2412 ∧ (∃ j47 : Nat, (((402 * a0) + a1) + 1) = nI j47 ∧ j47 < 2412 ∧ Q none (rx_hp L t (rx_u (rx_u (rx_u (rx_u hi1 104 j44 (vp_nar .boolean 1)) 101 j45 (hi1 101 j3)) 102 j46 (hi1 102 j4)) 103 j47 (-1)) hl1 v1)))))))))))) ∧ (¬ (0 ≤ (hi1 103 j2)) → rx_me 195 [.ref 90, .int (hi1 101 j3), .int a1] (rx_hp L t hi1 hl1 v1) (fun r h2 => ∃ z48 : Int32, r = some (.int z48) ∧ rx_ok2 L t h2 (fun hi48 hl48 v48 => ((z48 < 0 → ((0 = 0 → (∃ j51 : Nat, ((402 * a0) + a1) = nI j51 ∧ j51 < 2412 ∧ (∃ j52 : Nat, (((402 * a0) + a1) + 1) = nI j52 ∧ j52 < 2412 ∧ (∃ j53 : Nat, (((402 * a0) + a1) + 1) = nI j53 ∧ j53 < 2412 ∧ (∃ j54 : Nat, (((402 * a0) + a1) + 1) = nI j54 ∧ j54 < 2412 ∧ Q none (rx_hp L t (rx_u (rx_u (rx_u (rx_u hi48 104 j51 (vp_nar .boolean 0)) 101 j52 (hi1 101 j3)) 102 j53 (hi1 102 j4)) 103 j54 (hi1 103 j2)) hl48 v48)))))) ∧ (¬ (0 = 0) → (∃ j55 : Nat, ((402 * a0) + a1) = nI j55 ∧ j55 < 2412 ∧ (∃ j56 : Nat, (((402 * a0) + a1) + 1) = nI j56 ∧ j56 < 2412 ∧ (∃ j57 : Nat, (((402 * a0) + a1) + 1) = nI j57 ∧ j57 < 2412 ∧ (∃ j58 : Nat, (((402 * a0) + a1) + 1) = nI j58 ∧ j58 < 2412 ∧ Q none (rx_hp L t (rx_u (rx_u (rx_u (rx_u hi48 104 j55 (vp_nar .boolean 0)) 101 j56 (hi1 101 j3)) 102 j57 (hi1 102 j4)) 103 j58 z48) hl48 v48)))))))) ∧ (¬ (z48 < 0) → ((a0 = (hi48 90 35) → (((((hi48 90 36) >>> (z48 &&& 31)) &&& 1) = 0 → ((1 = 0 → (∃ j62 : Nat, ((402 * a0) + a1) = nI j62 ∧ j62 < 2412 ∧ (∃ j63 : Nat, (((402 * a0) + a1) + 1) = nI j63 ∧ j63 < 2412 ∧ (∃ j64 : Nat, (((402 * a0) + a1) + 1) = nI j64 ∧ j64 < 2412 ∧ (∃ j65 : Nat, (((402 * a0) + a1) + 1) = nI j65 ∧ j65 < 2412 ∧ Q none (rx_hp L t (rx_u (rx_u (rx_u (rx_u hi48 104 j62 (vp_nar .boolean 1)) 101 j63 (hi1 101 j3)) 102 j64 (hi1 102 j4)) 103 j65 (hi1 103 j2)) hl48 v48)))))) ∧ (¬ (1 = 0) → (∃ j66 : Nat, ((402 * a0) + a1) = nI j66 ∧ j66 < 2412 ∧ (∃ j67 : Nat, (((402 * a0) + a1) + 1) = nI j67 ∧ j67 < 2412 ∧ (∃ j68 : Nat, (((402 * a0) + a1) + 1) = nI j68 ∧ j68 < 2412 ∧ (∃ j69 : Nat, (((402 * a0) + a1) + 1) = nI j69 ∧ j69 < 2412 ∧ Q none (rx_hp L t (rx_u (rx_u (rx_u (rx_u hi48 104 j66 (vp_nar .boolean 1)) 101 j67 (hi1 101 j3)) 102 j68 (hi1 102 j4)) 103 j69 z48) hl48 v48)))))))) ∧ (¬ ((((hi48 90 36) >>> (z48 &&& 31)) &&& 1) = 0) → ((0 = 0 → (∃ j71 : Nat, ((402 * a0) + a1) = nI j71 ∧ j71 < 2412 ∧ (∃ j72 : Nat, (((402 * a0) + a1) + 1) = nI j72 ∧ j72 < 2412 ∧ (∃ j73 : Nat, (((402 * a0) + a1) + 1) = nI j73 ∧ j73 < 2412 ∧ (∃ j74 : Nat, (((402 * a0) + a1) + 1) = nI j74 ∧ j74 < 2412 ∧ Q none (rx_hp L t (rx_u (rx_u (rx_u (rx_u hi48 104 j71 (vp_nar .boolean 0)) 101 j72 (hi1 101 j3)) 102 j73 (hi1 102 j4)) 103 j74 (hi1 103 j2)) hl48 v48)))))) ∧ (¬ (0 = 0) → (∃ j75 : Nat, ((402 * a0) + a1) = nI j75 ∧ j75 < 2412 ∧ (∃ j76 : Nat, (((402 * a0) + a1) + 1) = nI j76 ∧ j76 < 2412 ∧ (∃ j77 : Nat, (((402 * a0) + a1) + 1) = nI j77 ∧ j77 < 2412 ∧ (∃ j78 : Nat, (((402 * a0) + a1) + 1) = nI j78 ∧ j78 < 2412 ∧ Q none (rx_hp L t (rx_u (rx_u (rx_u (rx_u hi48 104 j75 (vp_nar .boolean 0)) 101 j76 (hi1 101 j3)) 102 j77 (hi1 102 j4)) 103 j78 z48) hl48 v48)))))))))) ∧ (¬ (a0 = (hi48 90 35)) → ((1 = 0 → (∃ j80 : Nat, ((402 * a0) + a1) = nI j80 ∧ j80 < 2412 ∧ (∃ j81 : Nat, (((402 * a0) + a1) + 1) = nI j81 ∧ j81 < 2412 ∧ (∃ j82 : Nat, (((402 * a0) + a1) + 1) = nI j82 ∧ j82 < 2412 ∧ (∃ j83 : Nat, (((402 * a0) + a1) + 1) = nI j83 ∧ j83 < 2412 ∧ Q none (rx_hp L t (rx_u (rx_u (rx_u (rx_u hi48 104 j80 (vp_nar .boolean 1)) 101 j81 (hi1 101 j3)) 102 j82 (hi1 102 j4)) 103 j83 (hi1 103 j2)) hl48 v48)))))) ∧ (¬ (1 = 0) → (∃ j84 : Nat, ((402 * a0) + a1) = nI j84 ∧ j84 < 2412 ∧ (∃ j85 : Nat, (((402 * a0) + a1) + 1) = nI j85 ∧ j85 < 2412 ∧ (∃ j86 : Nat, (((402 * a0) + a1) + 1) = nI j86 ∧ j86 < 2412 ∧ (∃ j87 : Nat, (((402 * a0) + a1) + 1) = nI j87 ∧ j87 < 2412 ∧ Q none (rx_hp L t (rx_u (rx_u (rx_u (rx_u hi48 104 j84 (vp_nar .boolean 1)) 101 j85 (hi1 101 j3)) 102 j86 (hi1 102 j4)) 103 j87 z48) hl48 v48)))))))))))))))) ∧ (¬ ((hi1 93 j6) = 1) → (((-1) < 0 → ((0 = 0 → (∃ j90 : Nat, ((402 * a0) + a1) = nI j90 ∧ j90 < 2412 ∧ (∃ j91 : Nat, (((402 * a0) + a1) + 1) = nI j91 ∧ j91 < 2412 ∧ (∃ j92 : Nat, (((402 * a0) + a1) + 1) = nI j92 ∧ j92 < 2412 ∧ (∃ j93 : Nat, (((402 * a0) + a1) + 1) = nI j93 ∧ j93 < 2412 ∧ Q none (rx_hp L t (rx_u (rx_u (rx_u (rx_u hi1 104 j90 (vp_nar .boolean 0)) 101 j91 (hi1 101 j3)) 102 j92 (hi1 102 j4)) 103 j93 (hi1 103 j2)) hl1 v1)))))) ∧ (¬ (0 = 0) → (∃ j94 : Nat, ((402 * a0) + a1) = nI j94 ∧ j94 < 2412 ∧ (∃ j95 : Nat, (((402 * a0) + a1) + 1) = nI j95 ∧ j95 < 2412 ∧ (∃ j96 : Nat, (((402 * a0) + a1) + 1) = nI j96 ∧ j96 < 2412 ∧ (∃ j97 : Nat, (((402 * a0) + a1) + 1) = nI j97 ∧ j97 < 2412 ∧ Q none (rx_hp L t (rx_u (rx_u (rx_u (rx_u hi1 104 j94 (vp_nar .boolean 0)) 101 j95 (hi1 101 j3)) 102 j96 (hi1 102 j4)) 103 j97 (-1)) hl1 v1)))))))) ∧ (¬ ((-1) < 0) → ((a0 = (hi1 90 35) → (((((hi1 90 36) >>> ((-1) &&& 31)) &&& 1) = 0 → ((1 = 0 → (∃ j101 : Nat, ((402 * a0) + a1) = nI j101 ∧ j101 < 2412 ∧ (∃ j102 : Nat, (((402 * a0) + a1) + 1) = nI j102 ∧ j102 < 2412 ∧ (∃ j103 : Nat, (((402 * a0) + a1) + 1) = nI j103 ∧ j103 < 2412 ∧ (∃ j104 : Nat, (((402 * a0) + a1) + 1) = nI j104 ∧ j104 < 2412 ∧ Q none (rx_hp L t (rx_u (rx_u (rx_u (rx_u hi1 104 j101 (vp_nar .boolean 1)) 101 j102 (hi1 101 j3)) 102 j103 (hi1 102 j4)) 103 j104 (hi1 103 j2)) hl1 v1)))))) ∧ (¬ (1 = 0) → (∃ j105 : Nat, ((402 * a0) + a1) = nI j105 ∧ j105 < 2412 ∧ (∃ j106 : Nat, (((402 * a0) + a1) + 1) = nI j106 ∧ j106 < 2412 ∧ (∃ j107 : Nat, (((402 * a0) + a1) + 1) = nI j107 ∧ j107 < 2412 ∧ (∃ j108 : Nat, (((402 * a0) + a1) + 1) = nI j108 ∧ j108 < 2412 ∧ Q none (rx_hp L t (rx_u (rx_u (rx_u (rx_u hi1 104 j105 (vp_nar .boolean 1)) 101 j106 (hi1 101 j3)) 102 j107 (hi1 102 j4)) 103 j108 (-1)) hl1 v1)))))))) ∧ (¬ ((((hi1 90 36) >>> ((-1) &&& 31)) &&& 1) = 0) → ((0 = 0 → (∃ j110 : Nat, ((402 * a0) + a1) = nI j110 ∧ j110 < 2412 ∧ (∃ j111 : Nat, (((402 * a0) + a1) + 1) = nI j111 ∧ j111 < 2412 ∧ (∃ j112 : Nat, (((402 * a0) + a1) + 1) = nI j112 ∧ j112 < 2412 ∧ (∃ j113 : Nat, (((402 * a0) + a1) + 1) = nI j113 ∧ j113 < 2412 ∧ Q none (rx_hp L t (rx_u (rx_u (rx_u (rx_u hi1 104 j110 (vp_nar .boolean 0)) 101 j111 (hi1 101 j3)) 102 j112 (hi1 102 j4)) 103 j113 (hi1 103 j2)) hl1 v1)))))) ∧ (¬ (0 = 0) → (∃ j114 : Nat, ((402 * a0) + a1) = nI j114 ∧ j114 < 2412 ∧ (∃ j115 : Nat, (((402 * a0) + a1) + 1) = nI j115 ∧ j115 < 2412 ∧ (∃ j116 : Nat, (((402 * a0) + a1) + 1) = nI j116 ∧ j116 < 2412 ∧ (∃ j117 : Nat, (((402 * a0) + a1) + 1) = nI j117 ∧ j117 < 2412 ∧ Q none (rx_hp L t (rx_u (rx_u (rx_u (rx_u hi1 104 j114 (vp_nar .boolean 0)) 101 j115 (hi1 101 j3)) 102 j116 (hi1 102 j4)) 103 j117 (-1)) hl1 v1)))))))))) ∧ (¬ (a0 = (hi1 90 35)) → ((1 = 0 → (∃ j119 : Nat, ((402 * a0) + a1) = nI j119 ∧ j119 < 2412 ∧ (∃ j120 : Nat, (((402 * a0) + a1) + 1) = nI j120 ∧ j120 < 2412 ∧ (∃ j121 : Nat, (((402 * a0) + a1) + 1) = nI j121 ∧ j121 < 2412 ∧ (∃ j122 : Nat, (((402 * a0) + a1) + 1) = nI j122 ∧ j122 < 2412 ∧ Q none (rx_hp L t (rx_u (rx_u (rx_u (rx_u hi1 104 j119 (vp_nar .boolean 1)) 101 j120 (hi1 101 j3)) 102 j121 (hi1 102 j4)) 103 j122 (hi1 103 j2)) hl1 v1)))))) ∧ (¬ (1 = 0) → (∃ j123 : Nat, ((402 * a0) + a1) = nI j123 ∧ j123 < 2412 ∧ (∃ j124 : Nat, (((402 * a0) + a1) + 1) = nI j124 ∧ j124 < 2412 ∧ (∃ j125 : Nat, (((402 * a0) + a1) + 1) = nI j125 ∧ j125 < 2412 ∧ (∃ j126 : Nat, (((402 * a0) + a1) + 1) = nI j126 ∧ j126 < 2412 ∧ Q none (rx_hp L t (rx_u (rx_u (rx_u (rx_u hi1 104 j123 (vp_nar .boolean 1)) 101 j124 (hi1 101 j3)) 102 j125 (hi1 102 j4)) 103 j126 (-1)) hl1 v1))))))))))))))) ∧ (¬ (z1 = 5) → ((z1 = 6 → (∃ j128 : Nat, a0 = nI j128 ∧ j128 < 6 ∧ (((hi1 93 j128) = 1 → (((hi1 103 j2) < 0 → ((0 = 0 → (∃ j132 : Nat, ((402 * a0) + a1) = nI j132 ∧ j132 < 2412 ∧ (∃ j133 : Nat, (((402 * a0) + a1) + 1) = nI j133 ∧ j133 < 2412 ∧ (∃ j134 : Nat, (((402 * a0) + a1) + 1) = nI j134 ∧ j134 < 2412 ∧ (∃ j135 : Nat, (((402 * a0) + a1) + 1) = nI j135 ∧ j135 < 2412 ∧ Q none (rx_hp L t (rx_u (rx_u (rx_u (rx_u hi1 104 j132 (vp_nar .boolean 0)) 101 j133 (hi1 101 j3)) 102 j134 (hi1 102 j4)) 103 j135 (hi1 103 j2)) hl1 v1)))))) ∧ (¬ (0 = 0) → (∃ j136 : Nat, ((402 * a0) + a1) = nI j136 ∧ j136 < 2412 ∧ (∃ j137 : Nat, (((402 * a0) + a1) + 1) = nI j137 ∧ j137 < 2412 ∧ (∃ j138 : Nat, (((402 * a0) + a1) + 1) = nI j138 ∧ j138 < 2412 ∧ (∃ j139 : Nat, (((402 * a0) + a1) + 1) = nI j139 ∧ j139 < 2412 ∧ Q none (rx_hp L t (rx_u (rx_u (rx_u (rx_u hi1 104 j136 (vp_nar .boolean 0)) 101 j137 (hi1 101 j3)) 102 j138 (hi1 102 j4)) 103 j139 (-1)) hl1 v1)))))))) ∧ (¬ ((hi1 103 j2) < 0) → (∃ j140 : Nat, (hi1 101 j3) = nI j140 ∧ j140 < 64 ∧ (((hi1 91 j140) = 2 → ((1 = 0 → (∃ j143 : Nat, ((402 * a0) + a1) = nI j143 ∧ j143 < 2412 ∧ (∃ j144 : Nat, (((402 * a0) + a1) + 1) = nI j144 ∧ j144 < 2412 ∧ (∃ j145 : Nat, (((402 * a0) + a1) + 1) = nI j145 ∧ j145 < 2412 ∧ (∃ j146 : Nat, (((402 * a0) + a1) + 1) = nI j146 ∧ j146 < 2412 ∧ Q none (rx_hp L t (rx_u (rx_u (rx_u (rx_u hi1 104 j143 (vp_nar .boolean 1)) 101 j144 (hi1 101 j3)) 102 j145 (hi1 102 j4)) 103 j146 (hi1 103 j2)) hl1 v1)))))) ∧ (¬ (1 = 0) → (∃ j147 : Nat, ((402 * a0) + a1) = nI j147 ∧ j147 < 2412 ∧ (∃ j148 : Nat, (((402 * a0) + a1) + 1) = nI j148 ∧ j148 < 2412 ∧ (∃ j149 : Nat, (((402 * a0) + a1) + 1) = nI j149 ∧ j149 < 2412 ∧ (∃ j150 : Nat, (((402 * a0) + a1) + 1) = nI j150 ∧ j150 < 2412 ∧ Q none (rx_hp L t (rx_u (rx_u (rx_u (rx_u hi1 104 j147 (vp_nar .boolean 1)) 101 j148 (hi1 101 j3)) 102 j149 (hi1 102 j4)) 103 j150 (-1)) hl1 v1)))))))) ∧ (¬ ((hi1 91 j140) = 2) → ((0 = 0 → (∃ j152 : Nat, ((402 * a0) + a1) = nI j152 ∧ j152 < 2412 ∧ (∃ j153 : Nat, (((402 * a0) + a1) + 1) = nI j153 ∧ j153 < 2412 ∧ (∃ j154 : Nat, (((402 * a0) + a1) + 1) = nI j154 ∧ j154 < 2412 ∧ (∃ j155 : Nat, (((402 * a0) + a1) + 1) = nI j155 ∧ j155 < 2412 ∧ Q none (rx_hp L t (rx_u (rx_u (rx_u (rx_u hi1 104 j152 (vp_nar .boolean 0)) 101 j153 (hi1 101 j3)) 102 j154 (hi1 102 j4)) 103 j155 (hi1 103 j2)) hl1 v1)))))) ∧ (¬ (0 = 0) → (∃ j156 : Nat, ((402 * a0) + a1) = nI j156 ∧ j156 < 2412 ∧ (∃ j157 : Nat, (((402 * a0) + a1) + 1) = nI j157 ∧ j157 < 2412 ∧ (∃ j158 : Nat, (((402 * a0) + a1) + 1) = nI j158 ∧ j158 < 2412 ∧ (∃ j159 : Nat, (((402 * a0) + a1) + 1) = nI j159 ∧ j159 < 2412 ∧ Q none (rx_hp L t (rx_u (rx_u (rx_u (rx_u hi1 104 j156 (vp_nar .boolean 0)) 101 j157 (hi1 101 j3)) 102 j158 (hi1 102 j4)) 103 j159 (-1)) hl1 v1))))))))))))) ∧ (¬ ((hi1 93 j128) = 1) → ((0 = 0 → (∃ j161 : Nat, ((402 * a0) + a1) = nI j161 ∧ j161 < 2412 ∧ (∃ j162 : Nat, (((402 * a0) + a1) + 1) = nI j162 ∧ j162 < 2412 ∧ (∃ j163 : Nat, (((402 * a0) + a1) + 1) = nI j163 ∧ j163 < 2412 ∧ (∃ j164 : Nat, (((402 * a0) + a1) + 1) = nI j164 ∧ j164 < 2412 ∧ Q none (rx_hp L t (rx_u (rx_u (rx_u (rx_u hi1 104 j161 (vp_nar .boolean 0)) 101 j162 (hi1 101 j3)) 102 j163 (hi1 102 j4)) 103 j164 (hi1 103 j2)) hl1 v1)))))) ∧ (¬ (0 = 0) → (∃ j165 : Nat, ((402 * a0) + a1) = nI j165 ∧ j165 < 2412 ∧ (∃ j166 : Nat, (((402 * a0) + a1) + 1) = nI j166 ∧ j166 < 2412 ∧ (∃ j167 : Nat, (((402 * a0) + a1) + 1) = nI j167 ∧ j167 < 2412 ∧ (∃ j168 : Nat, (((402 * a0) + a1) + 1) = nI j168 ∧ j168 < 2412 ∧ Q none (rx_hp L t (rx_u (rx_u (rx_u (rx_u hi1 104 j165 (vp_nar .boolean 0)) 101 j166 (hi1 101 j3)) 102 j167 (hi1 102 j4)) 103 j168 (-1)) hl1 v1))))))))))) ∧ (¬ (z1 = 6) → (∃ j169 : Nat, a0 = nI j169 ∧ j169 < 6 ∧ rx_me 184 [.ref 90, .int (hi1 93 j169), .int (hi1 101 j3), .int (hi1 102 j4), .int z1] (rx_hp L t hi1 hl1 v1) (fun r h2 => ∃ z170 : Int32, r = some (.int z170) ∧ rx_ok2 L t h2 (fun hi170 hl170 v170 => ((z170 = 0 → ((z170 = 0 → (∃ j173 : Nat, ((402 * a0) + a1) = nI j173 ∧ j173 < 2412 ∧ (∃ j174 : Nat, (((402 * a0) + a1) + 1) = nI j174 ∧ j174 < 2412 ∧ (∃ j175 : Nat, (((402 * a0) + a1) + 1) = nI j175 ∧ j175 < 2412 ∧ (∃ j176 : Nat, (((402 * a0) + a1) + 1) = nI j176 ∧ j176 < 2412 ∧ Q none (rx_hp L t (rx_u (rx_u (rx_u (rx_u hi170 104 j173 (vp_nar .boolean z170)) 101 j174 (hi1 101 j3)) 102 j175 (hi1 102 j4)) 103 j176 (hi1 103 j2)) hl170 v170)))))) ∧ (¬ (z170 = 0) → (∃ j177 : Nat, ((402 * a0) + a1) = nI j177 ∧ j177 < 2412 ∧ (∃ j178 : Nat, (((402 * a0) + a1) + 1) = nI j178 ∧ j178 < 2412 ∧ (∃ j179 : Nat, (((402 * a0) + a1) + 1) = nI j179 ∧ j179 < 2412 ∧ (∃ j180 : Nat, (((402 * a0) + a1) + 1) = nI j180 ∧ j180 < 2412 ∧ Q none (rx_hp L t (rx_u (rx_u (rx_u (rx_u hi170 104 j177 (vp_nar .boolean z170)) 101 j178 (hi1 101 j3)) 102 j179 (hi170 90 34)) 103 j180 (hi1 103 j2)) hl170 v170)))))))) ∧ (¬ (z170 = 0) → ((z170 = 0 → (∃ j182 : Nat, ((402 * a0) + a1) = nI j182 ∧ j182 < 2412 ∧ (∃ j183 : Nat, (((402 * a0) + a1) + 1) = nI j183 ∧ j183 < 2412 ∧ (∃ j184 : Nat, (((402 * a0) + a1) + 1) = nI j184 ∧ j184 < 2412 ∧ (∃ j185 : Nat, (((402 * a0) + a1) + 1) = nI j185 ∧ j185 < 2412 ∧ Q none (rx_hp L t (rx_u (rx_u (rx_u (rx_u hi170 104 j182 (vp_nar .boolean z170)) 101 j183 (hi170 90 33)) 102 j184 (hi1 102 j4)) 103 j185 (hi1 103 j2)) hl170 v170)))))) ∧ (¬ (z170 = 0) → (∃ j186 : Nat, ((402 * a0) + a1) = nI j186 ∧ j186 < 2412 ∧ (∃ j187 : Nat, (((402 * a0) + a1) + 1) = nI j187 ∧ j187 < 2412 ∧ (∃ j188 : Nat, (((402 * a0) + a1) + 1) = nI j188 ∧ j188 < 2412 ∧ (∃ j189 : Nat, (((402 * a0) + a1) + 1) = nI j189 ∧ j189 < 2412 ∧ Q none (rx_hp L t (rx_u (rx_u (rx_u (rx_u hi170 104 j186 (vp_nar .boolean z170)) 101 j187 (hi170 90 33)) 102 j188 (hi170 90 34)) 103 j189 (hi1 103 j2)) hl170 v170)))))))))))))))))))))) : rx_me 193 [.ref 90, .int a0, .int a1] (rx_hp L t hi hl v) Q := by
  show rx_aw 193 0 [.ref 90, .int a0, .int a1, rx_no, rx_no, rx_no, rx_no, rx_no, rx_no, rx_no] [] (rx_hp L t hi hl v) Q
  refine rx_aw_s 9 (pc := 0) rfl ?_
  show rx_aw 193 11 [.ref 90, .int a0, .int a1, .int ((402 * a0) + a1), rx_no, rx_no, rx_no, rx_no, rx_no, rx_no] [.int a1, .int a0, .ref 90] (rx_hp L t hi hl v) Q
  refine rx_w_callI (j := 194) (pc := 11) rfl rfl rfl rfl rfl ?_
  refine rx_aw.mono k (fun r h2 k => ?_)
  obtain ⟨z1, rfl, hi1, hl1, v1, rfl, k⟩ := k
  refine ⟨z1, rfl, ?_⟩
  show rx_aw 193 14 [.ref 90, .int a0, .int a1, .int ((402 * a0) + a1), rx_no, rx_no, rx_no, rx_no, rx_no, rx_no] [.int z1] (rx_hp L t hi1 hl1 v1) Q
  refine rx_aw_s 4 (pc := 14) rfl ?_
  show rx_aw 193 21 [.ref 90, .int a0, .int a1, .int ((402 * a0) + a1), .int z1, rx_no, rx_no, rx_no, rx_no, rx_no] [.int ((402 * a0) + a1), .ref 103] (rx_hp L t hi1 hl1 v1) Q
  obtain ⟨j2, ej2, hj2, k⟩ := k
  refine rx_aw_iald (pc := 21) (n := 2412) j2 ej2 rfl rfl rfl hj2 (by decide) ?_
  show rx_aw 193 22 [.ref 90, .int a0, .int a1, .int ((402 * a0) + a1), .int z1, rx_no, rx_no, rx_no, rx_no, rx_no] [.int (hi1 103 j2)] (rx_hp L t hi1 hl1 v1) Q
  refine rx_aw_s 4 (pc := 22) rfl ?_
  show rx_aw 193 29 [.ref 90, .int a0, .int a1, .int ((402 * a0) + a1), .int z1, .int (hi1 103 j2), rx_no, rx_no, rx_no, rx_no] [.int ((402 * a0) + a1), .ref 101] (rx_hp L t hi1 hl1 v1) Q
  obtain ⟨j3, ej3, hj3, k⟩ := k
  refine rx_aw_iald (pc := 29) (n := 2412) j3 ej3 rfl rfl rfl hj3 (by decide) ?_
  show rx_aw 193 30 [.ref 90, .int a0, .int a1, .int ((402 * a0) + a1), .int z1, .int (hi1 103 j2), rx_no, rx_no, rx_no, rx_no] [.int (hi1 101 j3)] (rx_hp L t hi1 hl1 v1) Q
  refine rx_aw_s 4 (pc := 30) rfl ?_
  show rx_aw 193 37 [.ref 90, .int a0, .int a1, .int ((402 * a0) + a1), .int z1, .int (hi1 103 j2), .int (hi1 101 j3), rx_no, rx_no, rx_no] [.int ((402 * a0) + a1), .ref 102] (rx_hp L t hi1 hl1 v1) Q
  obtain ⟨j4, ej4, hj4, k⟩ := k
  refine rx_aw_iald (pc := 37) (n := 2412) j4 ej4 rfl rfl rfl hj4 (by decide) ?_
  show rx_aw 193 38 [.ref 90, .int a0, .int a1, .int ((402 * a0) + a1), .int z1, .int (hi1 103 j2), .int (hi1 101 j3), rx_no, rx_no, rx_no] [.int (hi1 102 j4)] (rx_hp L t hi1 hl1 v1) Q
  refine rx_aw_s 6 (pc := 38) rfl ?_
  refine rx_w_ifn (c := z1 = 5) ⟨fun c5 => ?_, fun c5 => ?_⟩
  · have k := k.1 c5
    show rx_aw 193 49 [.ref 90, .int a0, .int a1, .int ((402 * a0) + a1), .int z1, .int (hi1 103 j2), .int (hi1 101 j3), .int (hi1 102 j4), .int 1, rx_no] [] (rx_hp L t hi1 hl1 v1) Q
    refine rx_aw_s 3 (pc := 49) rfl ?_
    show rx_aw 193 54 [.ref 90, .int a0, .int a1, .int ((402 * a0) + a1), .int z1, .int (hi1 103 j2), .int (hi1 101 j3), .int (hi1 102 j4), .int 1, rx_no] [.int a0, .ref 93] (rx_hp L t hi1 hl1 v1) Q
    obtain ⟨j6, ej6, hj6, k⟩ := k
    refine rx_aw_iald (pc := 54) (n := 6) j6 ej6 rfl rfl rfl hj6 (by decide) ?_
    show rx_aw 193 55 [.ref 90, .int a0, .int a1, .int ((402 * a0) + a1), .int z1, .int (hi1 103 j2), .int (hi1 101 j3), .int (hi1 102 j4), .int 1, rx_no] [.int (hi1 93 j6)] (rx_hp L t hi1 hl1 v1) Q
    refine rx_aw_s 2 (pc := 55) rfl ?_
    refine rx_w_ifn (c := (hi1 93 j6) = 1) ⟨fun c7 => ?_, fun c7 => ?_⟩
    · have k := k.1 c7
      show rx_aw 193 59 [.ref 90, .int a0, .int a1, .int ((402 * a0) + a1), .int z1, .int (hi1 103 j2), .int (hi1 101 j3), .int (hi1 102 j4), .int 1, rx_no] [] (rx_hp L t hi1 hl1 v1) Q
      refine rx_aw_s 2 (pc := 59) rfl ?_
      refine rx_w_if (c := 0 ≤ (hi1 103 j2)) ⟨fun c8 => ?_, fun c8 => ?_⟩
      · have k := k.1 c8
        show rx_aw 193 74 [.ref 90, .int a0, .int a1, .int ((402 * a0) + a1), .int z1, .int (hi1 103 j2), .int (hi1 101 j3), .int (hi1 102 j4), .int 1, rx_no] [] (rx_hp L t hi1 hl1 v1) Q
        refine rx_aw_s 4 (pc := 74) rfl ?_
        refine rx_w_if (c := (-1) < 0) ⟨fun c9 => ?_, fun c9 => ?_⟩
        · have k := k.1 c9
          show rx_aw 193 106 [.ref 90, .int a0, .int a1, .int ((402 * a0) + a1), .int z1, .int (hi1 103 j2), .int (hi1 101 j3), .int (hi1 102 j4), .int 1, .int (-1)] [] (rx_hp L t hi1 hl1 v1) Q
          refine rx_aw_s 4 (pc := 106) rfl ?_
          refine rx_w_if (c := 0 = 0) ⟨fun c10 => ?_, fun c10 => ?_⟩
          · have k := k.1 c10
            show rx_aw 193 119 [.ref 90, .int a0, .int a1, .int ((402 * a0) + a1), .int z1, .int (hi1 103 j2), .int (hi1 101 j3), .int (hi1 102 j4), .int 0, .int (-1)] [] (rx_hp L t hi1 hl1 v1) Q
            refine rx_aw_s 7 (pc := 119) rfl ?_
            show rx_aw 193 239 [.ref 90, .int a0, .int a1, .int ((402 * a0) + a1), .int z1, .int (hi1 103 j2), .int (hi1 101 j3), .int (hi1 102 j4), .int 0, .int (-1)] [.int 0, .int ((402 * a0) + a1), .ref 104] (rx_hp L t hi1 hl1 v1) Q
            obtain ⟨j11, ej11, hj11, k⟩ := k
            refine rx_aw_zast (pc := 239) (n := 2412) j11 ej11 rfl rfl (by decide) rfl hj11 (by decide) ?_
            show rx_aw 193 240 [.ref 90, .int a0, .int a1, .int ((402 * a0) + a1), .int z1, .int (hi1 103 j2), .int (hi1 101 j3), .int (hi1 102 j4), .int 0, .int (-1)] [] (rx_hp L t (rx_u hi1 104 j11 (vp_nar .boolean 0)) hl1 v1) Q
            refine rx_aw_s 6 (pc := 240) rfl ?_
            show rx_aw 193 249 [.ref 90, .int a0, .int a1, .int ((402 * a0) + a1), .int z1, .int (hi1 103 j2), .int (hi1 101 j3), .int (hi1 102 j4), .int 0, .int (-1)] [.int (hi1 101 j3), .int (((402 * a0) + a1) + 1), .ref 101] (rx_hp L t (rx_u hi1 104 j11 (vp_nar .boolean 0)) hl1 v1) Q
            obtain ⟨j12, ej12, hj12, k⟩ := k
            refine rx_aw_iast (pc := 249) (n := 2412) j12 ej12 rfl rfl (by decide) rfl hj12 (by decide) ?_
            show rx_aw 193 250 [.ref 90, .int a0, .int a1, .int ((402 * a0) + a1), .int z1, .int (hi1 103 j2), .int (hi1 101 j3), .int (hi1 102 j4), .int 0, .int (-1)] [] (rx_hp L t (rx_u (rx_u hi1 104 j11 (vp_nar .boolean 0)) 101 j12 (hi1 101 j3)) hl1 v1) Q
            refine rx_aw_s 6 (pc := 250) rfl ?_
            show rx_aw 193 259 [.ref 90, .int a0, .int a1, .int ((402 * a0) + a1), .int z1, .int (hi1 103 j2), .int (hi1 101 j3), .int (hi1 102 j4), .int 0, .int (-1)] [.int (hi1 102 j4), .int (((402 * a0) + a1) + 1), .ref 102] (rx_hp L t (rx_u (rx_u hi1 104 j11 (vp_nar .boolean 0)) 101 j12 (hi1 101 j3)) hl1 v1) Q
            obtain ⟨j13, ej13, hj13, k⟩ := k
            refine rx_aw_iast (pc := 259) (n := 2412) j13 ej13 rfl rfl (by decide) rfl hj13 (by decide) ?_
            show rx_aw 193 260 [.ref 90, .int a0, .int a1, .int ((402 * a0) + a1), .int z1, .int (hi1 103 j2), .int (hi1 101 j3), .int (hi1 102 j4), .int 0, .int (-1)] [] (rx_hp L t (rx_u (rx_u (rx_u hi1 104 j11 (vp_nar .boolean 0)) 101 j12 (hi1 101 j3)) 102 j13 (hi1 102 j4)) hl1 v1) Q
            refine rx_aw_s 6 (pc := 260) rfl ?_
            show rx_aw 193 269 [.ref 90, .int a0, .int a1, .int ((402 * a0) + a1), .int z1, .int (hi1 103 j2), .int (hi1 101 j3), .int (hi1 102 j4), .int 0, .int (-1)] [.int (hi1 103 j2), .int (((402 * a0) + a1) + 1), .ref 103] (rx_hp L t (rx_u (rx_u (rx_u hi1 104 j11 (vp_nar .boolean 0)) 101 j12 (hi1 101 j3)) 102 j13 (hi1 102 j4)) hl1 v1) Q
            obtain ⟨j14, ej14, hj14, k⟩ := k
            refine rx_aw_iast (pc := 269) (n := 2412) j14 ej14 rfl rfl (by decide) rfl hj14 (by decide) ?_
            show rx_aw 193 270 [.ref 90, .int a0, .int a1, .int ((402 * a0) + a1), .int z1, .int (hi1 103 j2), .int (hi1 101 j3), .int (hi1 102 j4), .int 0, .int (-1)] [] (rx_hp L t (rx_u (rx_u (rx_u (rx_u hi1 104 j11 (vp_nar .boolean 0)) 101 j12 (hi1 101 j3)) 102 j13 (hi1 102 j4)) 103 j14 (hi1 103 j2)) hl1 v1) Q
            exact rx_aw_ret (pc := 270) rfl k
          · have k := k.2 c10
            show rx_aw 193 114 [.ref 90, .int a0, .int a1, .int ((402 * a0) + a1), .int z1, .int (hi1 103 j2), .int (hi1 101 j3), .int (hi1 102 j4), .int 0, .int (-1)] [] (rx_hp L t hi1 hl1 v1) Q
            refine rx_aw_s 8 (pc := 114) rfl ?_
            show rx_aw 193 239 [.ref 90, .int a0, .int a1, .int ((402 * a0) + a1), .int z1, .int (-1), .int (hi1 101 j3), .int (hi1 102 j4), .int 0, .int (-1)] [.int 0, .int ((402 * a0) + a1), .ref 104] (rx_hp L t hi1 hl1 v1) Q
            obtain ⟨j15, ej15, hj15, k⟩ := k
            refine rx_aw_zast (pc := 239) (n := 2412) j15 ej15 rfl rfl (by decide) rfl hj15 (by decide) ?_
            show rx_aw 193 240 [.ref 90, .int a0, .int a1, .int ((402 * a0) + a1), .int z1, .int (-1), .int (hi1 101 j3), .int (hi1 102 j4), .int 0, .int (-1)] [] (rx_hp L t (rx_u hi1 104 j15 (vp_nar .boolean 0)) hl1 v1) Q
            refine rx_aw_s 6 (pc := 240) rfl ?_
            show rx_aw 193 249 [.ref 90, .int a0, .int a1, .int ((402 * a0) + a1), .int z1, .int (-1), .int (hi1 101 j3), .int (hi1 102 j4), .int 0, .int (-1)] [.int (hi1 101 j3), .int (((402 * a0) + a1) + 1), .ref 101] (rx_hp L t (rx_u hi1 104 j15 (vp_nar .boolean 0)) hl1 v1) Q
            obtain ⟨j16, ej16, hj16, k⟩ := k
            refine rx_aw_iast (pc := 249) (n := 2412) j16 ej16 rfl rfl (by decide) rfl hj16 (by decide) ?_
            show rx_aw 193 250 [.ref 90, .int a0, .int a1, .int ((402 * a0) + a1), .int z1, .int (-1), .int (hi1 101 j3), .int (hi1 102 j4), .int 0, .int (-1)] [] (rx_hp L t (rx_u (rx_u hi1 104 j15 (vp_nar .boolean 0)) 101 j16 (hi1 101 j3)) hl1 v1) Q
            refine rx_aw_s 6 (pc := 250) rfl ?_
            show rx_aw 193 259 [.ref 90, .int a0, .int a1, .int ((402 * a0) + a1), .int z1, .int (-1), .int (hi1 101 j3), .int (hi1 102 j4), .int 0, .int (-1)] [.int (hi1 102 j4), .int (((402 * a0) + a1) + 1), .ref 102] (rx_hp L t (rx_u (rx_u hi1 104 j15 (vp_nar .boolean 0)) 101 j16 (hi1 101 j3)) hl1 v1) Q
            obtain ⟨j17, ej17, hj17, k⟩ := k
            refine rx_aw_iast (pc := 259) (n := 2412) j17 ej17 rfl rfl (by decide) rfl hj17 (by decide) ?_
            show rx_aw 193 260 [.ref 90, .int a0, .int a1, .int ((402 * a0) + a1), .int z1, .int (-1), .int (hi1 101 j3), .int (hi1 102 j4), .int 0, .int (-1)] [] (rx_hp L t (rx_u (rx_u (rx_u hi1 104 j15 (vp_nar .boolean 0)) 101 j16 (hi1 101 j3)) 102 j17 (hi1 102 j4)) hl1 v1) Q
            refine rx_aw_s 6 (pc := 260) rfl ?_
            show rx_aw 193 269 [.ref 90, .int a0, .int a1, .int ((402 * a0) + a1), .int z1, .int (-1), .int (hi1 101 j3), .int (hi1 102 j4), .int 0, .int (-1)] [.int (-1), .int (((402 * a0) + a1) + 1), .ref 103] (rx_hp L t (rx_u (rx_u (rx_u hi1 104 j15 (vp_nar .boolean 0)) 101 j16 (hi1 101 j3)) 102 j17 (hi1 102 j4)) hl1 v1) Q
            obtain ⟨j18, ej18, hj18, k⟩ := k
            refine rx_aw_iast (pc := 269) (n := 2412) j18 ej18 rfl rfl (by decide) rfl hj18 (by decide) ?_
            show rx_aw 193 270 [.ref 90, .int a0, .int a1, .int ((402 * a0) + a1), .int z1, .int (-1), .int (hi1 101 j3), .int (hi1 102 j4), .int 0, .int (-1)] [] (rx_hp L t (rx_u (rx_u (rx_u (rx_u hi1 104 j15 (vp_nar .boolean 0)) 101 j16 (hi1 101 j3)) 102 j17 (hi1 102 j4)) 103 j18 (-1)) hl1 v1) Q
            exact rx_aw_ret (pc := 270) rfl k
        · have k := k.2 c9
          show rx_aw 193 82 [.ref 90, .int a0, .int a1, .int ((402 * a0) + a1), .int z1, .int (hi1 103 j2), .int (hi1 101 j3), .int (hi1 102 j4), .int 1, .int (-1)] [] (rx_hp L t hi1 hl1 v1) Q
          refine rx_aw_s 4 (pc := 82) rfl ?_
          refine rx_w_ifn (c := a0 = (hi1 90 35)) ⟨fun c19 => ?_, fun c19 => ?_⟩
          · have k := k.1 c19
            show rx_aw 193 90 [.ref 90, .int a0, .int a1, .int ((402 * a0) + a1), .int z1, .int (hi1 103 j2), .int (hi1 101 j3), .int (hi1 102 j4), .int 1, .int (-1)] [] (rx_hp L t hi1 hl1 v1) Q
            refine rx_aw_s 7 (pc := 90) rfl ?_
            refine rx_w_ifn (c := (((hi1 90 36) >>> ((-1) &&& 31)) &&& 1) = 0) ⟨fun c20 => ?_, fun c20 => ?_⟩
            · have k := k.1 c20
              show rx_aw 193 102 [.ref 90, .int a0, .int a1, .int ((402 * a0) + a1), .int z1, .int (hi1 103 j2), .int (hi1 101 j3), .int (hi1 102 j4), .int 1, .int (-1)] [] (rx_hp L t hi1 hl1 v1) Q
              refine rx_aw_s 5 (pc := 102) rfl ?_
              refine rx_w_if (c := 1 = 0) ⟨fun c21 => ?_, fun c21 => ?_⟩
              · have k := k.1 c21
                show rx_aw 193 119 [.ref 90, .int a0, .int a1, .int ((402 * a0) + a1), .int z1, .int (hi1 103 j2), .int (hi1 101 j3), .int (hi1 102 j4), .int 1, .int (-1)] [] (rx_hp L t hi1 hl1 v1) Q
                refine rx_aw_s 7 (pc := 119) rfl ?_
                show rx_aw 193 239 [.ref 90, .int a0, .int a1, .int ((402 * a0) + a1), .int z1, .int (hi1 103 j2), .int (hi1 101 j3), .int (hi1 102 j4), .int 1, .int (-1)] [.int 1, .int ((402 * a0) + a1), .ref 104] (rx_hp L t hi1 hl1 v1) Q
                obtain ⟨j22, ej22, hj22, k⟩ := k
                refine rx_aw_zast (pc := 239) (n := 2412) j22 ej22 rfl rfl (by decide) rfl hj22 (by decide) ?_
                show rx_aw 193 240 [.ref 90, .int a0, .int a1, .int ((402 * a0) + a1), .int z1, .int (hi1 103 j2), .int (hi1 101 j3), .int (hi1 102 j4), .int 1, .int (-1)] [] (rx_hp L t (rx_u hi1 104 j22 (vp_nar .boolean 1)) hl1 v1) Q
                refine rx_aw_s 6 (pc := 240) rfl ?_
                show rx_aw 193 249 [.ref 90, .int a0, .int a1, .int ((402 * a0) + a1), .int z1, .int (hi1 103 j2), .int (hi1 101 j3), .int (hi1 102 j4), .int 1, .int (-1)] [.int (hi1 101 j3), .int (((402 * a0) + a1) + 1), .ref 101] (rx_hp L t (rx_u hi1 104 j22 (vp_nar .boolean 1)) hl1 v1) Q
                obtain ⟨j23, ej23, hj23, k⟩ := k
                refine rx_aw_iast (pc := 249) (n := 2412) j23 ej23 rfl rfl (by decide) rfl hj23 (by decide) ?_
                show rx_aw 193 250 [.ref 90, .int a0, .int a1, .int ((402 * a0) + a1), .int z1, .int (hi1 103 j2), .int (hi1 101 j3), .int (hi1 102 j4), .int 1, .int (-1)] [] (rx_hp L t (rx_u (rx_u hi1 104 j22 (vp_nar .boolean 1)) 101 j23 (hi1 101 j3)) hl1 v1) Q
                refine rx_aw_s 6 (pc := 250) rfl ?_
                show rx_aw 193 259 [.ref 90, .int a0, .int a1, .int ((402 * a0) + a1), .int z1, .int (hi1 103 j2), .int (hi1 101 j3), .int (hi1 102 j4), .int 1, .int (-1)] [.int (hi1 102 j4), .int (((402 * a0) + a1) + 1), .ref 102] (rx_hp L t (rx_u (rx_u hi1 104 j22 (vp_nar .boolean 1)) 101 j23 (hi1 101 j3)) hl1 v1) Q
                obtain ⟨j24, ej24, hj24, k⟩ := k
                refine rx_aw_iast (pc := 259) (n := 2412) j24 ej24 rfl rfl (by decide) rfl hj24 (by decide) ?_
                show rx_aw 193 260 [.ref 90, .int a0, .int a1, .int ((402 * a0) + a1), .int z1, .int (hi1 103 j2), .int (hi1 101 j3), .int (hi1 102 j4), .int 1, .int (-1)] [] (rx_hp L t (rx_u (rx_u (rx_u hi1 104 j22 (vp_nar .boolean 1)) 101 j23 (hi1 101 j3)) 102 j24 (hi1 102 j4)) hl1 v1) Q
                refine rx_aw_s 6 (pc := 260) rfl ?_
                show rx_aw 193 269 [.ref 90, .int a0, .int a1, .int ((402 * a0) + a1), .int z1, .int (hi1 103 j2), .int (hi1 101 j3), .int (hi1 102 j4), .int 1, .int (-1)] [.int (hi1 103 j2), .int (((402 * a0) + a1) + 1), .ref 103] (rx_hp L t (rx_u (rx_u (rx_u hi1 104 j22 (vp_nar .boolean 1)) 101 j23 (hi1 101 j3)) 102 j24 (hi1 102 j4)) hl1 v1) Q
                obtain ⟨j25, ej25, hj25, k⟩ := k
                refine rx_aw_iast (pc := 269) (n := 2412) j25 ej25 rfl rfl (by decide) rfl hj25 (by decide) ?_
                show rx_aw 193 270 [.ref 90, .int a0, .int a1, .int ((402 * a0) + a1), .int z1, .int (hi1 103 j2), .int (hi1 101 j3), .int (hi1 102 j4), .int 1, .int (-1)] [] (rx_hp L t (rx_u (rx_u (rx_u (rx_u hi1 104 j22 (vp_nar .boolean 1)) 101 j23 (hi1 101 j3)) 102 j24 (hi1 102 j4)) 103 j25 (hi1 103 j2)) hl1 v1) Q
                exact rx_aw_ret (pc := 270) rfl k
              · have k := k.2 c21
                show rx_aw 193 114 [.ref 90, .int a0, .int a1, .int ((402 * a0) + a1), .int z1, .int (hi1 103 j2), .int (hi1 101 j3), .int (hi1 102 j4), .int 1, .int (-1)] [] (rx_hp L t hi1 hl1 v1) Q
                refine rx_aw_s 8 (pc := 114) rfl ?_
                show rx_aw 193 239 [.ref 90, .int a0, .int a1, .int ((402 * a0) + a1), .int z1, .int (-1), .int (hi1 101 j3), .int (hi1 102 j4), .int 1, .int (-1)] [.int 1, .int ((402 * a0) + a1), .ref 104] (rx_hp L t hi1 hl1 v1) Q
                obtain ⟨j26, ej26, hj26, k⟩ := k
                refine rx_aw_zast (pc := 239) (n := 2412) j26 ej26 rfl rfl (by decide) rfl hj26 (by decide) ?_
                show rx_aw 193 240 [.ref 90, .int a0, .int a1, .int ((402 * a0) + a1), .int z1, .int (-1), .int (hi1 101 j3), .int (hi1 102 j4), .int 1, .int (-1)] [] (rx_hp L t (rx_u hi1 104 j26 (vp_nar .boolean 1)) hl1 v1) Q
                refine rx_aw_s 6 (pc := 240) rfl ?_
                show rx_aw 193 249 [.ref 90, .int a0, .int a1, .int ((402 * a0) + a1), .int z1, .int (-1), .int (hi1 101 j3), .int (hi1 102 j4), .int 1, .int (-1)] [.int (hi1 101 j3), .int (((402 * a0) + a1) + 1), .ref 101] (rx_hp L t (rx_u hi1 104 j26 (vp_nar .boolean 1)) hl1 v1) Q
                obtain ⟨j27, ej27, hj27, k⟩ := k
                refine rx_aw_iast (pc := 249) (n := 2412) j27 ej27 rfl rfl (by decide) rfl hj27 (by decide) ?_
                show rx_aw 193 250 [.ref 90, .int a0, .int a1, .int ((402 * a0) + a1), .int z1, .int (-1), .int (hi1 101 j3), .int (hi1 102 j4), .int 1, .int (-1)] [] (rx_hp L t (rx_u (rx_u hi1 104 j26 (vp_nar .boolean 1)) 101 j27 (hi1 101 j3)) hl1 v1) Q
                refine rx_aw_s 6 (pc := 250) rfl ?_
                show rx_aw 193 259 [.ref 90, .int a0, .int a1, .int ((402 * a0) + a1), .int z1, .int (-1), .int (hi1 101 j3), .int (hi1 102 j4), .int 1, .int (-1)] [.int (hi1 102 j4), .int (((402 * a0) + a1) + 1), .ref 102] (rx_hp L t (rx_u (rx_u hi1 104 j26 (vp_nar .boolean 1)) 101 j27 (hi1 101 j3)) hl1 v1) Q
                obtain ⟨j28, ej28, hj28, k⟩ := k
                refine rx_aw_iast (pc := 259) (n := 2412) j28 ej28 rfl rfl (by decide) rfl hj28 (by decide) ?_
                show rx_aw 193 260 [.ref 90, .int a0, .int a1, .int ((402 * a0) + a1), .int z1, .int (-1), .int (hi1 101 j3), .int (hi1 102 j4), .int 1, .int (-1)] [] (rx_hp L t (rx_u (rx_u (rx_u hi1 104 j26 (vp_nar .boolean 1)) 101 j27 (hi1 101 j3)) 102 j28 (hi1 102 j4)) hl1 v1) Q
                refine rx_aw_s 6 (pc := 260) rfl ?_
                show rx_aw 193 269 [.ref 90, .int a0, .int a1, .int ((402 * a0) + a1), .int z1, .int (-1), .int (hi1 101 j3), .int (hi1 102 j4), .int 1, .int (-1)] [.int (-1), .int (((402 * a0) + a1) + 1), .ref 103] (rx_hp L t (rx_u (rx_u (rx_u hi1 104 j26 (vp_nar .boolean 1)) 101 j27 (hi1 101 j3)) 102 j28 (hi1 102 j4)) hl1 v1) Q
                obtain ⟨j29, ej29, hj29, k⟩ := k
                refine rx_aw_iast (pc := 269) (n := 2412) j29 ej29 rfl rfl (by decide) rfl hj29 (by decide) ?_
                show rx_aw 193 270 [.ref 90, .int a0, .int a1, .int ((402 * a0) + a1), .int z1, .int (-1), .int (hi1 101 j3), .int (hi1 102 j4), .int 1, .int (-1)] [] (rx_hp L t (rx_u (rx_u (rx_u (rx_u hi1 104 j26 (vp_nar .boolean 1)) 101 j27 (hi1 101 j3)) 102 j28 (hi1 102 j4)) 103 j29 (-1)) hl1 v1) Q
                exact rx_aw_ret (pc := 270) rfl k
            · have k := k.2 c20
              show rx_aw 193 106 [.ref 90, .int a0, .int a1, .int ((402 * a0) + a1), .int z1, .int (hi1 103 j2), .int (hi1 101 j3), .int (hi1 102 j4), .int 1, .int (-1)] [] (rx_hp L t hi1 hl1 v1) Q
              refine rx_aw_s 4 (pc := 106) rfl ?_
              refine rx_w_if (c := 0 = 0) ⟨fun c30 => ?_, fun c30 => ?_⟩
              · have k := k.1 c30
                show rx_aw 193 119 [.ref 90, .int a0, .int a1, .int ((402 * a0) + a1), .int z1, .int (hi1 103 j2), .int (hi1 101 j3), .int (hi1 102 j4), .int 0, .int (-1)] [] (rx_hp L t hi1 hl1 v1) Q
                refine rx_aw_s 7 (pc := 119) rfl ?_
                show rx_aw 193 239 [.ref 90, .int a0, .int a1, .int ((402 * a0) + a1), .int z1, .int (hi1 103 j2), .int (hi1 101 j3), .int (hi1 102 j4), .int 0, .int (-1)] [.int 0, .int ((402 * a0) + a1), .ref 104] (rx_hp L t hi1 hl1 v1) Q
                obtain ⟨j31, ej31, hj31, k⟩ := k
                refine rx_aw_zast (pc := 239) (n := 2412) j31 ej31 rfl rfl (by decide) rfl hj31 (by decide) ?_
                show rx_aw 193 240 [.ref 90, .int a0, .int a1, .int ((402 * a0) + a1), .int z1, .int (hi1 103 j2), .int (hi1 101 j3), .int (hi1 102 j4), .int 0, .int (-1)] [] (rx_hp L t (rx_u hi1 104 j31 (vp_nar .boolean 0)) hl1 v1) Q
                refine rx_aw_s 6 (pc := 240) rfl ?_
                show rx_aw 193 249 [.ref 90, .int a0, .int a1, .int ((402 * a0) + a1), .int z1, .int (hi1 103 j2), .int (hi1 101 j3), .int (hi1 102 j4), .int 0, .int (-1)] [.int (hi1 101 j3), .int (((402 * a0) + a1) + 1), .ref 101] (rx_hp L t (rx_u hi1 104 j31 (vp_nar .boolean 0)) hl1 v1) Q
                obtain ⟨j32, ej32, hj32, k⟩ := k
                refine rx_aw_iast (pc := 249) (n := 2412) j32 ej32 rfl rfl (by decide) rfl hj32 (by decide) ?_
                show rx_aw 193 250 [.ref 90, .int a0, .int a1, .int ((402 * a0) + a1), .int z1, .int (hi1 103 j2), .int (hi1 101 j3), .int (hi1 102 j4), .int 0, .int (-1)] [] (rx_hp L t (rx_u (rx_u hi1 104 j31 (vp_nar .boolean 0)) 101 j32 (hi1 101 j3)) hl1 v1) Q
                refine rx_aw_s 6 (pc := 250) rfl ?_
                show rx_aw 193 259 [.ref 90, .int a0, .int a1, .int ((402 * a0) + a1), .int z1, .int (hi1 103 j2), .int (hi1 101 j3), .int (hi1 102 j4), .int 0, .int (-1)] [.int (hi1 102 j4), .int (((402 * a0) + a1) + 1), .ref 102] (rx_hp L t (rx_u (rx_u hi1 104 j31 (vp_nar .boolean 0)) 101 j32 (hi1 101 j3)) hl1 v1) Q
                obtain ⟨j33, ej33, hj33, k⟩ := k
                refine rx_aw_iast (pc := 259) (n := 2412) j33 ej33 rfl rfl (by decide) rfl hj33 (by decide) ?_
                show rx_aw 193 260 [.ref 90, .int a0, .int a1, .int ((402 * a0) + a1), .int z1, .int (hi1 103 j2), .int (hi1 101 j3), .int (hi1 102 j4), .int 0, .int (-1)] [] (rx_hp L t (rx_u (rx_u (rx_u hi1 104 j31 (vp_nar .boolean 0)) 101 j32 (hi1 101 j3)) 102 j33 (hi1 102 j4)) hl1 v1) Q
                refine rx_aw_s 6 (pc := 260) rfl ?_
                show rx_aw 193 269 [.ref 90, .int a0, .int a1, .int ((402 * a0) + a1), .int z1, .int (hi1 103 j2), .int (hi1 101 j3), .int (hi1 102 j4), .int 0, .int (-1)] [.int (hi1 103 j2), .int (((402 * a0) + a1) + 1), .ref 103] (rx_hp L t (rx_u (rx_u (rx_u hi1 104 j31 (vp_nar .boolean 0)) 101 j32 (hi1 101 j3)) 102 j33 (hi1 102 j4)) hl1 v1) Q
                obtain ⟨j34, ej34, hj34, k⟩ := k
                refine rx_aw_iast (pc := 269) (n := 2412) j34 ej34 rfl rfl (by decide) rfl hj34 (by decide) ?_
                show rx_aw 193 270 [.ref 90, .int a0, .int a1, .int ((402 * a0) + a1), .int z1, .int (hi1 103 j2), .int (hi1 101 j3), .int (hi1 102 j4), .int 0, .int (-1)] [] (rx_hp L t (rx_u (rx_u (rx_u (rx_u hi1 104 j31 (vp_nar .boolean 0)) 101 j32 (hi1 101 j3)) 102 j33 (hi1 102 j4)) 103 j34 (hi1 103 j2)) hl1 v1) Q
                exact rx_aw_ret (pc := 270) rfl k
              · have k := k.2 c30
                show rx_aw 193 114 [.ref 90, .int a0, .int a1, .int ((402 * a0) + a1), .int z1, .int (hi1 103 j2), .int (hi1 101 j3), .int (hi1 102 j4), .int 0, .int (-1)] [] (rx_hp L t hi1 hl1 v1) Q
                refine rx_aw_s 8 (pc := 114) rfl ?_
                show rx_aw 193 239 [.ref 90, .int a0, .int a1, .int ((402 * a0) + a1), .int z1, .int (-1), .int (hi1 101 j3), .int (hi1 102 j4), .int 0, .int (-1)] [.int 0, .int ((402 * a0) + a1), .ref 104] (rx_hp L t hi1 hl1 v1) Q
                obtain ⟨j35, ej35, hj35, k⟩ := k
                refine rx_aw_zast (pc := 239) (n := 2412) j35 ej35 rfl rfl (by decide) rfl hj35 (by decide) ?_
                show rx_aw 193 240 [.ref 90, .int a0, .int a1, .int ((402 * a0) + a1), .int z1, .int (-1), .int (hi1 101 j3), .int (hi1 102 j4), .int 0, .int (-1)] [] (rx_hp L t (rx_u hi1 104 j35 (vp_nar .boolean 0)) hl1 v1) Q
                refine rx_aw_s 6 (pc := 240) rfl ?_
                show rx_aw 193 249 [.ref 90, .int a0, .int a1, .int ((402 * a0) + a1), .int z1, .int (-1), .int (hi1 101 j3), .int (hi1 102 j4), .int 0, .int (-1)] [.int (hi1 101 j3), .int (((402 * a0) + a1) + 1), .ref 101] (rx_hp L t (rx_u hi1 104 j35 (vp_nar .boolean 0)) hl1 v1) Q
                obtain ⟨j36, ej36, hj36, k⟩ := k
                refine rx_aw_iast (pc := 249) (n := 2412) j36 ej36 rfl rfl (by decide) rfl hj36 (by decide) ?_
                show rx_aw 193 250 [.ref 90, .int a0, .int a1, .int ((402 * a0) + a1), .int z1, .int (-1), .int (hi1 101 j3), .int (hi1 102 j4), .int 0, .int (-1)] [] (rx_hp L t (rx_u (rx_u hi1 104 j35 (vp_nar .boolean 0)) 101 j36 (hi1 101 j3)) hl1 v1) Q
                refine rx_aw_s 6 (pc := 250) rfl ?_
                show rx_aw 193 259 [.ref 90, .int a0, .int a1, .int ((402 * a0) + a1), .int z1, .int (-1), .int (hi1 101 j3), .int (hi1 102 j4), .int 0, .int (-1)] [.int (hi1 102 j4), .int (((402 * a0) + a1) + 1), .ref 102] (rx_hp L t (rx_u (rx_u hi1 104 j35 (vp_nar .boolean 0)) 101 j36 (hi1 101 j3)) hl1 v1) Q
                obtain ⟨j37, ej37, hj37, k⟩ := k
                refine rx_aw_iast (pc := 259) (n := 2412) j37 ej37 rfl rfl (by decide) rfl hj37 (by decide) ?_
                show rx_aw 193 260 [.ref 90, .int a0, .int a1, .int ((402 * a0) + a1), .int z1, .int (-1), .int (hi1 101 j3), .int (hi1 102 j4), .int 0, .int (-1)] [] (rx_hp L t (rx_u (rx_u (rx_u hi1 104 j35 (vp_nar .boolean 0)) 101 j36 (hi1 101 j3)) 102 j37 (hi1 102 j4)) hl1 v1) Q
                refine rx_aw_s 6 (pc := 260) rfl ?_
                show rx_aw 193 269 [.ref 90, .int a0, .int a1, .int ((402 * a0) + a1), .int z1, .int (-1), .int (hi1 101 j3), .int (hi1 102 j4), .int 0, .int (-1)] [.int (-1), .int (((402 * a0) + a1) + 1), .ref 103] (rx_hp L t (rx_u (rx_u (rx_u hi1 104 j35 (vp_nar .boolean 0)) 101 j36 (hi1 101 j3)) 102 j37 (hi1 102 j4)) hl1 v1) Q
                obtain ⟨j38, ej38, hj38, k⟩ := k
                refine rx_aw_iast (pc := 269) (n := 2412) j38 ej38 rfl rfl (by decide) rfl hj38 (by decide) ?_
                show rx_aw 193 270 [.ref 90, .int a0, .int a1, .int ((402 * a0) + a1), .int z1, .int (-1), .int (hi1 101 j3), .int (hi1 102 j4), .int 0, .int (-1)] [] (rx_hp L t (rx_u (rx_u (rx_u (rx_u hi1 104 j35 (vp_nar .boolean 0)) 101 j36 (hi1 101 j3)) 102 j37 (hi1 102 j4)) 103 j38 (-1)) hl1 v1) Q
                exact rx_aw_ret (pc := 270) rfl k
          · have k := k.2 c19
            show rx_aw 193 102 [.ref 90, .int a0, .int a1, .int ((402 * a0) + a1), .int z1, .int (hi1 103 j2), .int (hi1 101 j3), .int (hi1 102 j4), .int 1, .int (-1)] [] (rx_hp L t hi1 hl1 v1) Q
            refine rx_aw_s 5 (pc := 102) rfl ?_
            refine rx_w_if (c := 1 = 0) ⟨fun c39 => ?_, fun c39 => ?_⟩
            · have k := k.1 c39
              show rx_aw 193 119 [.ref 90, .int a0, .int a1, .int ((402 * a0) + a1), .int z1, .int (hi1 103 j2), .int (hi1 101 j3), .int (hi1 102 j4), .int 1, .int (-1)] [] (rx_hp L t hi1 hl1 v1) Q
              refine rx_aw_s 7 (pc := 119) rfl ?_
              show rx_aw 193 239 [.ref 90, .int a0, .int a1, .int ((402 * a0) + a1), .int z1, .int (hi1 103 j2), .int (hi1 101 j3), .int (hi1 102 j4), .int 1, .int (-1)] [.int 1, .int ((402 * a0) + a1), .ref 104] (rx_hp L t hi1 hl1 v1) Q
              obtain ⟨j40, ej40, hj40, k⟩ := k
              refine rx_aw_zast (pc := 239) (n := 2412) j40 ej40 rfl rfl (by decide) rfl hj40 (by decide) ?_
              show rx_aw 193 240 [.ref 90, .int a0, .int a1, .int ((402 * a0) + a1), .int z1, .int (hi1 103 j2), .int (hi1 101 j3), .int (hi1 102 j4), .int 1, .int (-1)] [] (rx_hp L t (rx_u hi1 104 j40 (vp_nar .boolean 1)) hl1 v1) Q
              refine rx_aw_s 6 (pc := 240) rfl ?_
              show rx_aw 193 249 [.ref 90, .int a0, .int a1, .int ((402 * a0) + a1), .int z1, .int (hi1 103 j2), .int (hi1 101 j3), .int (hi1 102 j4), .int 1, .int (-1)] [.int (hi1 101 j3), .int (((402 * a0) + a1) + 1), .ref 101] (rx_hp L t (rx_u hi1 104 j40 (vp_nar .boolean 1)) hl1 v1) Q
              obtain ⟨j41, ej41, hj41, k⟩ := k
              refine rx_aw_iast (pc := 249) (n := 2412) j41 ej41 rfl rfl (by decide) rfl hj41 (by decide) ?_
              show rx_aw 193 250 [.ref 90, .int a0, .int a1, .int ((402 * a0) + a1), .int z1, .int (hi1 103 j2), .int (hi1 101 j3), .int (hi1 102 j4), .int 1, .int (-1)] [] (rx_hp L t (rx_u (rx_u hi1 104 j40 (vp_nar .boolean 1)) 101 j41 (hi1 101 j3)) hl1 v1) Q
              refine rx_aw_s 6 (pc := 250) rfl ?_
              show rx_aw 193 259 [.ref 90, .int a0, .int a1, .int ((402 * a0) + a1), .int z1, .int (hi1 103 j2), .int (hi1 101 j3), .int (hi1 102 j4), .int 1, .int (-1)] [.int (hi1 102 j4), .int (((402 * a0) + a1) + 1), .ref 102] (rx_hp L t (rx_u (rx_u hi1 104 j40 (vp_nar .boolean 1)) 101 j41 (hi1 101 j3)) hl1 v1) Q
              obtain ⟨j42, ej42, hj42, k⟩ := k
              refine rx_aw_iast (pc := 259) (n := 2412) j42 ej42 rfl rfl (by decide) rfl hj42 (by decide) ?_
              show rx_aw 193 260 [.ref 90, .int a0, .int a1, .int ((402 * a0) + a1), .int z1, .int (hi1 103 j2), .int (hi1 101 j3), .int (hi1 102 j4), .int 1, .int (-1)] [] (rx_hp L t (rx_u (rx_u (rx_u hi1 104 j40 (vp_nar .boolean 1)) 101 j41 (hi1 101 j3)) 102 j42 (hi1 102 j4)) hl1 v1) Q
              refine rx_aw_s 6 (pc := 260) rfl ?_
              show rx_aw 193 269 [.ref 90, .int a0, .int a1, .int ((402 * a0) + a1), .int z1, .int (hi1 103 j2), .int (hi1 101 j3), .int (hi1 102 j4), .int 1, .int (-1)] [.int (hi1 103 j2), .int (((402 * a0) + a1) + 1), .ref 103] (rx_hp L t (rx_u (rx_u (rx_u hi1 104 j40 (vp_nar .boolean 1)) 101 j41 (hi1 101 j3)) 102 j42 (hi1 102 j4)) hl1 v1) Q
              obtain ⟨j43, ej43, hj43, k⟩ := k
              refine rx_aw_iast (pc := 269) (n := 2412) j43 ej43 rfl rfl (by decide) rfl hj43 (by decide) ?_
              show rx_aw 193 270 [.ref 90, .int a0, .int a1, .int ((402 * a0) + a1), .int z1, .int (hi1 103 j2), .int (hi1 101 j3), .int (hi1 102 j4), .int 1, .int (-1)] [] (rx_hp L t (rx_u (rx_u (rx_u (rx_u hi1 104 j40 (vp_nar .boolean 1)) 101 j41 (hi1 101 j3)) 102 j42 (hi1 102 j4)) 103 j43 (hi1 103 j2)) hl1 v1) Q
              exact rx_aw_ret (pc := 270) rfl k
            · have k := k.2 c39
              show rx_aw 193 114 [.ref 90, .int a0, .int a1, .int ((402 * a0) + a1), .int z1, .int (hi1 103 j2), .int (hi1 101 j3), .int (hi1 102 j4), .int 1, .int (-1)] [] (rx_hp L t hi1 hl1 v1) Q
              refine rx_aw_s 8 (pc := 114) rfl ?_
              show rx_aw 193 239 [.ref 90, .int a0, .int a1, .int ((402 * a0) + a1), .int z1, .int (-1), .int (hi1 101 j3), .int (hi1 102 j4), .int 1, .int (-1)] [.int 1, .int ((402 * a0) + a1), .ref 104] (rx_hp L t hi1 hl1 v1) Q
              obtain ⟨j44, ej44, hj44, k⟩ := k
              refine rx_aw_zast (pc := 239) (n := 2412) j44 ej44 rfl rfl (by decide) rfl hj44 (by decide) ?_
              show rx_aw 193 240 [.ref 90, .int a0, .int a1, .int ((402 * a0) + a1), .int z1, .int (-1), .int (hi1 101 j3), .int (hi1 102 j4), .int 1, .int (-1)] [] (rx_hp L t (rx_u hi1 104 j44 (vp_nar .boolean 1)) hl1 v1) Q
              refine rx_aw_s 6 (pc := 240) rfl ?_
              show rx_aw 193 249 [.ref 90, .int a0, .int a1, .int ((402 * a0) + a1), .int z1, .int (-1), .int (hi1 101 j3), .int (hi1 102 j4), .int 1, .int (-1)] [.int (hi1 101 j3), .int (((402 * a0) + a1) + 1), .ref 101] (rx_hp L t (rx_u hi1 104 j44 (vp_nar .boolean 1)) hl1 v1) Q
              obtain ⟨j45, ej45, hj45, k⟩ := k
              refine rx_aw_iast (pc := 249) (n := 2412) j45 ej45 rfl rfl (by decide) rfl hj45 (by decide) ?_
              show rx_aw 193 250 [.ref 90, .int a0, .int a1, .int ((402 * a0) + a1), .int z1, .int (-1), .int (hi1 101 j3), .int (hi1 102 j4), .int 1, .int (-1)] [] (rx_hp L t (rx_u (rx_u hi1 104 j44 (vp_nar .boolean 1)) 101 j45 (hi1 101 j3)) hl1 v1) Q
              refine rx_aw_s 6 (pc := 250) rfl ?_
              show rx_aw 193 259 [.ref 90, .int a0, .int a1, .int ((402 * a0) + a1), .int z1, .int (-1), .int (hi1 101 j3), .int (hi1 102 j4), .int 1, .int (-1)] [.int (hi1 102 j4), .int (((402 * a0) + a1) + 1), .ref 102] (rx_hp L t (rx_u (rx_u hi1 104 j44 (vp_nar .boolean 1)) 101 j45 (hi1 101 j3)) hl1 v1) Q
              obtain ⟨j46, ej46, hj46, k⟩ := k
              refine rx_aw_iast (pc := 259) (n := 2412) j46 ej46 rfl rfl (by decide) rfl hj46 (by decide) ?_
              show rx_aw 193 260 [.ref 90, .int a0, .int a1, .int ((402 * a0) + a1), .int z1, .int (-1), .int (hi1 101 j3), .int (hi1 102 j4), .int 1, .int (-1)] [] (rx_hp L t (rx_u (rx_u (rx_u hi1 104 j44 (vp_nar .boolean 1)) 101 j45 (hi1 101 j3)) 102 j46 (hi1 102 j4)) hl1 v1) Q
              refine rx_aw_s 6 (pc := 260) rfl ?_
              show rx_aw 193 269 [.ref 90, .int a0, .int a1, .int ((402 * a0) + a1), .int z1, .int (-1), .int (hi1 101 j3), .int (hi1 102 j4), .int 1, .int (-1)] [.int (-1), .int (((402 * a0) + a1) + 1), .ref 103] (rx_hp L t (rx_u (rx_u (rx_u hi1 104 j44 (vp_nar .boolean 1)) 101 j45 (hi1 101 j3)) 102 j46 (hi1 102 j4)) hl1 v1) Q
              obtain ⟨j47, ej47, hj47, k⟩ := k
              refine rx_aw_iast (pc := 269) (n := 2412) j47 ej47 rfl rfl (by decide) rfl hj47 (by decide) ?_
              show rx_aw 193 270 [.ref 90, .int a0, .int a1, .int ((402 * a0) + a1), .int z1, .int (-1), .int (hi1 101 j3), .int (hi1 102 j4), .int 1, .int (-1)] [] (rx_hp L t (rx_u (rx_u (rx_u (rx_u hi1 104 j44 (vp_nar .boolean 1)) 101 j45 (hi1 101 j3)) 102 j46 (hi1 102 j4)) 103 j47 (-1)) hl1 v1) Q
              exact rx_aw_ret (pc := 270) rfl k
      · have k := k.2 c8
        show rx_aw 193 64 [.ref 90, .int a0, .int a1, .int ((402 * a0) + a1), .int z1, .int (hi1 103 j2), .int (hi1 101 j3), .int (hi1 102 j4), .int 1, rx_no] [] (rx_hp L t hi1 hl1 v1) Q
        refine rx_aw_s 3 (pc := 64) rfl ?_
        show rx_aw 193 68 [.ref 90, .int a0, .int a1, .int ((402 * a0) + a1), .int z1, .int (hi1 103 j2), .int (hi1 101 j3), .int (hi1 102 j4), .int 1, rx_no] [.int a1, .int (hi1 101 j3), .ref 90] (rx_hp L t hi1 hl1 v1) Q
        refine rx_w_callI (j := 195) (pc := 68) rfl rfl rfl rfl rfl ?_
        refine rx_aw.mono k (fun r h2 k => ?_)
        obtain ⟨z48, rfl, hi48, hl48, v48, rfl, k⟩ := k
        refine ⟨z48, rfl, ?_⟩
        show rx_aw 193 71 [.ref 90, .int a0, .int a1, .int ((402 * a0) + a1), .int z1, .int (hi1 103 j2), .int (hi1 101 j3), .int (hi1 102 j4), .int 1, rx_no] [.int z48] (rx_hp L t hi48 hl48 v48) Q
        refine rx_aw_s 4 (pc := 71) rfl ?_
        refine rx_w_if (c := z48 < 0) ⟨fun c49 => ?_, fun c49 => ?_⟩
        · have k := k.1 c49
          show rx_aw 193 106 [.ref 90, .int a0, .int a1, .int ((402 * a0) + a1), .int z1, .int (hi1 103 j2), .int (hi1 101 j3), .int (hi1 102 j4), .int 1, .int z48] [] (rx_hp L t hi48 hl48 v48) Q
          refine rx_aw_s 4 (pc := 106) rfl ?_
          refine rx_w_if (c := 0 = 0) ⟨fun c50 => ?_, fun c50 => ?_⟩
          · have k := k.1 c50
            show rx_aw 193 119 [.ref 90, .int a0, .int a1, .int ((402 * a0) + a1), .int z1, .int (hi1 103 j2), .int (hi1 101 j3), .int (hi1 102 j4), .int 0, .int z48] [] (rx_hp L t hi48 hl48 v48) Q
            refine rx_aw_s 7 (pc := 119) rfl ?_
            show rx_aw 193 239 [.ref 90, .int a0, .int a1, .int ((402 * a0) + a1), .int z1, .int (hi1 103 j2), .int (hi1 101 j3), .int (hi1 102 j4), .int 0, .int z48] [.int 0, .int ((402 * a0) + a1), .ref 104] (rx_hp L t hi48 hl48 v48) Q
            obtain ⟨j51, ej51, hj51, k⟩ := k
            refine rx_aw_zast (pc := 239) (n := 2412) j51 ej51 rfl rfl (by decide) rfl hj51 (by decide) ?_
            show rx_aw 193 240 [.ref 90, .int a0, .int a1, .int ((402 * a0) + a1), .int z1, .int (hi1 103 j2), .int (hi1 101 j3), .int (hi1 102 j4), .int 0, .int z48] [] (rx_hp L t (rx_u hi48 104 j51 (vp_nar .boolean 0)) hl48 v48) Q
            refine rx_aw_s 6 (pc := 240) rfl ?_
            show rx_aw 193 249 [.ref 90, .int a0, .int a1, .int ((402 * a0) + a1), .int z1, .int (hi1 103 j2), .int (hi1 101 j3), .int (hi1 102 j4), .int 0, .int z48] [.int (hi1 101 j3), .int (((402 * a0) + a1) + 1), .ref 101] (rx_hp L t (rx_u hi48 104 j51 (vp_nar .boolean 0)) hl48 v48) Q
            obtain ⟨j52, ej52, hj52, k⟩ := k
            refine rx_aw_iast (pc := 249) (n := 2412) j52 ej52 rfl rfl (by decide) rfl hj52 (by decide) ?_
            show rx_aw 193 250 [.ref 90, .int a0, .int a1, .int ((402 * a0) + a1), .int z1, .int (hi1 103 j2), .int (hi1 101 j3), .int (hi1 102 j4), .int 0, .int z48] [] (rx_hp L t (rx_u (rx_u hi48 104 j51 (vp_nar .boolean 0)) 101 j52 (hi1 101 j3)) hl48 v48) Q
            refine rx_aw_s 6 (pc := 250) rfl ?_
            show rx_aw 193 259 [.ref 90, .int a0, .int a1, .int ((402 * a0) + a1), .int z1, .int (hi1 103 j2), .int (hi1 101 j3), .int (hi1 102 j4), .int 0, .int z48] [.int (hi1 102 j4), .int (((402 * a0) + a1) + 1), .ref 102] (rx_hp L t (rx_u (rx_u hi48 104 j51 (vp_nar .boolean 0)) 101 j52 (hi1 101 j3)) hl48 v48) Q
            obtain ⟨j53, ej53, hj53, k⟩ := k
            refine rx_aw_iast (pc := 259) (n := 2412) j53 ej53 rfl rfl (by decide) rfl hj53 (by decide) ?_
            show rx_aw 193 260 [.ref 90, .int a0, .int a1, .int ((402 * a0) + a1), .int z1, .int (hi1 103 j2), .int (hi1 101 j3), .int (hi1 102 j4), .int 0, .int z48] [] (rx_hp L t (rx_u (rx_u (rx_u hi48 104 j51 (vp_nar .boolean 0)) 101 j52 (hi1 101 j3)) 102 j53 (hi1 102 j4)) hl48 v48) Q
            refine rx_aw_s 6 (pc := 260) rfl ?_
            show rx_aw 193 269 [.ref 90, .int a0, .int a1, .int ((402 * a0) + a1), .int z1, .int (hi1 103 j2), .int (hi1 101 j3), .int (hi1 102 j4), .int 0, .int z48] [.int (hi1 103 j2), .int (((402 * a0) + a1) + 1), .ref 103] (rx_hp L t (rx_u (rx_u (rx_u hi48 104 j51 (vp_nar .boolean 0)) 101 j52 (hi1 101 j3)) 102 j53 (hi1 102 j4)) hl48 v48) Q
            obtain ⟨j54, ej54, hj54, k⟩ := k
            refine rx_aw_iast (pc := 269) (n := 2412) j54 ej54 rfl rfl (by decide) rfl hj54 (by decide) ?_
            show rx_aw 193 270 [.ref 90, .int a0, .int a1, .int ((402 * a0) + a1), .int z1, .int (hi1 103 j2), .int (hi1 101 j3), .int (hi1 102 j4), .int 0, .int z48] [] (rx_hp L t (rx_u (rx_u (rx_u (rx_u hi48 104 j51 (vp_nar .boolean 0)) 101 j52 (hi1 101 j3)) 102 j53 (hi1 102 j4)) 103 j54 (hi1 103 j2)) hl48 v48) Q
            exact rx_aw_ret (pc := 270) rfl k
          · have k := k.2 c50
            show rx_aw 193 114 [.ref 90, .int a0, .int a1, .int ((402 * a0) + a1), .int z1, .int (hi1 103 j2), .int (hi1 101 j3), .int (hi1 102 j4), .int 0, .int z48] [] (rx_hp L t hi48 hl48 v48) Q
            refine rx_aw_s 8 (pc := 114) rfl ?_
            show rx_aw 193 239 [.ref 90, .int a0, .int a1, .int ((402 * a0) + a1), .int z1, .int z48, .int (hi1 101 j3), .int (hi1 102 j4), .int 0, .int z48] [.int 0, .int ((402 * a0) + a1), .ref 104] (rx_hp L t hi48 hl48 v48) Q
            obtain ⟨j55, ej55, hj55, k⟩ := k
            refine rx_aw_zast (pc := 239) (n := 2412) j55 ej55 rfl rfl (by decide) rfl hj55 (by decide) ?_
            show rx_aw 193 240 [.ref 90, .int a0, .int a1, .int ((402 * a0) + a1), .int z1, .int z48, .int (hi1 101 j3), .int (hi1 102 j4), .int 0, .int z48] [] (rx_hp L t (rx_u hi48 104 j55 (vp_nar .boolean 0)) hl48 v48) Q
            refine rx_aw_s 6 (pc := 240) rfl ?_
            show rx_aw 193 249 [.ref 90, .int a0, .int a1, .int ((402 * a0) + a1), .int z1, .int z48, .int (hi1 101 j3), .int (hi1 102 j4), .int 0, .int z48] [.int (hi1 101 j3), .int (((402 * a0) + a1) + 1), .ref 101] (rx_hp L t (rx_u hi48 104 j55 (vp_nar .boolean 0)) hl48 v48) Q
            obtain ⟨j56, ej56, hj56, k⟩ := k
            refine rx_aw_iast (pc := 249) (n := 2412) j56 ej56 rfl rfl (by decide) rfl hj56 (by decide) ?_
            show rx_aw 193 250 [.ref 90, .int a0, .int a1, .int ((402 * a0) + a1), .int z1, .int z48, .int (hi1 101 j3), .int (hi1 102 j4), .int 0, .int z48] [] (rx_hp L t (rx_u (rx_u hi48 104 j55 (vp_nar .boolean 0)) 101 j56 (hi1 101 j3)) hl48 v48) Q
            refine rx_aw_s 6 (pc := 250) rfl ?_
            show rx_aw 193 259 [.ref 90, .int a0, .int a1, .int ((402 * a0) + a1), .int z1, .int z48, .int (hi1 101 j3), .int (hi1 102 j4), .int 0, .int z48] [.int (hi1 102 j4), .int (((402 * a0) + a1) + 1), .ref 102] (rx_hp L t (rx_u (rx_u hi48 104 j55 (vp_nar .boolean 0)) 101 j56 (hi1 101 j3)) hl48 v48) Q
            obtain ⟨j57, ej57, hj57, k⟩ := k
            refine rx_aw_iast (pc := 259) (n := 2412) j57 ej57 rfl rfl (by decide) rfl hj57 (by decide) ?_
            show rx_aw 193 260 [.ref 90, .int a0, .int a1, .int ((402 * a0) + a1), .int z1, .int z48, .int (hi1 101 j3), .int (hi1 102 j4), .int 0, .int z48] [] (rx_hp L t (rx_u (rx_u (rx_u hi48 104 j55 (vp_nar .boolean 0)) 101 j56 (hi1 101 j3)) 102 j57 (hi1 102 j4)) hl48 v48) Q
            refine rx_aw_s 6 (pc := 260) rfl ?_
            show rx_aw 193 269 [.ref 90, .int a0, .int a1, .int ((402 * a0) + a1), .int z1, .int z48, .int (hi1 101 j3), .int (hi1 102 j4), .int 0, .int z48] [.int z48, .int (((402 * a0) + a1) + 1), .ref 103] (rx_hp L t (rx_u (rx_u (rx_u hi48 104 j55 (vp_nar .boolean 0)) 101 j56 (hi1 101 j3)) 102 j57 (hi1 102 j4)) hl48 v48) Q
            obtain ⟨j58, ej58, hj58, k⟩ := k
            refine rx_aw_iast (pc := 269) (n := 2412) j58 ej58 rfl rfl (by decide) rfl hj58 (by decide) ?_
            show rx_aw 193 270 [.ref 90, .int a0, .int a1, .int ((402 * a0) + a1), .int z1, .int z48, .int (hi1 101 j3), .int (hi1 102 j4), .int 0, .int z48] [] (rx_hp L t (rx_u (rx_u (rx_u (rx_u hi48 104 j55 (vp_nar .boolean 0)) 101 j56 (hi1 101 j3)) 102 j57 (hi1 102 j4)) 103 j58 z48) hl48 v48) Q
            exact rx_aw_ret (pc := 270) rfl k
        · have k := k.2 c49
          show rx_aw 193 82 [.ref 90, .int a0, .int a1, .int ((402 * a0) + a1), .int z1, .int (hi1 103 j2), .int (hi1 101 j3), .int (hi1 102 j4), .int 1, .int z48] [] (rx_hp L t hi48 hl48 v48) Q
          refine rx_aw_s 4 (pc := 82) rfl ?_
          refine rx_w_ifn (c := a0 = (hi48 90 35)) ⟨fun c59 => ?_, fun c59 => ?_⟩
          · have k := k.1 c59
            show rx_aw 193 90 [.ref 90, .int a0, .int a1, .int ((402 * a0) + a1), .int z1, .int (hi1 103 j2), .int (hi1 101 j3), .int (hi1 102 j4), .int 1, .int z48] [] (rx_hp L t hi48 hl48 v48) Q
            refine rx_aw_s 7 (pc := 90) rfl ?_
            refine rx_w_ifn (c := (((hi48 90 36) >>> (z48 &&& 31)) &&& 1) = 0) ⟨fun c60 => ?_, fun c60 => ?_⟩
            · have k := k.1 c60
              show rx_aw 193 102 [.ref 90, .int a0, .int a1, .int ((402 * a0) + a1), .int z1, .int (hi1 103 j2), .int (hi1 101 j3), .int (hi1 102 j4), .int 1, .int z48] [] (rx_hp L t hi48 hl48 v48) Q
              refine rx_aw_s 5 (pc := 102) rfl ?_
              refine rx_w_if (c := 1 = 0) ⟨fun c61 => ?_, fun c61 => ?_⟩
              · have k := k.1 c61
                show rx_aw 193 119 [.ref 90, .int a0, .int a1, .int ((402 * a0) + a1), .int z1, .int (hi1 103 j2), .int (hi1 101 j3), .int (hi1 102 j4), .int 1, .int z48] [] (rx_hp L t hi48 hl48 v48) Q
                refine rx_aw_s 7 (pc := 119) rfl ?_
                show rx_aw 193 239 [.ref 90, .int a0, .int a1, .int ((402 * a0) + a1), .int z1, .int (hi1 103 j2), .int (hi1 101 j3), .int (hi1 102 j4), .int 1, .int z48] [.int 1, .int ((402 * a0) + a1), .ref 104] (rx_hp L t hi48 hl48 v48) Q
                obtain ⟨j62, ej62, hj62, k⟩ := k
                refine rx_aw_zast (pc := 239) (n := 2412) j62 ej62 rfl rfl (by decide) rfl hj62 (by decide) ?_
                show rx_aw 193 240 [.ref 90, .int a0, .int a1, .int ((402 * a0) + a1), .int z1, .int (hi1 103 j2), .int (hi1 101 j3), .int (hi1 102 j4), .int 1, .int z48] [] (rx_hp L t (rx_u hi48 104 j62 (vp_nar .boolean 1)) hl48 v48) Q
                refine rx_aw_s 6 (pc := 240) rfl ?_
                show rx_aw 193 249 [.ref 90, .int a0, .int a1, .int ((402 * a0) + a1), .int z1, .int (hi1 103 j2), .int (hi1 101 j3), .int (hi1 102 j4), .int 1, .int z48] [.int (hi1 101 j3), .int (((402 * a0) + a1) + 1), .ref 101] (rx_hp L t (rx_u hi48 104 j62 (vp_nar .boolean 1)) hl48 v48) Q
                obtain ⟨j63, ej63, hj63, k⟩ := k
                refine rx_aw_iast (pc := 249) (n := 2412) j63 ej63 rfl rfl (by decide) rfl hj63 (by decide) ?_
                show rx_aw 193 250 [.ref 90, .int a0, .int a1, .int ((402 * a0) + a1), .int z1, .int (hi1 103 j2), .int (hi1 101 j3), .int (hi1 102 j4), .int 1, .int z48] [] (rx_hp L t (rx_u (rx_u hi48 104 j62 (vp_nar .boolean 1)) 101 j63 (hi1 101 j3)) hl48 v48) Q
                refine rx_aw_s 6 (pc := 250) rfl ?_
                show rx_aw 193 259 [.ref 90, .int a0, .int a1, .int ((402 * a0) + a1), .int z1, .int (hi1 103 j2), .int (hi1 101 j3), .int (hi1 102 j4), .int 1, .int z48] [.int (hi1 102 j4), .int (((402 * a0) + a1) + 1), .ref 102] (rx_hp L t (rx_u (rx_u hi48 104 j62 (vp_nar .boolean 1)) 101 j63 (hi1 101 j3)) hl48 v48) Q
                obtain ⟨j64, ej64, hj64, k⟩ := k
                refine rx_aw_iast (pc := 259) (n := 2412) j64 ej64 rfl rfl (by decide) rfl hj64 (by decide) ?_
                show rx_aw 193 260 [.ref 90, .int a0, .int a1, .int ((402 * a0) + a1), .int z1, .int (hi1 103 j2), .int (hi1 101 j3), .int (hi1 102 j4), .int 1, .int z48] [] (rx_hp L t (rx_u (rx_u (rx_u hi48 104 j62 (vp_nar .boolean 1)) 101 j63 (hi1 101 j3)) 102 j64 (hi1 102 j4)) hl48 v48) Q
                refine rx_aw_s 6 (pc := 260) rfl ?_
                show rx_aw 193 269 [.ref 90, .int a0, .int a1, .int ((402 * a0) + a1), .int z1, .int (hi1 103 j2), .int (hi1 101 j3), .int (hi1 102 j4), .int 1, .int z48] [.int (hi1 103 j2), .int (((402 * a0) + a1) + 1), .ref 103] (rx_hp L t (rx_u (rx_u (rx_u hi48 104 j62 (vp_nar .boolean 1)) 101 j63 (hi1 101 j3)) 102 j64 (hi1 102 j4)) hl48 v48) Q
                obtain ⟨j65, ej65, hj65, k⟩ := k
                refine rx_aw_iast (pc := 269) (n := 2412) j65 ej65 rfl rfl (by decide) rfl hj65 (by decide) ?_
                show rx_aw 193 270 [.ref 90, .int a0, .int a1, .int ((402 * a0) + a1), .int z1, .int (hi1 103 j2), .int (hi1 101 j3), .int (hi1 102 j4), .int 1, .int z48] [] (rx_hp L t (rx_u (rx_u (rx_u (rx_u hi48 104 j62 (vp_nar .boolean 1)) 101 j63 (hi1 101 j3)) 102 j64 (hi1 102 j4)) 103 j65 (hi1 103 j2)) hl48 v48) Q
                exact rx_aw_ret (pc := 270) rfl k
              · have k := k.2 c61
                show rx_aw 193 114 [.ref 90, .int a0, .int a1, .int ((402 * a0) + a1), .int z1, .int (hi1 103 j2), .int (hi1 101 j3), .int (hi1 102 j4), .int 1, .int z48] [] (rx_hp L t hi48 hl48 v48) Q
                refine rx_aw_s 8 (pc := 114) rfl ?_
                show rx_aw 193 239 [.ref 90, .int a0, .int a1, .int ((402 * a0) + a1), .int z1, .int z48, .int (hi1 101 j3), .int (hi1 102 j4), .int 1, .int z48] [.int 1, .int ((402 * a0) + a1), .ref 104] (rx_hp L t hi48 hl48 v48) Q
                obtain ⟨j66, ej66, hj66, k⟩ := k
                refine rx_aw_zast (pc := 239) (n := 2412) j66 ej66 rfl rfl (by decide) rfl hj66 (by decide) ?_
                show rx_aw 193 240 [.ref 90, .int a0, .int a1, .int ((402 * a0) + a1), .int z1, .int z48, .int (hi1 101 j3), .int (hi1 102 j4), .int 1, .int z48] [] (rx_hp L t (rx_u hi48 104 j66 (vp_nar .boolean 1)) hl48 v48) Q
                refine rx_aw_s 6 (pc := 240) rfl ?_
                show rx_aw 193 249 [.ref 90, .int a0, .int a1, .int ((402 * a0) + a1), .int z1, .int z48, .int (hi1 101 j3), .int (hi1 102 j4), .int 1, .int z48] [.int (hi1 101 j3), .int (((402 * a0) + a1) + 1), .ref 101] (rx_hp L t (rx_u hi48 104 j66 (vp_nar .boolean 1)) hl48 v48) Q
                obtain ⟨j67, ej67, hj67, k⟩ := k
                refine rx_aw_iast (pc := 249) (n := 2412) j67 ej67 rfl rfl (by decide) rfl hj67 (by decide) ?_
                show rx_aw 193 250 [.ref 90, .int a0, .int a1, .int ((402 * a0) + a1), .int z1, .int z48, .int (hi1 101 j3), .int (hi1 102 j4), .int 1, .int z48] [] (rx_hp L t (rx_u (rx_u hi48 104 j66 (vp_nar .boolean 1)) 101 j67 (hi1 101 j3)) hl48 v48) Q
                refine rx_aw_s 6 (pc := 250) rfl ?_
                show rx_aw 193 259 [.ref 90, .int a0, .int a1, .int ((402 * a0) + a1), .int z1, .int z48, .int (hi1 101 j3), .int (hi1 102 j4), .int 1, .int z48] [.int (hi1 102 j4), .int (((402 * a0) + a1) + 1), .ref 102] (rx_hp L t (rx_u (rx_u hi48 104 j66 (vp_nar .boolean 1)) 101 j67 (hi1 101 j3)) hl48 v48) Q
                obtain ⟨j68, ej68, hj68, k⟩ := k
                refine rx_aw_iast (pc := 259) (n := 2412) j68 ej68 rfl rfl (by decide) rfl hj68 (by decide) ?_
                show rx_aw 193 260 [.ref 90, .int a0, .int a1, .int ((402 * a0) + a1), .int z1, .int z48, .int (hi1 101 j3), .int (hi1 102 j4), .int 1, .int z48] [] (rx_hp L t (rx_u (rx_u (rx_u hi48 104 j66 (vp_nar .boolean 1)) 101 j67 (hi1 101 j3)) 102 j68 (hi1 102 j4)) hl48 v48) Q
                refine rx_aw_s 6 (pc := 260) rfl ?_
                show rx_aw 193 269 [.ref 90, .int a0, .int a1, .int ((402 * a0) + a1), .int z1, .int z48, .int (hi1 101 j3), .int (hi1 102 j4), .int 1, .int z48] [.int z48, .int (((402 * a0) + a1) + 1), .ref 103] (rx_hp L t (rx_u (rx_u (rx_u hi48 104 j66 (vp_nar .boolean 1)) 101 j67 (hi1 101 j3)) 102 j68 (hi1 102 j4)) hl48 v48) Q
                obtain ⟨j69, ej69, hj69, k⟩ := k
                refine rx_aw_iast (pc := 269) (n := 2412) j69 ej69 rfl rfl (by decide) rfl hj69 (by decide) ?_
                show rx_aw 193 270 [.ref 90, .int a0, .int a1, .int ((402 * a0) + a1), .int z1, .int z48, .int (hi1 101 j3), .int (hi1 102 j4), .int 1, .int z48] [] (rx_hp L t (rx_u (rx_u (rx_u (rx_u hi48 104 j66 (vp_nar .boolean 1)) 101 j67 (hi1 101 j3)) 102 j68 (hi1 102 j4)) 103 j69 z48) hl48 v48) Q
                exact rx_aw_ret (pc := 270) rfl k
            · have k := k.2 c60
              show rx_aw 193 106 [.ref 90, .int a0, .int a1, .int ((402 * a0) + a1), .int z1, .int (hi1 103 j2), .int (hi1 101 j3), .int (hi1 102 j4), .int 1, .int z48] [] (rx_hp L t hi48 hl48 v48) Q
              refine rx_aw_s 4 (pc := 106) rfl ?_
              refine rx_w_if (c := 0 = 0) ⟨fun c70 => ?_, fun c70 => ?_⟩
              · have k := k.1 c70
                show rx_aw 193 119 [.ref 90, .int a0, .int a1, .int ((402 * a0) + a1), .int z1, .int (hi1 103 j2), .int (hi1 101 j3), .int (hi1 102 j4), .int 0, .int z48] [] (rx_hp L t hi48 hl48 v48) Q
                refine rx_aw_s 7 (pc := 119) rfl ?_
                show rx_aw 193 239 [.ref 90, .int a0, .int a1, .int ((402 * a0) + a1), .int z1, .int (hi1 103 j2), .int (hi1 101 j3), .int (hi1 102 j4), .int 0, .int z48] [.int 0, .int ((402 * a0) + a1), .ref 104] (rx_hp L t hi48 hl48 v48) Q
                obtain ⟨j71, ej71, hj71, k⟩ := k
                refine rx_aw_zast (pc := 239) (n := 2412) j71 ej71 rfl rfl (by decide) rfl hj71 (by decide) ?_
                show rx_aw 193 240 [.ref 90, .int a0, .int a1, .int ((402 * a0) + a1), .int z1, .int (hi1 103 j2), .int (hi1 101 j3), .int (hi1 102 j4), .int 0, .int z48] [] (rx_hp L t (rx_u hi48 104 j71 (vp_nar .boolean 0)) hl48 v48) Q
                refine rx_aw_s 6 (pc := 240) rfl ?_
                show rx_aw 193 249 [.ref 90, .int a0, .int a1, .int ((402 * a0) + a1), .int z1, .int (hi1 103 j2), .int (hi1 101 j3), .int (hi1 102 j4), .int 0, .int z48] [.int (hi1 101 j3), .int (((402 * a0) + a1) + 1), .ref 101] (rx_hp L t (rx_u hi48 104 j71 (vp_nar .boolean 0)) hl48 v48) Q
                obtain ⟨j72, ej72, hj72, k⟩ := k
                refine rx_aw_iast (pc := 249) (n := 2412) j72 ej72 rfl rfl (by decide) rfl hj72 (by decide) ?_
                show rx_aw 193 250 [.ref 90, .int a0, .int a1, .int ((402 * a0) + a1), .int z1, .int (hi1 103 j2), .int (hi1 101 j3), .int (hi1 102 j4), .int 0, .int z48] [] (rx_hp L t (rx_u (rx_u hi48 104 j71 (vp_nar .boolean 0)) 101 j72 (hi1 101 j3)) hl48 v48) Q
                refine rx_aw_s 6 (pc := 250) rfl ?_
                show rx_aw 193 259 [.ref 90, .int a0, .int a1, .int ((402 * a0) + a1), .int z1, .int (hi1 103 j2), .int (hi1 101 j3), .int (hi1 102 j4), .int 0, .int z48] [.int (hi1 102 j4), .int (((402 * a0) + a1) + 1), .ref 102] (rx_hp L t (rx_u (rx_u hi48 104 j71 (vp_nar .boolean 0)) 101 j72 (hi1 101 j3)) hl48 v48) Q
                obtain ⟨j73, ej73, hj73, k⟩ := k
                refine rx_aw_iast (pc := 259) (n := 2412) j73 ej73 rfl rfl (by decide) rfl hj73 (by decide) ?_
                show rx_aw 193 260 [.ref 90, .int a0, .int a1, .int ((402 * a0) + a1), .int z1, .int (hi1 103 j2), .int (hi1 101 j3), .int (hi1 102 j4), .int 0, .int z48] [] (rx_hp L t (rx_u (rx_u (rx_u hi48 104 j71 (vp_nar .boolean 0)) 101 j72 (hi1 101 j3)) 102 j73 (hi1 102 j4)) hl48 v48) Q
                refine rx_aw_s 6 (pc := 260) rfl ?_
                show rx_aw 193 269 [.ref 90, .int a0, .int a1, .int ((402 * a0) + a1), .int z1, .int (hi1 103 j2), .int (hi1 101 j3), .int (hi1 102 j4), .int 0, .int z48] [.int (hi1 103 j2), .int (((402 * a0) + a1) + 1), .ref 103] (rx_hp L t (rx_u (rx_u (rx_u hi48 104 j71 (vp_nar .boolean 0)) 101 j72 (hi1 101 j3)) 102 j73 (hi1 102 j4)) hl48 v48) Q
                obtain ⟨j74, ej74, hj74, k⟩ := k
                refine rx_aw_iast (pc := 269) (n := 2412) j74 ej74 rfl rfl (by decide) rfl hj74 (by decide) ?_
                show rx_aw 193 270 [.ref 90, .int a0, .int a1, .int ((402 * a0) + a1), .int z1, .int (hi1 103 j2), .int (hi1 101 j3), .int (hi1 102 j4), .int 0, .int z48] [] (rx_hp L t (rx_u (rx_u (rx_u (rx_u hi48 104 j71 (vp_nar .boolean 0)) 101 j72 (hi1 101 j3)) 102 j73 (hi1 102 j4)) 103 j74 (hi1 103 j2)) hl48 v48) Q
                exact rx_aw_ret (pc := 270) rfl k
              · have k := k.2 c70
                show rx_aw 193 114 [.ref 90, .int a0, .int a1, .int ((402 * a0) + a1), .int z1, .int (hi1 103 j2), .int (hi1 101 j3), .int (hi1 102 j4), .int 0, .int z48] [] (rx_hp L t hi48 hl48 v48) Q
                refine rx_aw_s 8 (pc := 114) rfl ?_
                show rx_aw 193 239 [.ref 90, .int a0, .int a1, .int ((402 * a0) + a1), .int z1, .int z48, .int (hi1 101 j3), .int (hi1 102 j4), .int 0, .int z48] [.int 0, .int ((402 * a0) + a1), .ref 104] (rx_hp L t hi48 hl48 v48) Q
                obtain ⟨j75, ej75, hj75, k⟩ := k
                refine rx_aw_zast (pc := 239) (n := 2412) j75 ej75 rfl rfl (by decide) rfl hj75 (by decide) ?_
                show rx_aw 193 240 [.ref 90, .int a0, .int a1, .int ((402 * a0) + a1), .int z1, .int z48, .int (hi1 101 j3), .int (hi1 102 j4), .int 0, .int z48] [] (rx_hp L t (rx_u hi48 104 j75 (vp_nar .boolean 0)) hl48 v48) Q
                refine rx_aw_s 6 (pc := 240) rfl ?_
                show rx_aw 193 249 [.ref 90, .int a0, .int a1, .int ((402 * a0) + a1), .int z1, .int z48, .int (hi1 101 j3), .int (hi1 102 j4), .int 0, .int z48] [.int (hi1 101 j3), .int (((402 * a0) + a1) + 1), .ref 101] (rx_hp L t (rx_u hi48 104 j75 (vp_nar .boolean 0)) hl48 v48) Q
                obtain ⟨j76, ej76, hj76, k⟩ := k
                refine rx_aw_iast (pc := 249) (n := 2412) j76 ej76 rfl rfl (by decide) rfl hj76 (by decide) ?_
                show rx_aw 193 250 [.ref 90, .int a0, .int a1, .int ((402 * a0) + a1), .int z1, .int z48, .int (hi1 101 j3), .int (hi1 102 j4), .int 0, .int z48] [] (rx_hp L t (rx_u (rx_u hi48 104 j75 (vp_nar .boolean 0)) 101 j76 (hi1 101 j3)) hl48 v48) Q
                refine rx_aw_s 6 (pc := 250) rfl ?_
                show rx_aw 193 259 [.ref 90, .int a0, .int a1, .int ((402 * a0) + a1), .int z1, .int z48, .int (hi1 101 j3), .int (hi1 102 j4), .int 0, .int z48] [.int (hi1 102 j4), .int (((402 * a0) + a1) + 1), .ref 102] (rx_hp L t (rx_u (rx_u hi48 104 j75 (vp_nar .boolean 0)) 101 j76 (hi1 101 j3)) hl48 v48) Q
                obtain ⟨j77, ej77, hj77, k⟩ := k
                refine rx_aw_iast (pc := 259) (n := 2412) j77 ej77 rfl rfl (by decide) rfl hj77 (by decide) ?_
                show rx_aw 193 260 [.ref 90, .int a0, .int a1, .int ((402 * a0) + a1), .int z1, .int z48, .int (hi1 101 j3), .int (hi1 102 j4), .int 0, .int z48] [] (rx_hp L t (rx_u (rx_u (rx_u hi48 104 j75 (vp_nar .boolean 0)) 101 j76 (hi1 101 j3)) 102 j77 (hi1 102 j4)) hl48 v48) Q
                refine rx_aw_s 6 (pc := 260) rfl ?_
                show rx_aw 193 269 [.ref 90, .int a0, .int a1, .int ((402 * a0) + a1), .int z1, .int z48, .int (hi1 101 j3), .int (hi1 102 j4), .int 0, .int z48] [.int z48, .int (((402 * a0) + a1) + 1), .ref 103] (rx_hp L t (rx_u (rx_u (rx_u hi48 104 j75 (vp_nar .boolean 0)) 101 j76 (hi1 101 j3)) 102 j77 (hi1 102 j4)) hl48 v48) Q
                obtain ⟨j78, ej78, hj78, k⟩ := k
                refine rx_aw_iast (pc := 269) (n := 2412) j78 ej78 rfl rfl (by decide) rfl hj78 (by decide) ?_
                show rx_aw 193 270 [.ref 90, .int a0, .int a1, .int ((402 * a0) + a1), .int z1, .int z48, .int (hi1 101 j3), .int (hi1 102 j4), .int 0, .int z48] [] (rx_hp L t (rx_u (rx_u (rx_u (rx_u hi48 104 j75 (vp_nar .boolean 0)) 101 j76 (hi1 101 j3)) 102 j77 (hi1 102 j4)) 103 j78 z48) hl48 v48) Q
                exact rx_aw_ret (pc := 270) rfl k
          · have k := k.2 c59
            show rx_aw 193 102 [.ref 90, .int a0, .int a1, .int ((402 * a0) + a1), .int z1, .int (hi1 103 j2), .int (hi1 101 j3), .int (hi1 102 j4), .int 1, .int z48] [] (rx_hp L t hi48 hl48 v48) Q
            refine rx_aw_s 5 (pc := 102) rfl ?_
            refine rx_w_if (c := 1 = 0) ⟨fun c79 => ?_, fun c79 => ?_⟩
            · have k := k.1 c79
              show rx_aw 193 119 [.ref 90, .int a0, .int a1, .int ((402 * a0) + a1), .int z1, .int (hi1 103 j2), .int (hi1 101 j3), .int (hi1 102 j4), .int 1, .int z48] [] (rx_hp L t hi48 hl48 v48) Q
              refine rx_aw_s 7 (pc := 119) rfl ?_
              show rx_aw 193 239 [.ref 90, .int a0, .int a1, .int ((402 * a0) + a1), .int z1, .int (hi1 103 j2), .int (hi1 101 j3), .int (hi1 102 j4), .int 1, .int z48] [.int 1, .int ((402 * a0) + a1), .ref 104] (rx_hp L t hi48 hl48 v48) Q
              obtain ⟨j80, ej80, hj80, k⟩ := k
              refine rx_aw_zast (pc := 239) (n := 2412) j80 ej80 rfl rfl (by decide) rfl hj80 (by decide) ?_
              show rx_aw 193 240 [.ref 90, .int a0, .int a1, .int ((402 * a0) + a1), .int z1, .int (hi1 103 j2), .int (hi1 101 j3), .int (hi1 102 j4), .int 1, .int z48] [] (rx_hp L t (rx_u hi48 104 j80 (vp_nar .boolean 1)) hl48 v48) Q
              refine rx_aw_s 6 (pc := 240) rfl ?_
              show rx_aw 193 249 [.ref 90, .int a0, .int a1, .int ((402 * a0) + a1), .int z1, .int (hi1 103 j2), .int (hi1 101 j3), .int (hi1 102 j4), .int 1, .int z48] [.int (hi1 101 j3), .int (((402 * a0) + a1) + 1), .ref 101] (rx_hp L t (rx_u hi48 104 j80 (vp_nar .boolean 1)) hl48 v48) Q
              obtain ⟨j81, ej81, hj81, k⟩ := k
              refine rx_aw_iast (pc := 249) (n := 2412) j81 ej81 rfl rfl (by decide) rfl hj81 (by decide) ?_
              show rx_aw 193 250 [.ref 90, .int a0, .int a1, .int ((402 * a0) + a1), .int z1, .int (hi1 103 j2), .int (hi1 101 j3), .int (hi1 102 j4), .int 1, .int z48] [] (rx_hp L t (rx_u (rx_u hi48 104 j80 (vp_nar .boolean 1)) 101 j81 (hi1 101 j3)) hl48 v48) Q
              refine rx_aw_s 6 (pc := 250) rfl ?_
              show rx_aw 193 259 [.ref 90, .int a0, .int a1, .int ((402 * a0) + a1), .int z1, .int (hi1 103 j2), .int (hi1 101 j3), .int (hi1 102 j4), .int 1, .int z48] [.int (hi1 102 j4), .int (((402 * a0) + a1) + 1), .ref 102] (rx_hp L t (rx_u (rx_u hi48 104 j80 (vp_nar .boolean 1)) 101 j81 (hi1 101 j3)) hl48 v48) Q
              obtain ⟨j82, ej82, hj82, k⟩ := k
              refine rx_aw_iast (pc := 259) (n := 2412) j82 ej82 rfl rfl (by decide) rfl hj82 (by decide) ?_
              show rx_aw 193 260 [.ref 90, .int a0, .int a1, .int ((402 * a0) + a1), .int z1, .int (hi1 103 j2), .int (hi1 101 j3), .int (hi1 102 j4), .int 1, .int z48] [] (rx_hp L t (rx_u (rx_u (rx_u hi48 104 j80 (vp_nar .boolean 1)) 101 j81 (hi1 101 j3)) 102 j82 (hi1 102 j4)) hl48 v48) Q
              refine rx_aw_s 6 (pc := 260) rfl ?_
              show rx_aw 193 269 [.ref 90, .int a0, .int a1, .int ((402 * a0) + a1), .int z1, .int (hi1 103 j2), .int (hi1 101 j3), .int (hi1 102 j4), .int 1, .int z48] [.int (hi1 103 j2), .int (((402 * a0) + a1) + 1), .ref 103] (rx_hp L t (rx_u (rx_u (rx_u hi48 104 j80 (vp_nar .boolean 1)) 101 j81 (hi1 101 j3)) 102 j82 (hi1 102 j4)) hl48 v48) Q
              obtain ⟨j83, ej83, hj83, k⟩ := k
              refine rx_aw_iast (pc := 269) (n := 2412) j83 ej83 rfl rfl (by decide) rfl hj83 (by decide) ?_
              show rx_aw 193 270 [.ref 90, .int a0, .int a1, .int ((402 * a0) + a1), .int z1, .int (hi1 103 j2), .int (hi1 101 j3), .int (hi1 102 j4), .int 1, .int z48] [] (rx_hp L t (rx_u (rx_u (rx_u (rx_u hi48 104 j80 (vp_nar .boolean 1)) 101 j81 (hi1 101 j3)) 102 j82 (hi1 102 j4)) 103 j83 (hi1 103 j2)) hl48 v48) Q
              exact rx_aw_ret (pc := 270) rfl k
            · have k := k.2 c79
              show rx_aw 193 114 [.ref 90, .int a0, .int a1, .int ((402 * a0) + a1), .int z1, .int (hi1 103 j2), .int (hi1 101 j3), .int (hi1 102 j4), .int 1, .int z48] [] (rx_hp L t hi48 hl48 v48) Q
              refine rx_aw_s 8 (pc := 114) rfl ?_
              show rx_aw 193 239 [.ref 90, .int a0, .int a1, .int ((402 * a0) + a1), .int z1, .int z48, .int (hi1 101 j3), .int (hi1 102 j4), .int 1, .int z48] [.int 1, .int ((402 * a0) + a1), .ref 104] (rx_hp L t hi48 hl48 v48) Q
              obtain ⟨j84, ej84, hj84, k⟩ := k
              refine rx_aw_zast (pc := 239) (n := 2412) j84 ej84 rfl rfl (by decide) rfl hj84 (by decide) ?_
              show rx_aw 193 240 [.ref 90, .int a0, .int a1, .int ((402 * a0) + a1), .int z1, .int z48, .int (hi1 101 j3), .int (hi1 102 j4), .int 1, .int z48] [] (rx_hp L t (rx_u hi48 104 j84 (vp_nar .boolean 1)) hl48 v48) Q
              refine rx_aw_s 6 (pc := 240) rfl ?_
              show rx_aw 193 249 [.ref 90, .int a0, .int a1, .int ((402 * a0) + a1), .int z1, .int z48, .int (hi1 101 j3), .int (hi1 102 j4), .int 1, .int z48] [.int (hi1 101 j3), .int (((402 * a0) + a1) + 1), .ref 101] (rx_hp L t (rx_u hi48 104 j84 (vp_nar .boolean 1)) hl48 v48) Q
              obtain ⟨j85, ej85, hj85, k⟩ := k
              refine rx_aw_iast (pc := 249) (n := 2412) j85 ej85 rfl rfl (by decide) rfl hj85 (by decide) ?_
              show rx_aw 193 250 [.ref 90, .int a0, .int a1, .int ((402 * a0) + a1), .int z1, .int z48, .int (hi1 101 j3), .int (hi1 102 j4), .int 1, .int z48] [] (rx_hp L t (rx_u (rx_u hi48 104 j84 (vp_nar .boolean 1)) 101 j85 (hi1 101 j3)) hl48 v48) Q
              refine rx_aw_s 6 (pc := 250) rfl ?_
              show rx_aw 193 259 [.ref 90, .int a0, .int a1, .int ((402 * a0) + a1), .int z1, .int z48, .int (hi1 101 j3), .int (hi1 102 j4), .int 1, .int z48] [.int (hi1 102 j4), .int (((402 * a0) + a1) + 1), .ref 102] (rx_hp L t (rx_u (rx_u hi48 104 j84 (vp_nar .boolean 1)) 101 j85 (hi1 101 j3)) hl48 v48) Q
              obtain ⟨j86, ej86, hj86, k⟩ := k
              refine rx_aw_iast (pc := 259) (n := 2412) j86 ej86 rfl rfl (by decide) rfl hj86 (by decide) ?_
              show rx_aw 193 260 [.ref 90, .int a0, .int a1, .int ((402 * a0) + a1), .int z1, .int z48, .int (hi1 101 j3), .int (hi1 102 j4), .int 1, .int z48] [] (rx_hp L t (rx_u (rx_u (rx_u hi48 104 j84 (vp_nar .boolean 1)) 101 j85 (hi1 101 j3)) 102 j86 (hi1 102 j4)) hl48 v48) Q
              refine rx_aw_s 6 (pc := 260) rfl ?_
              show rx_aw 193 269 [.ref 90, .int a0, .int a1, .int ((402 * a0) + a1), .int z1, .int z48, .int (hi1 101 j3), .int (hi1 102 j4), .int 1, .int z48] [.int z48, .int (((402 * a0) + a1) + 1), .ref 103] (rx_hp L t (rx_u (rx_u (rx_u hi48 104 j84 (vp_nar .boolean 1)) 101 j85 (hi1 101 j3)) 102 j86 (hi1 102 j4)) hl48 v48) Q
              obtain ⟨j87, ej87, hj87, k⟩ := k
              refine rx_aw_iast (pc := 269) (n := 2412) j87 ej87 rfl rfl (by decide) rfl hj87 (by decide) ?_
              show rx_aw 193 270 [.ref 90, .int a0, .int a1, .int ((402 * a0) + a1), .int z1, .int z48, .int (hi1 101 j3), .int (hi1 102 j4), .int 1, .int z48] [] (rx_hp L t (rx_u (rx_u (rx_u (rx_u hi48 104 j84 (vp_nar .boolean 1)) 101 j85 (hi1 101 j3)) 102 j86 (hi1 102 j4)) 103 j87 z48) hl48 v48) Q
              exact rx_aw_ret (pc := 270) rfl k
    · have k := k.2 c7
      show rx_aw 193 74 [.ref 90, .int a0, .int a1, .int ((402 * a0) + a1), .int z1, .int (hi1 103 j2), .int (hi1 101 j3), .int (hi1 102 j4), .int 1, rx_no] [] (rx_hp L t hi1 hl1 v1) Q
      refine rx_aw_s 4 (pc := 74) rfl ?_
      refine rx_w_if (c := (-1) < 0) ⟨fun c88 => ?_, fun c88 => ?_⟩
      · have k := k.1 c88
        show rx_aw 193 106 [.ref 90, .int a0, .int a1, .int ((402 * a0) + a1), .int z1, .int (hi1 103 j2), .int (hi1 101 j3), .int (hi1 102 j4), .int 1, .int (-1)] [] (rx_hp L t hi1 hl1 v1) Q
        refine rx_aw_s 4 (pc := 106) rfl ?_
        refine rx_w_if (c := 0 = 0) ⟨fun c89 => ?_, fun c89 => ?_⟩
        · have k := k.1 c89
          show rx_aw 193 119 [.ref 90, .int a0, .int a1, .int ((402 * a0) + a1), .int z1, .int (hi1 103 j2), .int (hi1 101 j3), .int (hi1 102 j4), .int 0, .int (-1)] [] (rx_hp L t hi1 hl1 v1) Q
          refine rx_aw_s 7 (pc := 119) rfl ?_
          show rx_aw 193 239 [.ref 90, .int a0, .int a1, .int ((402 * a0) + a1), .int z1, .int (hi1 103 j2), .int (hi1 101 j3), .int (hi1 102 j4), .int 0, .int (-1)] [.int 0, .int ((402 * a0) + a1), .ref 104] (rx_hp L t hi1 hl1 v1) Q
          obtain ⟨j90, ej90, hj90, k⟩ := k
          refine rx_aw_zast (pc := 239) (n := 2412) j90 ej90 rfl rfl (by decide) rfl hj90 (by decide) ?_
          show rx_aw 193 240 [.ref 90, .int a0, .int a1, .int ((402 * a0) + a1), .int z1, .int (hi1 103 j2), .int (hi1 101 j3), .int (hi1 102 j4), .int 0, .int (-1)] [] (rx_hp L t (rx_u hi1 104 j90 (vp_nar .boolean 0)) hl1 v1) Q
          refine rx_aw_s 6 (pc := 240) rfl ?_
          show rx_aw 193 249 [.ref 90, .int a0, .int a1, .int ((402 * a0) + a1), .int z1, .int (hi1 103 j2), .int (hi1 101 j3), .int (hi1 102 j4), .int 0, .int (-1)] [.int (hi1 101 j3), .int (((402 * a0) + a1) + 1), .ref 101] (rx_hp L t (rx_u hi1 104 j90 (vp_nar .boolean 0)) hl1 v1) Q
          obtain ⟨j91, ej91, hj91, k⟩ := k
          refine rx_aw_iast (pc := 249) (n := 2412) j91 ej91 rfl rfl (by decide) rfl hj91 (by decide) ?_
          show rx_aw 193 250 [.ref 90, .int a0, .int a1, .int ((402 * a0) + a1), .int z1, .int (hi1 103 j2), .int (hi1 101 j3), .int (hi1 102 j4), .int 0, .int (-1)] [] (rx_hp L t (rx_u (rx_u hi1 104 j90 (vp_nar .boolean 0)) 101 j91 (hi1 101 j3)) hl1 v1) Q
          refine rx_aw_s 6 (pc := 250) rfl ?_
          show rx_aw 193 259 [.ref 90, .int a0, .int a1, .int ((402 * a0) + a1), .int z1, .int (hi1 103 j2), .int (hi1 101 j3), .int (hi1 102 j4), .int 0, .int (-1)] [.int (hi1 102 j4), .int (((402 * a0) + a1) + 1), .ref 102] (rx_hp L t (rx_u (rx_u hi1 104 j90 (vp_nar .boolean 0)) 101 j91 (hi1 101 j3)) hl1 v1) Q
          obtain ⟨j92, ej92, hj92, k⟩ := k
          refine rx_aw_iast (pc := 259) (n := 2412) j92 ej92 rfl rfl (by decide) rfl hj92 (by decide) ?_
          show rx_aw 193 260 [.ref 90, .int a0, .int a1, .int ((402 * a0) + a1), .int z1, .int (hi1 103 j2), .int (hi1 101 j3), .int (hi1 102 j4), .int 0, .int (-1)] [] (rx_hp L t (rx_u (rx_u (rx_u hi1 104 j90 (vp_nar .boolean 0)) 101 j91 (hi1 101 j3)) 102 j92 (hi1 102 j4)) hl1 v1) Q
          refine rx_aw_s 6 (pc := 260) rfl ?_
          show rx_aw 193 269 [.ref 90, .int a0, .int a1, .int ((402 * a0) + a1), .int z1, .int (hi1 103 j2), .int (hi1 101 j3), .int (hi1 102 j4), .int 0, .int (-1)] [.int (hi1 103 j2), .int (((402 * a0) + a1) + 1), .ref 103] (rx_hp L t (rx_u (rx_u (rx_u hi1 104 j90 (vp_nar .boolean 0)) 101 j91 (hi1 101 j3)) 102 j92 (hi1 102 j4)) hl1 v1) Q
          obtain ⟨j93, ej93, hj93, k⟩ := k
          refine rx_aw_iast (pc := 269) (n := 2412) j93 ej93 rfl rfl (by decide) rfl hj93 (by decide) ?_
          show rx_aw 193 270 [.ref 90, .int a0, .int a1, .int ((402 * a0) + a1), .int z1, .int (hi1 103 j2), .int (hi1 101 j3), .int (hi1 102 j4), .int 0, .int (-1)] [] (rx_hp L t (rx_u (rx_u (rx_u (rx_u hi1 104 j90 (vp_nar .boolean 0)) 101 j91 (hi1 101 j3)) 102 j92 (hi1 102 j4)) 103 j93 (hi1 103 j2)) hl1 v1) Q
          exact rx_aw_ret (pc := 270) rfl k
        · have k := k.2 c89
          show rx_aw 193 114 [.ref 90, .int a0, .int a1, .int ((402 * a0) + a1), .int z1, .int (hi1 103 j2), .int (hi1 101 j3), .int (hi1 102 j4), .int 0, .int (-1)] [] (rx_hp L t hi1 hl1 v1) Q
          refine rx_aw_s 8 (pc := 114) rfl ?_
          show rx_aw 193 239 [.ref 90, .int a0, .int a1, .int ((402 * a0) + a1), .int z1, .int (-1), .int (hi1 101 j3), .int (hi1 102 j4), .int 0, .int (-1)] [.int 0, .int ((402 * a0) + a1), .ref 104] (rx_hp L t hi1 hl1 v1) Q
          obtain ⟨j94, ej94, hj94, k⟩ := k
          refine rx_aw_zast (pc := 239) (n := 2412) j94 ej94 rfl rfl (by decide) rfl hj94 (by decide) ?_
          show rx_aw 193 240 [.ref 90, .int a0, .int a1, .int ((402 * a0) + a1), .int z1, .int (-1), .int (hi1 101 j3), .int (hi1 102 j4), .int 0, .int (-1)] [] (rx_hp L t (rx_u hi1 104 j94 (vp_nar .boolean 0)) hl1 v1) Q
          refine rx_aw_s 6 (pc := 240) rfl ?_
          show rx_aw 193 249 [.ref 90, .int a0, .int a1, .int ((402 * a0) + a1), .int z1, .int (-1), .int (hi1 101 j3), .int (hi1 102 j4), .int 0, .int (-1)] [.int (hi1 101 j3), .int (((402 * a0) + a1) + 1), .ref 101] (rx_hp L t (rx_u hi1 104 j94 (vp_nar .boolean 0)) hl1 v1) Q
          obtain ⟨j95, ej95, hj95, k⟩ := k
          refine rx_aw_iast (pc := 249) (n := 2412) j95 ej95 rfl rfl (by decide) rfl hj95 (by decide) ?_
          show rx_aw 193 250 [.ref 90, .int a0, .int a1, .int ((402 * a0) + a1), .int z1, .int (-1), .int (hi1 101 j3), .int (hi1 102 j4), .int 0, .int (-1)] [] (rx_hp L t (rx_u (rx_u hi1 104 j94 (vp_nar .boolean 0)) 101 j95 (hi1 101 j3)) hl1 v1) Q
          refine rx_aw_s 6 (pc := 250) rfl ?_
          show rx_aw 193 259 [.ref 90, .int a0, .int a1, .int ((402 * a0) + a1), .int z1, .int (-1), .int (hi1 101 j3), .int (hi1 102 j4), .int 0, .int (-1)] [.int (hi1 102 j4), .int (((402 * a0) + a1) + 1), .ref 102] (rx_hp L t (rx_u (rx_u hi1 104 j94 (vp_nar .boolean 0)) 101 j95 (hi1 101 j3)) hl1 v1) Q
          obtain ⟨j96, ej96, hj96, k⟩ := k
          refine rx_aw_iast (pc := 259) (n := 2412) j96 ej96 rfl rfl (by decide) rfl hj96 (by decide) ?_
          show rx_aw 193 260 [.ref 90, .int a0, .int a1, .int ((402 * a0) + a1), .int z1, .int (-1), .int (hi1 101 j3), .int (hi1 102 j4), .int 0, .int (-1)] [] (rx_hp L t (rx_u (rx_u (rx_u hi1 104 j94 (vp_nar .boolean 0)) 101 j95 (hi1 101 j3)) 102 j96 (hi1 102 j4)) hl1 v1) Q
          refine rx_aw_s 6 (pc := 260) rfl ?_
          show rx_aw 193 269 [.ref 90, .int a0, .int a1, .int ((402 * a0) + a1), .int z1, .int (-1), .int (hi1 101 j3), .int (hi1 102 j4), .int 0, .int (-1)] [.int (-1), .int (((402 * a0) + a1) + 1), .ref 103] (rx_hp L t (rx_u (rx_u (rx_u hi1 104 j94 (vp_nar .boolean 0)) 101 j95 (hi1 101 j3)) 102 j96 (hi1 102 j4)) hl1 v1) Q
          obtain ⟨j97, ej97, hj97, k⟩ := k
          refine rx_aw_iast (pc := 269) (n := 2412) j97 ej97 rfl rfl (by decide) rfl hj97 (by decide) ?_
          show rx_aw 193 270 [.ref 90, .int a0, .int a1, .int ((402 * a0) + a1), .int z1, .int (-1), .int (hi1 101 j3), .int (hi1 102 j4), .int 0, .int (-1)] [] (rx_hp L t (rx_u (rx_u (rx_u (rx_u hi1 104 j94 (vp_nar .boolean 0)) 101 j95 (hi1 101 j3)) 102 j96 (hi1 102 j4)) 103 j97 (-1)) hl1 v1) Q
          exact rx_aw_ret (pc := 270) rfl k
      · have k := k.2 c88
        show rx_aw 193 82 [.ref 90, .int a0, .int a1, .int ((402 * a0) + a1), .int z1, .int (hi1 103 j2), .int (hi1 101 j3), .int (hi1 102 j4), .int 1, .int (-1)] [] (rx_hp L t hi1 hl1 v1) Q
        refine rx_aw_s 4 (pc := 82) rfl ?_
        refine rx_w_ifn (c := a0 = (hi1 90 35)) ⟨fun c98 => ?_, fun c98 => ?_⟩
        · have k := k.1 c98
          show rx_aw 193 90 [.ref 90, .int a0, .int a1, .int ((402 * a0) + a1), .int z1, .int (hi1 103 j2), .int (hi1 101 j3), .int (hi1 102 j4), .int 1, .int (-1)] [] (rx_hp L t hi1 hl1 v1) Q
          refine rx_aw_s 7 (pc := 90) rfl ?_
          refine rx_w_ifn (c := (((hi1 90 36) >>> ((-1) &&& 31)) &&& 1) = 0) ⟨fun c99 => ?_, fun c99 => ?_⟩
          · have k := k.1 c99
            show rx_aw 193 102 [.ref 90, .int a0, .int a1, .int ((402 * a0) + a1), .int z1, .int (hi1 103 j2), .int (hi1 101 j3), .int (hi1 102 j4), .int 1, .int (-1)] [] (rx_hp L t hi1 hl1 v1) Q
            refine rx_aw_s 5 (pc := 102) rfl ?_
            refine rx_w_if (c := 1 = 0) ⟨fun c100 => ?_, fun c100 => ?_⟩
            · have k := k.1 c100
              show rx_aw 193 119 [.ref 90, .int a0, .int a1, .int ((402 * a0) + a1), .int z1, .int (hi1 103 j2), .int (hi1 101 j3), .int (hi1 102 j4), .int 1, .int (-1)] [] (rx_hp L t hi1 hl1 v1) Q
              refine rx_aw_s 7 (pc := 119) rfl ?_
              show rx_aw 193 239 [.ref 90, .int a0, .int a1, .int ((402 * a0) + a1), .int z1, .int (hi1 103 j2), .int (hi1 101 j3), .int (hi1 102 j4), .int 1, .int (-1)] [.int 1, .int ((402 * a0) + a1), .ref 104] (rx_hp L t hi1 hl1 v1) Q
              obtain ⟨j101, ej101, hj101, k⟩ := k
              refine rx_aw_zast (pc := 239) (n := 2412) j101 ej101 rfl rfl (by decide) rfl hj101 (by decide) ?_
              show rx_aw 193 240 [.ref 90, .int a0, .int a1, .int ((402 * a0) + a1), .int z1, .int (hi1 103 j2), .int (hi1 101 j3), .int (hi1 102 j4), .int 1, .int (-1)] [] (rx_hp L t (rx_u hi1 104 j101 (vp_nar .boolean 1)) hl1 v1) Q
              refine rx_aw_s 6 (pc := 240) rfl ?_
              show rx_aw 193 249 [.ref 90, .int a0, .int a1, .int ((402 * a0) + a1), .int z1, .int (hi1 103 j2), .int (hi1 101 j3), .int (hi1 102 j4), .int 1, .int (-1)] [.int (hi1 101 j3), .int (((402 * a0) + a1) + 1), .ref 101] (rx_hp L t (rx_u hi1 104 j101 (vp_nar .boolean 1)) hl1 v1) Q
              obtain ⟨j102, ej102, hj102, k⟩ := k
              refine rx_aw_iast (pc := 249) (n := 2412) j102 ej102 rfl rfl (by decide) rfl hj102 (by decide) ?_
              show rx_aw 193 250 [.ref 90, .int a0, .int a1, .int ((402 * a0) + a1), .int z1, .int (hi1 103 j2), .int (hi1 101 j3), .int (hi1 102 j4), .int 1, .int (-1)] [] (rx_hp L t (rx_u (rx_u hi1 104 j101 (vp_nar .boolean 1)) 101 j102 (hi1 101 j3)) hl1 v1) Q
              refine rx_aw_s 6 (pc := 250) rfl ?_
              show rx_aw 193 259 [.ref 90, .int a0, .int a1, .int ((402 * a0) + a1), .int z1, .int (hi1 103 j2), .int (hi1 101 j3), .int (hi1 102 j4), .int 1, .int (-1)] [.int (hi1 102 j4), .int (((402 * a0) + a1) + 1), .ref 102] (rx_hp L t (rx_u (rx_u hi1 104 j101 (vp_nar .boolean 1)) 101 j102 (hi1 101 j3)) hl1 v1) Q
              obtain ⟨j103, ej103, hj103, k⟩ := k
              refine rx_aw_iast (pc := 259) (n := 2412) j103 ej103 rfl rfl (by decide) rfl hj103 (by decide) ?_
              show rx_aw 193 260 [.ref 90, .int a0, .int a1, .int ((402 * a0) + a1), .int z1, .int (hi1 103 j2), .int (hi1 101 j3), .int (hi1 102 j4), .int 1, .int (-1)] [] (rx_hp L t (rx_u (rx_u (rx_u hi1 104 j101 (vp_nar .boolean 1)) 101 j102 (hi1 101 j3)) 102 j103 (hi1 102 j4)) hl1 v1) Q
              refine rx_aw_s 6 (pc := 260) rfl ?_
              show rx_aw 193 269 [.ref 90, .int a0, .int a1, .int ((402 * a0) + a1), .int z1, .int (hi1 103 j2), .int (hi1 101 j3), .int (hi1 102 j4), .int 1, .int (-1)] [.int (hi1 103 j2), .int (((402 * a0) + a1) + 1), .ref 103] (rx_hp L t (rx_u (rx_u (rx_u hi1 104 j101 (vp_nar .boolean 1)) 101 j102 (hi1 101 j3)) 102 j103 (hi1 102 j4)) hl1 v1) Q
              obtain ⟨j104, ej104, hj104, k⟩ := k
              refine rx_aw_iast (pc := 269) (n := 2412) j104 ej104 rfl rfl (by decide) rfl hj104 (by decide) ?_
              show rx_aw 193 270 [.ref 90, .int a0, .int a1, .int ((402 * a0) + a1), .int z1, .int (hi1 103 j2), .int (hi1 101 j3), .int (hi1 102 j4), .int 1, .int (-1)] [] (rx_hp L t (rx_u (rx_u (rx_u (rx_u hi1 104 j101 (vp_nar .boolean 1)) 101 j102 (hi1 101 j3)) 102 j103 (hi1 102 j4)) 103 j104 (hi1 103 j2)) hl1 v1) Q
              exact rx_aw_ret (pc := 270) rfl k
            · have k := k.2 c100
              show rx_aw 193 114 [.ref 90, .int a0, .int a1, .int ((402 * a0) + a1), .int z1, .int (hi1 103 j2), .int (hi1 101 j3), .int (hi1 102 j4), .int 1, .int (-1)] [] (rx_hp L t hi1 hl1 v1) Q
              refine rx_aw_s 8 (pc := 114) rfl ?_
              show rx_aw 193 239 [.ref 90, .int a0, .int a1, .int ((402 * a0) + a1), .int z1, .int (-1), .int (hi1 101 j3), .int (hi1 102 j4), .int 1, .int (-1)] [.int 1, .int ((402 * a0) + a1), .ref 104] (rx_hp L t hi1 hl1 v1) Q
              obtain ⟨j105, ej105, hj105, k⟩ := k
              refine rx_aw_zast (pc := 239) (n := 2412) j105 ej105 rfl rfl (by decide) rfl hj105 (by decide) ?_
              show rx_aw 193 240 [.ref 90, .int a0, .int a1, .int ((402 * a0) + a1), .int z1, .int (-1), .int (hi1 101 j3), .int (hi1 102 j4), .int 1, .int (-1)] [] (rx_hp L t (rx_u hi1 104 j105 (vp_nar .boolean 1)) hl1 v1) Q
              refine rx_aw_s 6 (pc := 240) rfl ?_
              show rx_aw 193 249 [.ref 90, .int a0, .int a1, .int ((402 * a0) + a1), .int z1, .int (-1), .int (hi1 101 j3), .int (hi1 102 j4), .int 1, .int (-1)] [.int (hi1 101 j3), .int (((402 * a0) + a1) + 1), .ref 101] (rx_hp L t (rx_u hi1 104 j105 (vp_nar .boolean 1)) hl1 v1) Q
              obtain ⟨j106, ej106, hj106, k⟩ := k
              refine rx_aw_iast (pc := 249) (n := 2412) j106 ej106 rfl rfl (by decide) rfl hj106 (by decide) ?_
              show rx_aw 193 250 [.ref 90, .int a0, .int a1, .int ((402 * a0) + a1), .int z1, .int (-1), .int (hi1 101 j3), .int (hi1 102 j4), .int 1, .int (-1)] [] (rx_hp L t (rx_u (rx_u hi1 104 j105 (vp_nar .boolean 1)) 101 j106 (hi1 101 j3)) hl1 v1) Q
              refine rx_aw_s 6 (pc := 250) rfl ?_
              show rx_aw 193 259 [.ref 90, .int a0, .int a1, .int ((402 * a0) + a1), .int z1, .int (-1), .int (hi1 101 j3), .int (hi1 102 j4), .int 1, .int (-1)] [.int (hi1 102 j4), .int (((402 * a0) + a1) + 1), .ref 102] (rx_hp L t (rx_u (rx_u hi1 104 j105 (vp_nar .boolean 1)) 101 j106 (hi1 101 j3)) hl1 v1) Q
              obtain ⟨j107, ej107, hj107, k⟩ := k
              refine rx_aw_iast (pc := 259) (n := 2412) j107 ej107 rfl rfl (by decide) rfl hj107 (by decide) ?_
              show rx_aw 193 260 [.ref 90, .int a0, .int a1, .int ((402 * a0) + a1), .int z1, .int (-1), .int (hi1 101 j3), .int (hi1 102 j4), .int 1, .int (-1)] [] (rx_hp L t (rx_u (rx_u (rx_u hi1 104 j105 (vp_nar .boolean 1)) 101 j106 (hi1 101 j3)) 102 j107 (hi1 102 j4)) hl1 v1) Q
              refine rx_aw_s 6 (pc := 260) rfl ?_
              show rx_aw 193 269 [.ref 90, .int a0, .int a1, .int ((402 * a0) + a1), .int z1, .int (-1), .int (hi1 101 j3), .int (hi1 102 j4), .int 1, .int (-1)] [.int (-1), .int (((402 * a0) + a1) + 1), .ref 103] (rx_hp L t (rx_u (rx_u (rx_u hi1 104 j105 (vp_nar .boolean 1)) 101 j106 (hi1 101 j3)) 102 j107 (hi1 102 j4)) hl1 v1) Q
              obtain ⟨j108, ej108, hj108, k⟩ := k
              refine rx_aw_iast (pc := 269) (n := 2412) j108 ej108 rfl rfl (by decide) rfl hj108 (by decide) ?_
              show rx_aw 193 270 [.ref 90, .int a0, .int a1, .int ((402 * a0) + a1), .int z1, .int (-1), .int (hi1 101 j3), .int (hi1 102 j4), .int 1, .int (-1)] [] (rx_hp L t (rx_u (rx_u (rx_u (rx_u hi1 104 j105 (vp_nar .boolean 1)) 101 j106 (hi1 101 j3)) 102 j107 (hi1 102 j4)) 103 j108 (-1)) hl1 v1) Q
              exact rx_aw_ret (pc := 270) rfl k
          · have k := k.2 c99
            show rx_aw 193 106 [.ref 90, .int a0, .int a1, .int ((402 * a0) + a1), .int z1, .int (hi1 103 j2), .int (hi1 101 j3), .int (hi1 102 j4), .int 1, .int (-1)] [] (rx_hp L t hi1 hl1 v1) Q
            refine rx_aw_s 4 (pc := 106) rfl ?_
            refine rx_w_if (c := 0 = 0) ⟨fun c109 => ?_, fun c109 => ?_⟩
            · have k := k.1 c109
              show rx_aw 193 119 [.ref 90, .int a0, .int a1, .int ((402 * a0) + a1), .int z1, .int (hi1 103 j2), .int (hi1 101 j3), .int (hi1 102 j4), .int 0, .int (-1)] [] (rx_hp L t hi1 hl1 v1) Q
              refine rx_aw_s 7 (pc := 119) rfl ?_
              show rx_aw 193 239 [.ref 90, .int a0, .int a1, .int ((402 * a0) + a1), .int z1, .int (hi1 103 j2), .int (hi1 101 j3), .int (hi1 102 j4), .int 0, .int (-1)] [.int 0, .int ((402 * a0) + a1), .ref 104] (rx_hp L t hi1 hl1 v1) Q
              obtain ⟨j110, ej110, hj110, k⟩ := k
              refine rx_aw_zast (pc := 239) (n := 2412) j110 ej110 rfl rfl (by decide) rfl hj110 (by decide) ?_
              show rx_aw 193 240 [.ref 90, .int a0, .int a1, .int ((402 * a0) + a1), .int z1, .int (hi1 103 j2), .int (hi1 101 j3), .int (hi1 102 j4), .int 0, .int (-1)] [] (rx_hp L t (rx_u hi1 104 j110 (vp_nar .boolean 0)) hl1 v1) Q
              refine rx_aw_s 6 (pc := 240) rfl ?_
              show rx_aw 193 249 [.ref 90, .int a0, .int a1, .int ((402 * a0) + a1), .int z1, .int (hi1 103 j2), .int (hi1 101 j3), .int (hi1 102 j4), .int 0, .int (-1)] [.int (hi1 101 j3), .int (((402 * a0) + a1) + 1), .ref 101] (rx_hp L t (rx_u hi1 104 j110 (vp_nar .boolean 0)) hl1 v1) Q
              obtain ⟨j111, ej111, hj111, k⟩ := k
              refine rx_aw_iast (pc := 249) (n := 2412) j111 ej111 rfl rfl (by decide) rfl hj111 (by decide) ?_
              show rx_aw 193 250 [.ref 90, .int a0, .int a1, .int ((402 * a0) + a1), .int z1, .int (hi1 103 j2), .int (hi1 101 j3), .int (hi1 102 j4), .int 0, .int (-1)] [] (rx_hp L t (rx_u (rx_u hi1 104 j110 (vp_nar .boolean 0)) 101 j111 (hi1 101 j3)) hl1 v1) Q
              refine rx_aw_s 6 (pc := 250) rfl ?_
              show rx_aw 193 259 [.ref 90, .int a0, .int a1, .int ((402 * a0) + a1), .int z1, .int (hi1 103 j2), .int (hi1 101 j3), .int (hi1 102 j4), .int 0, .int (-1)] [.int (hi1 102 j4), .int (((402 * a0) + a1) + 1), .ref 102] (rx_hp L t (rx_u (rx_u hi1 104 j110 (vp_nar .boolean 0)) 101 j111 (hi1 101 j3)) hl1 v1) Q
              obtain ⟨j112, ej112, hj112, k⟩ := k
              refine rx_aw_iast (pc := 259) (n := 2412) j112 ej112 rfl rfl (by decide) rfl hj112 (by decide) ?_
              show rx_aw 193 260 [.ref 90, .int a0, .int a1, .int ((402 * a0) + a1), .int z1, .int (hi1 103 j2), .int (hi1 101 j3), .int (hi1 102 j4), .int 0, .int (-1)] [] (rx_hp L t (rx_u (rx_u (rx_u hi1 104 j110 (vp_nar .boolean 0)) 101 j111 (hi1 101 j3)) 102 j112 (hi1 102 j4)) hl1 v1) Q
              refine rx_aw_s 6 (pc := 260) rfl ?_
              show rx_aw 193 269 [.ref 90, .int a0, .int a1, .int ((402 * a0) + a1), .int z1, .int (hi1 103 j2), .int (hi1 101 j3), .int (hi1 102 j4), .int 0, .int (-1)] [.int (hi1 103 j2), .int (((402 * a0) + a1) + 1), .ref 103] (rx_hp L t (rx_u (rx_u (rx_u hi1 104 j110 (vp_nar .boolean 0)) 101 j111 (hi1 101 j3)) 102 j112 (hi1 102 j4)) hl1 v1) Q
              obtain ⟨j113, ej113, hj113, k⟩ := k
              refine rx_aw_iast (pc := 269) (n := 2412) j113 ej113 rfl rfl (by decide) rfl hj113 (by decide) ?_
              show rx_aw 193 270 [.ref 90, .int a0, .int a1, .int ((402 * a0) + a1), .int z1, .int (hi1 103 j2), .int (hi1 101 j3), .int (hi1 102 j4), .int 0, .int (-1)] [] (rx_hp L t (rx_u (rx_u (rx_u (rx_u hi1 104 j110 (vp_nar .boolean 0)) 101 j111 (hi1 101 j3)) 102 j112 (hi1 102 j4)) 103 j113 (hi1 103 j2)) hl1 v1) Q
              exact rx_aw_ret (pc := 270) rfl k
            · have k := k.2 c109
              show rx_aw 193 114 [.ref 90, .int a0, .int a1, .int ((402 * a0) + a1), .int z1, .int (hi1 103 j2), .int (hi1 101 j3), .int (hi1 102 j4), .int 0, .int (-1)] [] (rx_hp L t hi1 hl1 v1) Q
              refine rx_aw_s 8 (pc := 114) rfl ?_
              show rx_aw 193 239 [.ref 90, .int a0, .int a1, .int ((402 * a0) + a1), .int z1, .int (-1), .int (hi1 101 j3), .int (hi1 102 j4), .int 0, .int (-1)] [.int 0, .int ((402 * a0) + a1), .ref 104] (rx_hp L t hi1 hl1 v1) Q
              obtain ⟨j114, ej114, hj114, k⟩ := k
              refine rx_aw_zast (pc := 239) (n := 2412) j114 ej114 rfl rfl (by decide) rfl hj114 (by decide) ?_
              show rx_aw 193 240 [.ref 90, .int a0, .int a1, .int ((402 * a0) + a1), .int z1, .int (-1), .int (hi1 101 j3), .int (hi1 102 j4), .int 0, .int (-1)] [] (rx_hp L t (rx_u hi1 104 j114 (vp_nar .boolean 0)) hl1 v1) Q
              refine rx_aw_s 6 (pc := 240) rfl ?_
              show rx_aw 193 249 [.ref 90, .int a0, .int a1, .int ((402 * a0) + a1), .int z1, .int (-1), .int (hi1 101 j3), .int (hi1 102 j4), .int 0, .int (-1)] [.int (hi1 101 j3), .int (((402 * a0) + a1) + 1), .ref 101] (rx_hp L t (rx_u hi1 104 j114 (vp_nar .boolean 0)) hl1 v1) Q
              obtain ⟨j115, ej115, hj115, k⟩ := k
              refine rx_aw_iast (pc := 249) (n := 2412) j115 ej115 rfl rfl (by decide) rfl hj115 (by decide) ?_
              show rx_aw 193 250 [.ref 90, .int a0, .int a1, .int ((402 * a0) + a1), .int z1, .int (-1), .int (hi1 101 j3), .int (hi1 102 j4), .int 0, .int (-1)] [] (rx_hp L t (rx_u (rx_u hi1 104 j114 (vp_nar .boolean 0)) 101 j115 (hi1 101 j3)) hl1 v1) Q
              refine rx_aw_s 6 (pc := 250) rfl ?_
              show rx_aw 193 259 [.ref 90, .int a0, .int a1, .int ((402 * a0) + a1), .int z1, .int (-1), .int (hi1 101 j3), .int (hi1 102 j4), .int 0, .int (-1)] [.int (hi1 102 j4), .int (((402 * a0) + a1) + 1), .ref 102] (rx_hp L t (rx_u (rx_u hi1 104 j114 (vp_nar .boolean 0)) 101 j115 (hi1 101 j3)) hl1 v1) Q
              obtain ⟨j116, ej116, hj116, k⟩ := k
              refine rx_aw_iast (pc := 259) (n := 2412) j116 ej116 rfl rfl (by decide) rfl hj116 (by decide) ?_
              show rx_aw 193 260 [.ref 90, .int a0, .int a1, .int ((402 * a0) + a1), .int z1, .int (-1), .int (hi1 101 j3), .int (hi1 102 j4), .int 0, .int (-1)] [] (rx_hp L t (rx_u (rx_u (rx_u hi1 104 j114 (vp_nar .boolean 0)) 101 j115 (hi1 101 j3)) 102 j116 (hi1 102 j4)) hl1 v1) Q
              refine rx_aw_s 6 (pc := 260) rfl ?_
              show rx_aw 193 269 [.ref 90, .int a0, .int a1, .int ((402 * a0) + a1), .int z1, .int (-1), .int (hi1 101 j3), .int (hi1 102 j4), .int 0, .int (-1)] [.int (-1), .int (((402 * a0) + a1) + 1), .ref 103] (rx_hp L t (rx_u (rx_u (rx_u hi1 104 j114 (vp_nar .boolean 0)) 101 j115 (hi1 101 j3)) 102 j116 (hi1 102 j4)) hl1 v1) Q
              obtain ⟨j117, ej117, hj117, k⟩ := k
              refine rx_aw_iast (pc := 269) (n := 2412) j117 ej117 rfl rfl (by decide) rfl hj117 (by decide) ?_
              show rx_aw 193 270 [.ref 90, .int a0, .int a1, .int ((402 * a0) + a1), .int z1, .int (-1), .int (hi1 101 j3), .int (hi1 102 j4), .int 0, .int (-1)] [] (rx_hp L t (rx_u (rx_u (rx_u (rx_u hi1 104 j114 (vp_nar .boolean 0)) 101 j115 (hi1 101 j3)) 102 j116 (hi1 102 j4)) 103 j117 (-1)) hl1 v1) Q
              exact rx_aw_ret (pc := 270) rfl k
        · have k := k.2 c98
          show rx_aw 193 102 [.ref 90, .int a0, .int a1, .int ((402 * a0) + a1), .int z1, .int (hi1 103 j2), .int (hi1 101 j3), .int (hi1 102 j4), .int 1, .int (-1)] [] (rx_hp L t hi1 hl1 v1) Q
          refine rx_aw_s 5 (pc := 102) rfl ?_
          refine rx_w_if (c := 1 = 0) ⟨fun c118 => ?_, fun c118 => ?_⟩
          · have k := k.1 c118
            show rx_aw 193 119 [.ref 90, .int a0, .int a1, .int ((402 * a0) + a1), .int z1, .int (hi1 103 j2), .int (hi1 101 j3), .int (hi1 102 j4), .int 1, .int (-1)] [] (rx_hp L t hi1 hl1 v1) Q
            refine rx_aw_s 7 (pc := 119) rfl ?_
            show rx_aw 193 239 [.ref 90, .int a0, .int a1, .int ((402 * a0) + a1), .int z1, .int (hi1 103 j2), .int (hi1 101 j3), .int (hi1 102 j4), .int 1, .int (-1)] [.int 1, .int ((402 * a0) + a1), .ref 104] (rx_hp L t hi1 hl1 v1) Q
            obtain ⟨j119, ej119, hj119, k⟩ := k
            refine rx_aw_zast (pc := 239) (n := 2412) j119 ej119 rfl rfl (by decide) rfl hj119 (by decide) ?_
            show rx_aw 193 240 [.ref 90, .int a0, .int a1, .int ((402 * a0) + a1), .int z1, .int (hi1 103 j2), .int (hi1 101 j3), .int (hi1 102 j4), .int 1, .int (-1)] [] (rx_hp L t (rx_u hi1 104 j119 (vp_nar .boolean 1)) hl1 v1) Q
            refine rx_aw_s 6 (pc := 240) rfl ?_
            show rx_aw 193 249 [.ref 90, .int a0, .int a1, .int ((402 * a0) + a1), .int z1, .int (hi1 103 j2), .int (hi1 101 j3), .int (hi1 102 j4), .int 1, .int (-1)] [.int (hi1 101 j3), .int (((402 * a0) + a1) + 1), .ref 101] (rx_hp L t (rx_u hi1 104 j119 (vp_nar .boolean 1)) hl1 v1) Q
            obtain ⟨j120, ej120, hj120, k⟩ := k
            refine rx_aw_iast (pc := 249) (n := 2412) j120 ej120 rfl rfl (by decide) rfl hj120 (by decide) ?_
            show rx_aw 193 250 [.ref 90, .int a0, .int a1, .int ((402 * a0) + a1), .int z1, .int (hi1 103 j2), .int (hi1 101 j3), .int (hi1 102 j4), .int 1, .int (-1)] [] (rx_hp L t (rx_u (rx_u hi1 104 j119 (vp_nar .boolean 1)) 101 j120 (hi1 101 j3)) hl1 v1) Q
            refine rx_aw_s 6 (pc := 250) rfl ?_
            show rx_aw 193 259 [.ref 90, .int a0, .int a1, .int ((402 * a0) + a1), .int z1, .int (hi1 103 j2), .int (hi1 101 j3), .int (hi1 102 j4), .int 1, .int (-1)] [.int (hi1 102 j4), .int (((402 * a0) + a1) + 1), .ref 102] (rx_hp L t (rx_u (rx_u hi1 104 j119 (vp_nar .boolean 1)) 101 j120 (hi1 101 j3)) hl1 v1) Q
            obtain ⟨j121, ej121, hj121, k⟩ := k
            refine rx_aw_iast (pc := 259) (n := 2412) j121 ej121 rfl rfl (by decide) rfl hj121 (by decide) ?_
            show rx_aw 193 260 [.ref 90, .int a0, .int a1, .int ((402 * a0) + a1), .int z1, .int (hi1 103 j2), .int (hi1 101 j3), .int (hi1 102 j4), .int 1, .int (-1)] [] (rx_hp L t (rx_u (rx_u (rx_u hi1 104 j119 (vp_nar .boolean 1)) 101 j120 (hi1 101 j3)) 102 j121 (hi1 102 j4)) hl1 v1) Q
            refine rx_aw_s 6 (pc := 260) rfl ?_
            show rx_aw 193 269 [.ref 90, .int a0, .int a1, .int ((402 * a0) + a1), .int z1, .int (hi1 103 j2), .int (hi1 101 j3), .int (hi1 102 j4), .int 1, .int (-1)] [.int (hi1 103 j2), .int (((402 * a0) + a1) + 1), .ref 103] (rx_hp L t (rx_u (rx_u (rx_u hi1 104 j119 (vp_nar .boolean 1)) 101 j120 (hi1 101 j3)) 102 j121 (hi1 102 j4)) hl1 v1) Q
            obtain ⟨j122, ej122, hj122, k⟩ := k
            refine rx_aw_iast (pc := 269) (n := 2412) j122 ej122 rfl rfl (by decide) rfl hj122 (by decide) ?_
            show rx_aw 193 270 [.ref 90, .int a0, .int a1, .int ((402 * a0) + a1), .int z1, .int (hi1 103 j2), .int (hi1 101 j3), .int (hi1 102 j4), .int 1, .int (-1)] [] (rx_hp L t (rx_u (rx_u (rx_u (rx_u hi1 104 j119 (vp_nar .boolean 1)) 101 j120 (hi1 101 j3)) 102 j121 (hi1 102 j4)) 103 j122 (hi1 103 j2)) hl1 v1) Q
            exact rx_aw_ret (pc := 270) rfl k
          · have k := k.2 c118
            show rx_aw 193 114 [.ref 90, .int a0, .int a1, .int ((402 * a0) + a1), .int z1, .int (hi1 103 j2), .int (hi1 101 j3), .int (hi1 102 j4), .int 1, .int (-1)] [] (rx_hp L t hi1 hl1 v1) Q
            refine rx_aw_s 8 (pc := 114) rfl ?_
            show rx_aw 193 239 [.ref 90, .int a0, .int a1, .int ((402 * a0) + a1), .int z1, .int (-1), .int (hi1 101 j3), .int (hi1 102 j4), .int 1, .int (-1)] [.int 1, .int ((402 * a0) + a1), .ref 104] (rx_hp L t hi1 hl1 v1) Q
            obtain ⟨j123, ej123, hj123, k⟩ := k
            refine rx_aw_zast (pc := 239) (n := 2412) j123 ej123 rfl rfl (by decide) rfl hj123 (by decide) ?_
            show rx_aw 193 240 [.ref 90, .int a0, .int a1, .int ((402 * a0) + a1), .int z1, .int (-1), .int (hi1 101 j3), .int (hi1 102 j4), .int 1, .int (-1)] [] (rx_hp L t (rx_u hi1 104 j123 (vp_nar .boolean 1)) hl1 v1) Q
            refine rx_aw_s 6 (pc := 240) rfl ?_
            show rx_aw 193 249 [.ref 90, .int a0, .int a1, .int ((402 * a0) + a1), .int z1, .int (-1), .int (hi1 101 j3), .int (hi1 102 j4), .int 1, .int (-1)] [.int (hi1 101 j3), .int (((402 * a0) + a1) + 1), .ref 101] (rx_hp L t (rx_u hi1 104 j123 (vp_nar .boolean 1)) hl1 v1) Q
            obtain ⟨j124, ej124, hj124, k⟩ := k
            refine rx_aw_iast (pc := 249) (n := 2412) j124 ej124 rfl rfl (by decide) rfl hj124 (by decide) ?_
            show rx_aw 193 250 [.ref 90, .int a0, .int a1, .int ((402 * a0) + a1), .int z1, .int (-1), .int (hi1 101 j3), .int (hi1 102 j4), .int 1, .int (-1)] [] (rx_hp L t (rx_u (rx_u hi1 104 j123 (vp_nar .boolean 1)) 101 j124 (hi1 101 j3)) hl1 v1) Q
            refine rx_aw_s 6 (pc := 250) rfl ?_
            show rx_aw 193 259 [.ref 90, .int a0, .int a1, .int ((402 * a0) + a1), .int z1, .int (-1), .int (hi1 101 j3), .int (hi1 102 j4), .int 1, .int (-1)] [.int (hi1 102 j4), .int (((402 * a0) + a1) + 1), .ref 102] (rx_hp L t (rx_u (rx_u hi1 104 j123 (vp_nar .boolean 1)) 101 j124 (hi1 101 j3)) hl1 v1) Q
            obtain ⟨j125, ej125, hj125, k⟩ := k
            refine rx_aw_iast (pc := 259) (n := 2412) j125 ej125 rfl rfl (by decide) rfl hj125 (by decide) ?_
            show rx_aw 193 260 [.ref 90, .int a0, .int a1, .int ((402 * a0) + a1), .int z1, .int (-1), .int (hi1 101 j3), .int (hi1 102 j4), .int 1, .int (-1)] [] (rx_hp L t (rx_u (rx_u (rx_u hi1 104 j123 (vp_nar .boolean 1)) 101 j124 (hi1 101 j3)) 102 j125 (hi1 102 j4)) hl1 v1) Q
            refine rx_aw_s 6 (pc := 260) rfl ?_
            show rx_aw 193 269 [.ref 90, .int a0, .int a1, .int ((402 * a0) + a1), .int z1, .int (-1), .int (hi1 101 j3), .int (hi1 102 j4), .int 1, .int (-1)] [.int (-1), .int (((402 * a0) + a1) + 1), .ref 103] (rx_hp L t (rx_u (rx_u (rx_u hi1 104 j123 (vp_nar .boolean 1)) 101 j124 (hi1 101 j3)) 102 j125 (hi1 102 j4)) hl1 v1) Q
            obtain ⟨j126, ej126, hj126, k⟩ := k
            refine rx_aw_iast (pc := 269) (n := 2412) j126 ej126 rfl rfl (by decide) rfl hj126 (by decide) ?_
            show rx_aw 193 270 [.ref 90, .int a0, .int a1, .int ((402 * a0) + a1), .int z1, .int (-1), .int (hi1 101 j3), .int (hi1 102 j4), .int 1, .int (-1)] [] (rx_hp L t (rx_u (rx_u (rx_u (rx_u hi1 104 j123 (vp_nar .boolean 1)) 101 j124 (hi1 101 j3)) 102 j125 (hi1 102 j4)) 103 j126 (-1)) hl1 v1) Q
            exact rx_aw_ret (pc := 270) rfl k
  · have k := k.2 c5
    show rx_aw 193 126 [.ref 90, .int a0, .int a1, .int ((402 * a0) + a1), .int z1, .int (hi1 103 j2), .int (hi1 101 j3), .int (hi1 102 j4), .int 1, rx_no] [] (rx_hp L t hi1 hl1 v1) Q
    refine rx_aw_s 3 (pc := 126) rfl ?_
    refine rx_w_ifn (c := z1 = 6) ⟨fun c127 => ?_, fun c127 => ?_⟩
    · have k := k.1 c127
      show rx_aw 193 133 [.ref 90, .int a0, .int a1, .int ((402 * a0) + a1), .int z1, .int (hi1 103 j2), .int (hi1 101 j3), .int (hi1 102 j4), .int 1, rx_no] [] (rx_hp L t hi1 hl1 v1) Q
      refine rx_aw_s 3 (pc := 133) rfl ?_
      show rx_aw 193 138 [.ref 90, .int a0, .int a1, .int ((402 * a0) + a1), .int z1, .int (hi1 103 j2), .int (hi1 101 j3), .int (hi1 102 j4), .int 1, rx_no] [.int a0, .ref 93] (rx_hp L t hi1 hl1 v1) Q
      obtain ⟨j128, ej128, hj128, k⟩ := k
      refine rx_aw_iald (pc := 138) (n := 6) j128 ej128 rfl rfl rfl hj128 (by decide) ?_
      show rx_aw 193 139 [.ref 90, .int a0, .int a1, .int ((402 * a0) + a1), .int z1, .int (hi1 103 j2), .int (hi1 101 j3), .int (hi1 102 j4), .int 1, rx_no] [.int (hi1 93 j128)] (rx_hp L t hi1 hl1 v1) Q
      refine rx_aw_s 2 (pc := 139) rfl ?_
      refine rx_w_ifn (c := (hi1 93 j128) = 1) ⟨fun c129 => ?_, fun c129 => ?_⟩
      · have k := k.1 c129
        show rx_aw 193 143 [.ref 90, .int a0, .int a1, .int ((402 * a0) + a1), .int z1, .int (hi1 103 j2), .int (hi1 101 j3), .int (hi1 102 j4), .int 1, rx_no] [] (rx_hp L t hi1 hl1 v1) Q
        refine rx_aw_s 2 (pc := 143) rfl ?_
        refine rx_w_if (c := (hi1 103 j2) < 0) ⟨fun c130 => ?_, fun c130 => ?_⟩
        · have k := k.1 c130
          show rx_aw 193 163 [.ref 90, .int a0, .int a1, .int ((402 * a0) + a1), .int z1, .int (hi1 103 j2), .int (hi1 101 j3), .int (hi1 102 j4), .int 1, rx_no] [] (rx_hp L t hi1 hl1 v1) Q
          refine rx_aw_s 4 (pc := 163) rfl ?_
          refine rx_w_if (c := 0 = 0) ⟨fun c131 => ?_, fun c131 => ?_⟩
          · have k := k.1 c131
            show rx_aw 193 175 [.ref 90, .int a0, .int a1, .int ((402 * a0) + a1), .int z1, .int (hi1 103 j2), .int (hi1 101 j3), .int (hi1 102 j4), .int 0, rx_no] [] (rx_hp L t hi1 hl1 v1) Q
            refine rx_aw_s 7 (pc := 175) rfl ?_
            show rx_aw 193 239 [.ref 90, .int a0, .int a1, .int ((402 * a0) + a1), .int z1, .int (hi1 103 j2), .int (hi1 101 j3), .int (hi1 102 j4), .int 0, rx_no] [.int 0, .int ((402 * a0) + a1), .ref 104] (rx_hp L t hi1 hl1 v1) Q
            obtain ⟨j132, ej132, hj132, k⟩ := k
            refine rx_aw_zast (pc := 239) (n := 2412) j132 ej132 rfl rfl (by decide) rfl hj132 (by decide) ?_
            show rx_aw 193 240 [.ref 90, .int a0, .int a1, .int ((402 * a0) + a1), .int z1, .int (hi1 103 j2), .int (hi1 101 j3), .int (hi1 102 j4), .int 0, rx_no] [] (rx_hp L t (rx_u hi1 104 j132 (vp_nar .boolean 0)) hl1 v1) Q
            refine rx_aw_s 6 (pc := 240) rfl ?_
            show rx_aw 193 249 [.ref 90, .int a0, .int a1, .int ((402 * a0) + a1), .int z1, .int (hi1 103 j2), .int (hi1 101 j3), .int (hi1 102 j4), .int 0, rx_no] [.int (hi1 101 j3), .int (((402 * a0) + a1) + 1), .ref 101] (rx_hp L t (rx_u hi1 104 j132 (vp_nar .boolean 0)) hl1 v1) Q
            obtain ⟨j133, ej133, hj133, k⟩ := k
            refine rx_aw_iast (pc := 249) (n := 2412) j133 ej133 rfl rfl (by decide) rfl hj133 (by decide) ?_
            show rx_aw 193 250 [.ref 90, .int a0, .int a1, .int ((402 * a0) + a1), .int z1, .int (hi1 103 j2), .int (hi1 101 j3), .int (hi1 102 j4), .int 0, rx_no] [] (rx_hp L t (rx_u (rx_u hi1 104 j132 (vp_nar .boolean 0)) 101 j133 (hi1 101 j3)) hl1 v1) Q
            refine rx_aw_s 6 (pc := 250) rfl ?_
            show rx_aw 193 259 [.ref 90, .int a0, .int a1, .int ((402 * a0) + a1), .int z1, .int (hi1 103 j2), .int (hi1 101 j3), .int (hi1 102 j4), .int 0, rx_no] [.int (hi1 102 j4), .int (((402 * a0) + a1) + 1), .ref 102] (rx_hp L t (rx_u (rx_u hi1 104 j132 (vp_nar .boolean 0)) 101 j133 (hi1 101 j3)) hl1 v1) Q
            obtain ⟨j134, ej134, hj134, k⟩ := k
            refine rx_aw_iast (pc := 259) (n := 2412) j134 ej134 rfl rfl (by decide) rfl hj134 (by decide) ?_
            show rx_aw 193 260 [.ref 90, .int a0, .int a1, .int ((402 * a0) + a1), .int z1, .int (hi1 103 j2), .int (hi1 101 j3), .int (hi1 102 j4), .int 0, rx_no] [] (rx_hp L t (rx_u (rx_u (rx_u hi1 104 j132 (vp_nar .boolean 0)) 101 j133 (hi1 101 j3)) 102 j134 (hi1 102 j4)) hl1 v1) Q
            refine rx_aw_s 6 (pc := 260) rfl ?_
            show rx_aw 193 269 [.ref 90, .int a0, .int a1, .int ((402 * a0) + a1), .int z1, .int (hi1 103 j2), .int (hi1 101 j3), .int (hi1 102 j4), .int 0, rx_no] [.int (hi1 103 j2), .int (((402 * a0) + a1) + 1), .ref 103] (rx_hp L t (rx_u (rx_u (rx_u hi1 104 j132 (vp_nar .boolean 0)) 101 j133 (hi1 101 j3)) 102 j134 (hi1 102 j4)) hl1 v1) Q
            obtain ⟨j135, ej135, hj135, k⟩ := k
            refine rx_aw_iast (pc := 269) (n := 2412) j135 ej135 rfl rfl (by decide) rfl hj135 (by decide) ?_
            show rx_aw 193 270 [.ref 90, .int a0, .int a1, .int ((402 * a0) + a1), .int z1, .int (hi1 103 j2), .int (hi1 101 j3), .int (hi1 102 j4), .int 0, rx_no] [] (rx_hp L t (rx_u (rx_u (rx_u (rx_u hi1 104 j132 (vp_nar .boolean 0)) 101 j133 (hi1 101 j3)) 102 j134 (hi1 102 j4)) 103 j135 (hi1 103 j2)) hl1 v1) Q
            exact rx_aw_ret (pc := 270) rfl k
          · have k := k.2 c131
            show rx_aw 193 171 [.ref 90, .int a0, .int a1, .int ((402 * a0) + a1), .int z1, .int (hi1 103 j2), .int (hi1 101 j3), .int (hi1 102 j4), .int 0, rx_no] [] (rx_hp L t hi1 hl1 v1) Q
            refine rx_aw_s 8 (pc := 171) rfl ?_
            show rx_aw 193 239 [.ref 90, .int a0, .int a1, .int ((402 * a0) + a1), .int z1, .int (-1), .int (hi1 101 j3), .int (hi1 102 j4), .int 0, rx_no] [.int 0, .int ((402 * a0) + a1), .ref 104] (rx_hp L t hi1 hl1 v1) Q
            obtain ⟨j136, ej136, hj136, k⟩ := k
            refine rx_aw_zast (pc := 239) (n := 2412) j136 ej136 rfl rfl (by decide) rfl hj136 (by decide) ?_
            show rx_aw 193 240 [.ref 90, .int a0, .int a1, .int ((402 * a0) + a1), .int z1, .int (-1), .int (hi1 101 j3), .int (hi1 102 j4), .int 0, rx_no] [] (rx_hp L t (rx_u hi1 104 j136 (vp_nar .boolean 0)) hl1 v1) Q
            refine rx_aw_s 6 (pc := 240) rfl ?_
            show rx_aw 193 249 [.ref 90, .int a0, .int a1, .int ((402 * a0) + a1), .int z1, .int (-1), .int (hi1 101 j3), .int (hi1 102 j4), .int 0, rx_no] [.int (hi1 101 j3), .int (((402 * a0) + a1) + 1), .ref 101] (rx_hp L t (rx_u hi1 104 j136 (vp_nar .boolean 0)) hl1 v1) Q
            obtain ⟨j137, ej137, hj137, k⟩ := k
            refine rx_aw_iast (pc := 249) (n := 2412) j137 ej137 rfl rfl (by decide) rfl hj137 (by decide) ?_
            show rx_aw 193 250 [.ref 90, .int a0, .int a1, .int ((402 * a0) + a1), .int z1, .int (-1), .int (hi1 101 j3), .int (hi1 102 j4), .int 0, rx_no] [] (rx_hp L t (rx_u (rx_u hi1 104 j136 (vp_nar .boolean 0)) 101 j137 (hi1 101 j3)) hl1 v1) Q
            refine rx_aw_s 6 (pc := 250) rfl ?_
            show rx_aw 193 259 [.ref 90, .int a0, .int a1, .int ((402 * a0) + a1), .int z1, .int (-1), .int (hi1 101 j3), .int (hi1 102 j4), .int 0, rx_no] [.int (hi1 102 j4), .int (((402 * a0) + a1) + 1), .ref 102] (rx_hp L t (rx_u (rx_u hi1 104 j136 (vp_nar .boolean 0)) 101 j137 (hi1 101 j3)) hl1 v1) Q
            obtain ⟨j138, ej138, hj138, k⟩ := k
            refine rx_aw_iast (pc := 259) (n := 2412) j138 ej138 rfl rfl (by decide) rfl hj138 (by decide) ?_
            show rx_aw 193 260 [.ref 90, .int a0, .int a1, .int ((402 * a0) + a1), .int z1, .int (-1), .int (hi1 101 j3), .int (hi1 102 j4), .int 0, rx_no] [] (rx_hp L t (rx_u (rx_u (rx_u hi1 104 j136 (vp_nar .boolean 0)) 101 j137 (hi1 101 j3)) 102 j138 (hi1 102 j4)) hl1 v1) Q
            refine rx_aw_s 6 (pc := 260) rfl ?_
            show rx_aw 193 269 [.ref 90, .int a0, .int a1, .int ((402 * a0) + a1), .int z1, .int (-1), .int (hi1 101 j3), .int (hi1 102 j4), .int 0, rx_no] [.int (-1), .int (((402 * a0) + a1) + 1), .ref 103] (rx_hp L t (rx_u (rx_u (rx_u hi1 104 j136 (vp_nar .boolean 0)) 101 j137 (hi1 101 j3)) 102 j138 (hi1 102 j4)) hl1 v1) Q
            obtain ⟨j139, ej139, hj139, k⟩ := k
            refine rx_aw_iast (pc := 269) (n := 2412) j139 ej139 rfl rfl (by decide) rfl hj139 (by decide) ?_
            show rx_aw 193 270 [.ref 90, .int a0, .int a1, .int ((402 * a0) + a1), .int z1, .int (-1), .int (hi1 101 j3), .int (hi1 102 j4), .int 0, rx_no] [] (rx_hp L t (rx_u (rx_u (rx_u (rx_u hi1 104 j136 (vp_nar .boolean 0)) 101 j137 (hi1 101 j3)) 102 j138 (hi1 102 j4)) 103 j139 (-1)) hl1 v1) Q
            exact rx_aw_ret (pc := 270) rfl k
        · have k := k.2 c130
          show rx_aw 193 148 [.ref 90, .int a0, .int a1, .int ((402 * a0) + a1), .int z1, .int (hi1 103 j2), .int (hi1 101 j3), .int (hi1 102 j4), .int 1, rx_no] [] (rx_hp L t hi1 hl1 v1) Q
          refine rx_aw_s 3 (pc := 148) rfl ?_
          show rx_aw 193 154 [.ref 90, .int a0, .int a1, .int ((402 * a0) + a1), .int z1, .int (hi1 103 j2), .int (hi1 101 j3), .int (hi1 102 j4), .int 1, rx_no] [.int (hi1 101 j3), .ref 91] (rx_hp L t hi1 hl1 v1) Q
          obtain ⟨j140, ej140, hj140, k⟩ := k
          refine rx_aw_iald (pc := 154) (n := 64) j140 ej140 rfl rfl rfl hj140 (by decide) ?_
          show rx_aw 193 155 [.ref 90, .int a0, .int a1, .int ((402 * a0) + a1), .int z1, .int (hi1 103 j2), .int (hi1 101 j3), .int (hi1 102 j4), .int 1, rx_no] [.int (hi1 91 j140)] (rx_hp L t hi1 hl1 v1) Q
          refine rx_aw_s 2 (pc := 155) rfl ?_
          refine rx_w_ifn (c := (hi1 91 j140) = 2) ⟨fun c141 => ?_, fun c141 => ?_⟩
          · have k := k.1 c141
            show rx_aw 193 159 [.ref 90, .int a0, .int a1, .int ((402 * a0) + a1), .int z1, .int (hi1 103 j2), .int (hi1 101 j3), .int (hi1 102 j4), .int 1, rx_no] [] (rx_hp L t hi1 hl1 v1) Q
            refine rx_aw_s 5 (pc := 159) rfl ?_
            refine rx_w_if (c := 1 = 0) ⟨fun c142 => ?_, fun c142 => ?_⟩
            · have k := k.1 c142
              show rx_aw 193 175 [.ref 90, .int a0, .int a1, .int ((402 * a0) + a1), .int z1, .int (hi1 103 j2), .int (hi1 101 j3), .int (hi1 102 j4), .int 1, rx_no] [] (rx_hp L t hi1 hl1 v1) Q
              refine rx_aw_s 7 (pc := 175) rfl ?_
              show rx_aw 193 239 [.ref 90, .int a0, .int a1, .int ((402 * a0) + a1), .int z1, .int (hi1 103 j2), .int (hi1 101 j3), .int (hi1 102 j4), .int 1, rx_no] [.int 1, .int ((402 * a0) + a1), .ref 104] (rx_hp L t hi1 hl1 v1) Q
              obtain ⟨j143, ej143, hj143, k⟩ := k
              refine rx_aw_zast (pc := 239) (n := 2412) j143 ej143 rfl rfl (by decide) rfl hj143 (by decide) ?_
              show rx_aw 193 240 [.ref 90, .int a0, .int a1, .int ((402 * a0) + a1), .int z1, .int (hi1 103 j2), .int (hi1 101 j3), .int (hi1 102 j4), .int 1, rx_no] [] (rx_hp L t (rx_u hi1 104 j143 (vp_nar .boolean 1)) hl1 v1) Q
              refine rx_aw_s 6 (pc := 240) rfl ?_
              show rx_aw 193 249 [.ref 90, .int a0, .int a1, .int ((402 * a0) + a1), .int z1, .int (hi1 103 j2), .int (hi1 101 j3), .int (hi1 102 j4), .int 1, rx_no] [.int (hi1 101 j3), .int (((402 * a0) + a1) + 1), .ref 101] (rx_hp L t (rx_u hi1 104 j143 (vp_nar .boolean 1)) hl1 v1) Q
              obtain ⟨j144, ej144, hj144, k⟩ := k
              refine rx_aw_iast (pc := 249) (n := 2412) j144 ej144 rfl rfl (by decide) rfl hj144 (by decide) ?_
              show rx_aw 193 250 [.ref 90, .int a0, .int a1, .int ((402 * a0) + a1), .int z1, .int (hi1 103 j2), .int (hi1 101 j3), .int (hi1 102 j4), .int 1, rx_no] [] (rx_hp L t (rx_u (rx_u hi1 104 j143 (vp_nar .boolean 1)) 101 j144 (hi1 101 j3)) hl1 v1) Q
              refine rx_aw_s 6 (pc := 250) rfl ?_
              show rx_aw 193 259 [.ref 90, .int a0, .int a1, .int ((402 * a0) + a1), .int z1, .int (hi1 103 j2), .int (hi1 101 j3), .int (hi1 102 j4), .int 1, rx_no] [.int (hi1 102 j4), .int (((402 * a0) + a1) + 1), .ref 102] (rx_hp L t (rx_u (rx_u hi1 104 j143 (vp_nar .boolean 1)) 101 j144 (hi1 101 j3)) hl1 v1) Q
              obtain ⟨j145, ej145, hj145, k⟩ := k
              refine rx_aw_iast (pc := 259) (n := 2412) j145 ej145 rfl rfl (by decide) rfl hj145 (by decide) ?_
              show rx_aw 193 260 [.ref 90, .int a0, .int a1, .int ((402 * a0) + a1), .int z1, .int (hi1 103 j2), .int (hi1 101 j3), .int (hi1 102 j4), .int 1, rx_no] [] (rx_hp L t (rx_u (rx_u (rx_u hi1 104 j143 (vp_nar .boolean 1)) 101 j144 (hi1 101 j3)) 102 j145 (hi1 102 j4)) hl1 v1) Q
              refine rx_aw_s 6 (pc := 260) rfl ?_
              show rx_aw 193 269 [.ref 90, .int a0, .int a1, .int ((402 * a0) + a1), .int z1, .int (hi1 103 j2), .int (hi1 101 j3), .int (hi1 102 j4), .int 1, rx_no] [.int (hi1 103 j2), .int (((402 * a0) + a1) + 1), .ref 103] (rx_hp L t (rx_u (rx_u (rx_u hi1 104 j143 (vp_nar .boolean 1)) 101 j144 (hi1 101 j3)) 102 j145 (hi1 102 j4)) hl1 v1) Q
              obtain ⟨j146, ej146, hj146, k⟩ := k
              refine rx_aw_iast (pc := 269) (n := 2412) j146 ej146 rfl rfl (by decide) rfl hj146 (by decide) ?_
              show rx_aw 193 270 [.ref 90, .int a0, .int a1, .int ((402 * a0) + a1), .int z1, .int (hi1 103 j2), .int (hi1 101 j3), .int (hi1 102 j4), .int 1, rx_no] [] (rx_hp L t (rx_u (rx_u (rx_u (rx_u hi1 104 j143 (vp_nar .boolean 1)) 101 j144 (hi1 101 j3)) 102 j145 (hi1 102 j4)) 103 j146 (hi1 103 j2)) hl1 v1) Q
              exact rx_aw_ret (pc := 270) rfl k
            · have k := k.2 c142
              show rx_aw 193 171 [.ref 90, .int a0, .int a1, .int ((402 * a0) + a1), .int z1, .int (hi1 103 j2), .int (hi1 101 j3), .int (hi1 102 j4), .int 1, rx_no] [] (rx_hp L t hi1 hl1 v1) Q
              refine rx_aw_s 8 (pc := 171) rfl ?_
              show rx_aw 193 239 [.ref 90, .int a0, .int a1, .int ((402 * a0) + a1), .int z1, .int (-1), .int (hi1 101 j3), .int (hi1 102 j4), .int 1, rx_no] [.int 1, .int ((402 * a0) + a1), .ref 104] (rx_hp L t hi1 hl1 v1) Q
              obtain ⟨j147, ej147, hj147, k⟩ := k
              refine rx_aw_zast (pc := 239) (n := 2412) j147 ej147 rfl rfl (by decide) rfl hj147 (by decide) ?_
              show rx_aw 193 240 [.ref 90, .int a0, .int a1, .int ((402 * a0) + a1), .int z1, .int (-1), .int (hi1 101 j3), .int (hi1 102 j4), .int 1, rx_no] [] (rx_hp L t (rx_u hi1 104 j147 (vp_nar .boolean 1)) hl1 v1) Q
              refine rx_aw_s 6 (pc := 240) rfl ?_
              show rx_aw 193 249 [.ref 90, .int a0, .int a1, .int ((402 * a0) + a1), .int z1, .int (-1), .int (hi1 101 j3), .int (hi1 102 j4), .int 1, rx_no] [.int (hi1 101 j3), .int (((402 * a0) + a1) + 1), .ref 101] (rx_hp L t (rx_u hi1 104 j147 (vp_nar .boolean 1)) hl1 v1) Q
              obtain ⟨j148, ej148, hj148, k⟩ := k
              refine rx_aw_iast (pc := 249) (n := 2412) j148 ej148 rfl rfl (by decide) rfl hj148 (by decide) ?_
              show rx_aw 193 250 [.ref 90, .int a0, .int a1, .int ((402 * a0) + a1), .int z1, .int (-1), .int (hi1 101 j3), .int (hi1 102 j4), .int 1, rx_no] [] (rx_hp L t (rx_u (rx_u hi1 104 j147 (vp_nar .boolean 1)) 101 j148 (hi1 101 j3)) hl1 v1) Q
              refine rx_aw_s 6 (pc := 250) rfl ?_
              show rx_aw 193 259 [.ref 90, .int a0, .int a1, .int ((402 * a0) + a1), .int z1, .int (-1), .int (hi1 101 j3), .int (hi1 102 j4), .int 1, rx_no] [.int (hi1 102 j4), .int (((402 * a0) + a1) + 1), .ref 102] (rx_hp L t (rx_u (rx_u hi1 104 j147 (vp_nar .boolean 1)) 101 j148 (hi1 101 j3)) hl1 v1) Q
              obtain ⟨j149, ej149, hj149, k⟩ := k
              refine rx_aw_iast (pc := 259) (n := 2412) j149 ej149 rfl rfl (by decide) rfl hj149 (by decide) ?_
              show rx_aw 193 260 [.ref 90, .int a0, .int a1, .int ((402 * a0) + a1), .int z1, .int (-1), .int (hi1 101 j3), .int (hi1 102 j4), .int 1, rx_no] [] (rx_hp L t (rx_u (rx_u (rx_u hi1 104 j147 (vp_nar .boolean 1)) 101 j148 (hi1 101 j3)) 102 j149 (hi1 102 j4)) hl1 v1) Q
              refine rx_aw_s 6 (pc := 260) rfl ?_
              show rx_aw 193 269 [.ref 90, .int a0, .int a1, .int ((402 * a0) + a1), .int z1, .int (-1), .int (hi1 101 j3), .int (hi1 102 j4), .int 1, rx_no] [.int (-1), .int (((402 * a0) + a1) + 1), .ref 103] (rx_hp L t (rx_u (rx_u (rx_u hi1 104 j147 (vp_nar .boolean 1)) 101 j148 (hi1 101 j3)) 102 j149 (hi1 102 j4)) hl1 v1) Q
              obtain ⟨j150, ej150, hj150, k⟩ := k
              refine rx_aw_iast (pc := 269) (n := 2412) j150 ej150 rfl rfl (by decide) rfl hj150 (by decide) ?_
              show rx_aw 193 270 [.ref 90, .int a0, .int a1, .int ((402 * a0) + a1), .int z1, .int (-1), .int (hi1 101 j3), .int (hi1 102 j4), .int 1, rx_no] [] (rx_hp L t (rx_u (rx_u (rx_u (rx_u hi1 104 j147 (vp_nar .boolean 1)) 101 j148 (hi1 101 j3)) 102 j149 (hi1 102 j4)) 103 j150 (-1)) hl1 v1) Q
              exact rx_aw_ret (pc := 270) rfl k
          · have k := k.2 c141
            show rx_aw 193 163 [.ref 90, .int a0, .int a1, .int ((402 * a0) + a1), .int z1, .int (hi1 103 j2), .int (hi1 101 j3), .int (hi1 102 j4), .int 1, rx_no] [] (rx_hp L t hi1 hl1 v1) Q
            refine rx_aw_s 4 (pc := 163) rfl ?_
            refine rx_w_if (c := 0 = 0) ⟨fun c151 => ?_, fun c151 => ?_⟩
            · have k := k.1 c151
              show rx_aw 193 175 [.ref 90, .int a0, .int a1, .int ((402 * a0) + a1), .int z1, .int (hi1 103 j2), .int (hi1 101 j3), .int (hi1 102 j4), .int 0, rx_no] [] (rx_hp L t hi1 hl1 v1) Q
              refine rx_aw_s 7 (pc := 175) rfl ?_
              show rx_aw 193 239 [.ref 90, .int a0, .int a1, .int ((402 * a0) + a1), .int z1, .int (hi1 103 j2), .int (hi1 101 j3), .int (hi1 102 j4), .int 0, rx_no] [.int 0, .int ((402 * a0) + a1), .ref 104] (rx_hp L t hi1 hl1 v1) Q
              obtain ⟨j152, ej152, hj152, k⟩ := k
              refine rx_aw_zast (pc := 239) (n := 2412) j152 ej152 rfl rfl (by decide) rfl hj152 (by decide) ?_
              show rx_aw 193 240 [.ref 90, .int a0, .int a1, .int ((402 * a0) + a1), .int z1, .int (hi1 103 j2), .int (hi1 101 j3), .int (hi1 102 j4), .int 0, rx_no] [] (rx_hp L t (rx_u hi1 104 j152 (vp_nar .boolean 0)) hl1 v1) Q
              refine rx_aw_s 6 (pc := 240) rfl ?_
              show rx_aw 193 249 [.ref 90, .int a0, .int a1, .int ((402 * a0) + a1), .int z1, .int (hi1 103 j2), .int (hi1 101 j3), .int (hi1 102 j4), .int 0, rx_no] [.int (hi1 101 j3), .int (((402 * a0) + a1) + 1), .ref 101] (rx_hp L t (rx_u hi1 104 j152 (vp_nar .boolean 0)) hl1 v1) Q
              obtain ⟨j153, ej153, hj153, k⟩ := k
              refine rx_aw_iast (pc := 249) (n := 2412) j153 ej153 rfl rfl (by decide) rfl hj153 (by decide) ?_
              show rx_aw 193 250 [.ref 90, .int a0, .int a1, .int ((402 * a0) + a1), .int z1, .int (hi1 103 j2), .int (hi1 101 j3), .int (hi1 102 j4), .int 0, rx_no] [] (rx_hp L t (rx_u (rx_u hi1 104 j152 (vp_nar .boolean 0)) 101 j153 (hi1 101 j3)) hl1 v1) Q
              refine rx_aw_s 6 (pc := 250) rfl ?_
              show rx_aw 193 259 [.ref 90, .int a0, .int a1, .int ((402 * a0) + a1), .int z1, .int (hi1 103 j2), .int (hi1 101 j3), .int (hi1 102 j4), .int 0, rx_no] [.int (hi1 102 j4), .int (((402 * a0) + a1) + 1), .ref 102] (rx_hp L t (rx_u (rx_u hi1 104 j152 (vp_nar .boolean 0)) 101 j153 (hi1 101 j3)) hl1 v1) Q
              obtain ⟨j154, ej154, hj154, k⟩ := k
              refine rx_aw_iast (pc := 259) (n := 2412) j154 ej154 rfl rfl (by decide) rfl hj154 (by decide) ?_
              show rx_aw 193 260 [.ref 90, .int a0, .int a1, .int ((402 * a0) + a1), .int z1, .int (hi1 103 j2), .int (hi1 101 j3), .int (hi1 102 j4), .int 0, rx_no] [] (rx_hp L t (rx_u (rx_u (rx_u hi1 104 j152 (vp_nar .boolean 0)) 101 j153 (hi1 101 j3)) 102 j154 (hi1 102 j4)) hl1 v1) Q
              refine rx_aw_s 6 (pc := 260) rfl ?_
              show rx_aw 193 269 [.ref 90, .int a0, .int a1, .int ((402 * a0) + a1), .int z1, .int (hi1 103 j2), .int (hi1 101 j3), .int (hi1 102 j4), .int 0, rx_no] [.int (hi1 103 j2), .int (((402 * a0) + a1) + 1), .ref 103] (rx_hp L t (rx_u (rx_u (rx_u hi1 104 j152 (vp_nar .boolean 0)) 101 j153 (hi1 101 j3)) 102 j154 (hi1 102 j4)) hl1 v1) Q
              obtain ⟨j155, ej155, hj155, k⟩ := k
              refine rx_aw_iast (pc := 269) (n := 2412) j155 ej155 rfl rfl (by decide) rfl hj155 (by decide) ?_
              show rx_aw 193 270 [.ref 90, .int a0, .int a1, .int ((402 * a0) + a1), .int z1, .int (hi1 103 j2), .int (hi1 101 j3), .int (hi1 102 j4), .int 0, rx_no] [] (rx_hp L t (rx_u (rx_u (rx_u (rx_u hi1 104 j152 (vp_nar .boolean 0)) 101 j153 (hi1 101 j3)) 102 j154 (hi1 102 j4)) 103 j155 (hi1 103 j2)) hl1 v1) Q
              exact rx_aw_ret (pc := 270) rfl k
            · have k := k.2 c151
              show rx_aw 193 171 [.ref 90, .int a0, .int a1, .int ((402 * a0) + a1), .int z1, .int (hi1 103 j2), .int (hi1 101 j3), .int (hi1 102 j4), .int 0, rx_no] [] (rx_hp L t hi1 hl1 v1) Q
              refine rx_aw_s 8 (pc := 171) rfl ?_
              show rx_aw 193 239 [.ref 90, .int a0, .int a1, .int ((402 * a0) + a1), .int z1, .int (-1), .int (hi1 101 j3), .int (hi1 102 j4), .int 0, rx_no] [.int 0, .int ((402 * a0) + a1), .ref 104] (rx_hp L t hi1 hl1 v1) Q
              obtain ⟨j156, ej156, hj156, k⟩ := k
              refine rx_aw_zast (pc := 239) (n := 2412) j156 ej156 rfl rfl (by decide) rfl hj156 (by decide) ?_
              show rx_aw 193 240 [.ref 90, .int a0, .int a1, .int ((402 * a0) + a1), .int z1, .int (-1), .int (hi1 101 j3), .int (hi1 102 j4), .int 0, rx_no] [] (rx_hp L t (rx_u hi1 104 j156 (vp_nar .boolean 0)) hl1 v1) Q
              refine rx_aw_s 6 (pc := 240) rfl ?_
              show rx_aw 193 249 [.ref 90, .int a0, .int a1, .int ((402 * a0) + a1), .int z1, .int (-1), .int (hi1 101 j3), .int (hi1 102 j4), .int 0, rx_no] [.int (hi1 101 j3), .int (((402 * a0) + a1) + 1), .ref 101] (rx_hp L t (rx_u hi1 104 j156 (vp_nar .boolean 0)) hl1 v1) Q
              obtain ⟨j157, ej157, hj157, k⟩ := k
              refine rx_aw_iast (pc := 249) (n := 2412) j157 ej157 rfl rfl (by decide) rfl hj157 (by decide) ?_
              show rx_aw 193 250 [.ref 90, .int a0, .int a1, .int ((402 * a0) + a1), .int z1, .int (-1), .int (hi1 101 j3), .int (hi1 102 j4), .int 0, rx_no] [] (rx_hp L t (rx_u (rx_u hi1 104 j156 (vp_nar .boolean 0)) 101 j157 (hi1 101 j3)) hl1 v1) Q
              refine rx_aw_s 6 (pc := 250) rfl ?_
              show rx_aw 193 259 [.ref 90, .int a0, .int a1, .int ((402 * a0) + a1), .int z1, .int (-1), .int (hi1 101 j3), .int (hi1 102 j4), .int 0, rx_no] [.int (hi1 102 j4), .int (((402 * a0) + a1) + 1), .ref 102] (rx_hp L t (rx_u (rx_u hi1 104 j156 (vp_nar .boolean 0)) 101 j157 (hi1 101 j3)) hl1 v1) Q
              obtain ⟨j158, ej158, hj158, k⟩ := k
              refine rx_aw_iast (pc := 259) (n := 2412) j158 ej158 rfl rfl (by decide) rfl hj158 (by decide) ?_
              show rx_aw 193 260 [.ref 90, .int a0, .int a1, .int ((402 * a0) + a1), .int z1, .int (-1), .int (hi1 101 j3), .int (hi1 102 j4), .int 0, rx_no] [] (rx_hp L t (rx_u (rx_u (rx_u hi1 104 j156 (vp_nar .boolean 0)) 101 j157 (hi1 101 j3)) 102 j158 (hi1 102 j4)) hl1 v1) Q
              refine rx_aw_s 6 (pc := 260) rfl ?_
              show rx_aw 193 269 [.ref 90, .int a0, .int a1, .int ((402 * a0) + a1), .int z1, .int (-1), .int (hi1 101 j3), .int (hi1 102 j4), .int 0, rx_no] [.int (-1), .int (((402 * a0) + a1) + 1), .ref 103] (rx_hp L t (rx_u (rx_u (rx_u hi1 104 j156 (vp_nar .boolean 0)) 101 j157 (hi1 101 j3)) 102 j158 (hi1 102 j4)) hl1 v1) Q
              obtain ⟨j159, ej159, hj159, k⟩ := k
              refine rx_aw_iast (pc := 269) (n := 2412) j159 ej159 rfl rfl (by decide) rfl hj159 (by decide) ?_
              show rx_aw 193 270 [.ref 90, .int a0, .int a1, .int ((402 * a0) + a1), .int z1, .int (-1), .int (hi1 101 j3), .int (hi1 102 j4), .int 0, rx_no] [] (rx_hp L t (rx_u (rx_u (rx_u (rx_u hi1 104 j156 (vp_nar .boolean 0)) 101 j157 (hi1 101 j3)) 102 j158 (hi1 102 j4)) 103 j159 (-1)) hl1 v1) Q
              exact rx_aw_ret (pc := 270) rfl k
      · have k := k.2 c129
        show rx_aw 193 163 [.ref 90, .int a0, .int a1, .int ((402 * a0) + a1), .int z1, .int (hi1 103 j2), .int (hi1 101 j3), .int (hi1 102 j4), .int 1, rx_no] [] (rx_hp L t hi1 hl1 v1) Q
        refine rx_aw_s 4 (pc := 163) rfl ?_
        refine rx_w_if (c := 0 = 0) ⟨fun c160 => ?_, fun c160 => ?_⟩
        · have k := k.1 c160
          show rx_aw 193 175 [.ref 90, .int a0, .int a1, .int ((402 * a0) + a1), .int z1, .int (hi1 103 j2), .int (hi1 101 j3), .int (hi1 102 j4), .int 0, rx_no] [] (rx_hp L t hi1 hl1 v1) Q
          refine rx_aw_s 7 (pc := 175) rfl ?_
          show rx_aw 193 239 [.ref 90, .int a0, .int a1, .int ((402 * a0) + a1), .int z1, .int (hi1 103 j2), .int (hi1 101 j3), .int (hi1 102 j4), .int 0, rx_no] [.int 0, .int ((402 * a0) + a1), .ref 104] (rx_hp L t hi1 hl1 v1) Q
          obtain ⟨j161, ej161, hj161, k⟩ := k
          refine rx_aw_zast (pc := 239) (n := 2412) j161 ej161 rfl rfl (by decide) rfl hj161 (by decide) ?_
          show rx_aw 193 240 [.ref 90, .int a0, .int a1, .int ((402 * a0) + a1), .int z1, .int (hi1 103 j2), .int (hi1 101 j3), .int (hi1 102 j4), .int 0, rx_no] [] (rx_hp L t (rx_u hi1 104 j161 (vp_nar .boolean 0)) hl1 v1) Q
          refine rx_aw_s 6 (pc := 240) rfl ?_
          show rx_aw 193 249 [.ref 90, .int a0, .int a1, .int ((402 * a0) + a1), .int z1, .int (hi1 103 j2), .int (hi1 101 j3), .int (hi1 102 j4), .int 0, rx_no] [.int (hi1 101 j3), .int (((402 * a0) + a1) + 1), .ref 101] (rx_hp L t (rx_u hi1 104 j161 (vp_nar .boolean 0)) hl1 v1) Q
          obtain ⟨j162, ej162, hj162, k⟩ := k
          refine rx_aw_iast (pc := 249) (n := 2412) j162 ej162 rfl rfl (by decide) rfl hj162 (by decide) ?_
          show rx_aw 193 250 [.ref 90, .int a0, .int a1, .int ((402 * a0) + a1), .int z1, .int (hi1 103 j2), .int (hi1 101 j3), .int (hi1 102 j4), .int 0, rx_no] [] (rx_hp L t (rx_u (rx_u hi1 104 j161 (vp_nar .boolean 0)) 101 j162 (hi1 101 j3)) hl1 v1) Q
          refine rx_aw_s 6 (pc := 250) rfl ?_
          show rx_aw 193 259 [.ref 90, .int a0, .int a1, .int ((402 * a0) + a1), .int z1, .int (hi1 103 j2), .int (hi1 101 j3), .int (hi1 102 j4), .int 0, rx_no] [.int (hi1 102 j4), .int (((402 * a0) + a1) + 1), .ref 102] (rx_hp L t (rx_u (rx_u hi1 104 j161 (vp_nar .boolean 0)) 101 j162 (hi1 101 j3)) hl1 v1) Q
          obtain ⟨j163, ej163, hj163, k⟩ := k
          refine rx_aw_iast (pc := 259) (n := 2412) j163 ej163 rfl rfl (by decide) rfl hj163 (by decide) ?_
          show rx_aw 193 260 [.ref 90, .int a0, .int a1, .int ((402 * a0) + a1), .int z1, .int (hi1 103 j2), .int (hi1 101 j3), .int (hi1 102 j4), .int 0, rx_no] [] (rx_hp L t (rx_u (rx_u (rx_u hi1 104 j161 (vp_nar .boolean 0)) 101 j162 (hi1 101 j3)) 102 j163 (hi1 102 j4)) hl1 v1) Q
          refine rx_aw_s 6 (pc := 260) rfl ?_
          show rx_aw 193 269 [.ref 90, .int a0, .int a1, .int ((402 * a0) + a1), .int z1, .int (hi1 103 j2), .int (hi1 101 j3), .int (hi1 102 j4), .int 0, rx_no] [.int (hi1 103 j2), .int (((402 * a0) + a1) + 1), .ref 103] (rx_hp L t (rx_u (rx_u (rx_u hi1 104 j161 (vp_nar .boolean 0)) 101 j162 (hi1 101 j3)) 102 j163 (hi1 102 j4)) hl1 v1) Q
          obtain ⟨j164, ej164, hj164, k⟩ := k
          refine rx_aw_iast (pc := 269) (n := 2412) j164 ej164 rfl rfl (by decide) rfl hj164 (by decide) ?_
          show rx_aw 193 270 [.ref 90, .int a0, .int a1, .int ((402 * a0) + a1), .int z1, .int (hi1 103 j2), .int (hi1 101 j3), .int (hi1 102 j4), .int 0, rx_no] [] (rx_hp L t (rx_u (rx_u (rx_u (rx_u hi1 104 j161 (vp_nar .boolean 0)) 101 j162 (hi1 101 j3)) 102 j163 (hi1 102 j4)) 103 j164 (hi1 103 j2)) hl1 v1) Q
          exact rx_aw_ret (pc := 270) rfl k
        · have k := k.2 c160
          show rx_aw 193 171 [.ref 90, .int a0, .int a1, .int ((402 * a0) + a1), .int z1, .int (hi1 103 j2), .int (hi1 101 j3), .int (hi1 102 j4), .int 0, rx_no] [] (rx_hp L t hi1 hl1 v1) Q
          refine rx_aw_s 8 (pc := 171) rfl ?_
          show rx_aw 193 239 [.ref 90, .int a0, .int a1, .int ((402 * a0) + a1), .int z1, .int (-1), .int (hi1 101 j3), .int (hi1 102 j4), .int 0, rx_no] [.int 0, .int ((402 * a0) + a1), .ref 104] (rx_hp L t hi1 hl1 v1) Q
          obtain ⟨j165, ej165, hj165, k⟩ := k
          refine rx_aw_zast (pc := 239) (n := 2412) j165 ej165 rfl rfl (by decide) rfl hj165 (by decide) ?_
          show rx_aw 193 240 [.ref 90, .int a0, .int a1, .int ((402 * a0) + a1), .int z1, .int (-1), .int (hi1 101 j3), .int (hi1 102 j4), .int 0, rx_no] [] (rx_hp L t (rx_u hi1 104 j165 (vp_nar .boolean 0)) hl1 v1) Q
          refine rx_aw_s 6 (pc := 240) rfl ?_
          show rx_aw 193 249 [.ref 90, .int a0, .int a1, .int ((402 * a0) + a1), .int z1, .int (-1), .int (hi1 101 j3), .int (hi1 102 j4), .int 0, rx_no] [.int (hi1 101 j3), .int (((402 * a0) + a1) + 1), .ref 101] (rx_hp L t (rx_u hi1 104 j165 (vp_nar .boolean 0)) hl1 v1) Q
          obtain ⟨j166, ej166, hj166, k⟩ := k
          refine rx_aw_iast (pc := 249) (n := 2412) j166 ej166 rfl rfl (by decide) rfl hj166 (by decide) ?_
          show rx_aw 193 250 [.ref 90, .int a0, .int a1, .int ((402 * a0) + a1), .int z1, .int (-1), .int (hi1 101 j3), .int (hi1 102 j4), .int 0, rx_no] [] (rx_hp L t (rx_u (rx_u hi1 104 j165 (vp_nar .boolean 0)) 101 j166 (hi1 101 j3)) hl1 v1) Q
          refine rx_aw_s 6 (pc := 250) rfl ?_
          show rx_aw 193 259 [.ref 90, .int a0, .int a1, .int ((402 * a0) + a1), .int z1, .int (-1), .int (hi1 101 j3), .int (hi1 102 j4), .int 0, rx_no] [.int (hi1 102 j4), .int (((402 * a0) + a1) + 1), .ref 102] (rx_hp L t (rx_u (rx_u hi1 104 j165 (vp_nar .boolean 0)) 101 j166 (hi1 101 j3)) hl1 v1) Q
          obtain ⟨j167, ej167, hj167, k⟩ := k
          refine rx_aw_iast (pc := 259) (n := 2412) j167 ej167 rfl rfl (by decide) rfl hj167 (by decide) ?_
          show rx_aw 193 260 [.ref 90, .int a0, .int a1, .int ((402 * a0) + a1), .int z1, .int (-1), .int (hi1 101 j3), .int (hi1 102 j4), .int 0, rx_no] [] (rx_hp L t (rx_u (rx_u (rx_u hi1 104 j165 (vp_nar .boolean 0)) 101 j166 (hi1 101 j3)) 102 j167 (hi1 102 j4)) hl1 v1) Q
          refine rx_aw_s 6 (pc := 260) rfl ?_
          show rx_aw 193 269 [.ref 90, .int a0, .int a1, .int ((402 * a0) + a1), .int z1, .int (-1), .int (hi1 101 j3), .int (hi1 102 j4), .int 0, rx_no] [.int (-1), .int (((402 * a0) + a1) + 1), .ref 103] (rx_hp L t (rx_u (rx_u (rx_u hi1 104 j165 (vp_nar .boolean 0)) 101 j166 (hi1 101 j3)) 102 j167 (hi1 102 j4)) hl1 v1) Q
          obtain ⟨j168, ej168, hj168, k⟩ := k
          refine rx_aw_iast (pc := 269) (n := 2412) j168 ej168 rfl rfl (by decide) rfl hj168 (by decide) ?_
          show rx_aw 193 270 [.ref 90, .int a0, .int a1, .int ((402 * a0) + a1), .int z1, .int (-1), .int (hi1 101 j3), .int (hi1 102 j4), .int 0, rx_no] [] (rx_hp L t (rx_u (rx_u (rx_u (rx_u hi1 104 j165 (vp_nar .boolean 0)) 101 j166 (hi1 101 j3)) 102 j167 (hi1 102 j4)) 103 j168 (-1)) hl1 v1) Q
          exact rx_aw_ret (pc := 270) rfl k
    · have k := k.2 c127
      show rx_aw 193 182 [.ref 90, .int a0, .int a1, .int ((402 * a0) + a1), .int z1, .int (hi1 103 j2), .int (hi1 101 j3), .int (hi1 102 j4), .int 1, rx_no] [] (rx_hp L t hi1 hl1 v1) Q
      refine rx_aw_s 4 (pc := 182) rfl ?_
      show rx_aw 193 188 [.ref 90, .int a0, .int a1, .int ((402 * a0) + a1), .int z1, .int (hi1 103 j2), .int (hi1 101 j3), .int (hi1 102 j4), .int 1, rx_no] [.int a0, .ref 93, .ref 90] (rx_hp L t hi1 hl1 v1) Q
      obtain ⟨j169, ej169, hj169, k⟩ := k
      refine rx_aw_iald (pc := 188) (n := 6) j169 ej169 rfl rfl rfl hj169 (by decide) ?_
      show rx_aw 193 189 [.ref 90, .int a0, .int a1, .int ((402 * a0) + a1), .int z1, .int (hi1 103 j2), .int (hi1 101 j3), .int (hi1 102 j4), .int 1, rx_no] [.int (hi1 93 j169), .ref 90] (rx_hp L t hi1 hl1 v1) Q
      refine rx_aw_s 3 (pc := 189) rfl ?_
      show rx_aw 193 195 [.ref 90, .int a0, .int a1, .int ((402 * a0) + a1), .int z1, .int (hi1 103 j2), .int (hi1 101 j3), .int (hi1 102 j4), .int 1, rx_no] [.int z1, .int (hi1 102 j4), .int (hi1 101 j3), .int (hi1 93 j169), .ref 90] (rx_hp L t hi1 hl1 v1) Q
      refine rx_w_callI (j := 184) (pc := 195) rfl rfl rfl rfl rfl ?_
      refine rx_aw.mono k (fun r h2 k => ?_)
      obtain ⟨z170, rfl, hi170, hl170, v170, rfl, k⟩ := k
      refine ⟨z170, rfl, ?_⟩
      show rx_aw 193 198 [.ref 90, .int a0, .int a1, .int ((402 * a0) + a1), .int z1, .int (hi1 103 j2), .int (hi1 101 j3), .int (hi1 102 j4), .int 1, rx_no] [.int z170] (rx_hp L t hi170 hl170 v170) Q
      refine rx_aw_s 3 (pc := 198) rfl ?_
      refine rx_w_if (c := z170 = 0) ⟨fun c171 => ?_, fun c171 => ?_⟩
      · have k := k.1 c171
        show rx_aw 193 212 [.ref 90, .int a0, .int a1, .int ((402 * a0) + a1), .int z1, .int (hi1 103 j2), .int (hi1 101 j3), .int (hi1 102 j4), .int z170, rx_no] [] (rx_hp L t hi170 hl170 v170) Q
        refine rx_aw_s 4 (pc := 212) rfl ?_
        refine rx_w_if (c := z170 = 0) ⟨fun c172 => ?_, fun c172 => ?_⟩
        · have k := k.1 c172
          show rx_aw 193 228 [.ref 90, .int a0, .int a1, .int ((402 * a0) + a1), .int z1, .int (hi1 103 j2), .int (hi1 101 j3), .int (hi1 102 j4), .int z170, rx_no] [] (rx_hp L t hi170 hl170 v170) Q
          refine rx_aw_s 6 (pc := 228) rfl ?_
          show rx_aw 193 239 [.ref 90, .int a0, .int a1, .int ((402 * a0) + a1), .int z1, .int (hi1 103 j2), .int (hi1 101 j3), .int (hi1 102 j4), .int z170, rx_no] [.int z170, .int ((402 * a0) + a1), .ref 104] (rx_hp L t hi170 hl170 v170) Q
          obtain ⟨j173, ej173, hj173, k⟩ := k
          refine rx_aw_zast (pc := 239) (n := 2412) j173 ej173 rfl rfl (by decide) rfl hj173 (by decide) ?_
          show rx_aw 193 240 [.ref 90, .int a0, .int a1, .int ((402 * a0) + a1), .int z1, .int (hi1 103 j2), .int (hi1 101 j3), .int (hi1 102 j4), .int z170, rx_no] [] (rx_hp L t (rx_u hi170 104 j173 (vp_nar .boolean z170)) hl170 v170) Q
          refine rx_aw_s 6 (pc := 240) rfl ?_
          show rx_aw 193 249 [.ref 90, .int a0, .int a1, .int ((402 * a0) + a1), .int z1, .int (hi1 103 j2), .int (hi1 101 j3), .int (hi1 102 j4), .int z170, rx_no] [.int (hi1 101 j3), .int (((402 * a0) + a1) + 1), .ref 101] (rx_hp L t (rx_u hi170 104 j173 (vp_nar .boolean z170)) hl170 v170) Q
          obtain ⟨j174, ej174, hj174, k⟩ := k
          refine rx_aw_iast (pc := 249) (n := 2412) j174 ej174 rfl rfl (by decide) rfl hj174 (by decide) ?_
          show rx_aw 193 250 [.ref 90, .int a0, .int a1, .int ((402 * a0) + a1), .int z1, .int (hi1 103 j2), .int (hi1 101 j3), .int (hi1 102 j4), .int z170, rx_no] [] (rx_hp L t (rx_u (rx_u hi170 104 j173 (vp_nar .boolean z170)) 101 j174 (hi1 101 j3)) hl170 v170) Q
          refine rx_aw_s 6 (pc := 250) rfl ?_
          show rx_aw 193 259 [.ref 90, .int a0, .int a1, .int ((402 * a0) + a1), .int z1, .int (hi1 103 j2), .int (hi1 101 j3), .int (hi1 102 j4), .int z170, rx_no] [.int (hi1 102 j4), .int (((402 * a0) + a1) + 1), .ref 102] (rx_hp L t (rx_u (rx_u hi170 104 j173 (vp_nar .boolean z170)) 101 j174 (hi1 101 j3)) hl170 v170) Q
          obtain ⟨j175, ej175, hj175, k⟩ := k
          refine rx_aw_iast (pc := 259) (n := 2412) j175 ej175 rfl rfl (by decide) rfl hj175 (by decide) ?_
          show rx_aw 193 260 [.ref 90, .int a0, .int a1, .int ((402 * a0) + a1), .int z1, .int (hi1 103 j2), .int (hi1 101 j3), .int (hi1 102 j4), .int z170, rx_no] [] (rx_hp L t (rx_u (rx_u (rx_u hi170 104 j173 (vp_nar .boolean z170)) 101 j174 (hi1 101 j3)) 102 j175 (hi1 102 j4)) hl170 v170) Q
          refine rx_aw_s 6 (pc := 260) rfl ?_
          show rx_aw 193 269 [.ref 90, .int a0, .int a1, .int ((402 * a0) + a1), .int z1, .int (hi1 103 j2), .int (hi1 101 j3), .int (hi1 102 j4), .int z170, rx_no] [.int (hi1 103 j2), .int (((402 * a0) + a1) + 1), .ref 103] (rx_hp L t (rx_u (rx_u (rx_u hi170 104 j173 (vp_nar .boolean z170)) 101 j174 (hi1 101 j3)) 102 j175 (hi1 102 j4)) hl170 v170) Q
          obtain ⟨j176, ej176, hj176, k⟩ := k
          refine rx_aw_iast (pc := 269) (n := 2412) j176 ej176 rfl rfl (by decide) rfl hj176 (by decide) ?_
          show rx_aw 193 270 [.ref 90, .int a0, .int a1, .int ((402 * a0) + a1), .int z1, .int (hi1 103 j2), .int (hi1 101 j3), .int (hi1 102 j4), .int z170, rx_no] [] (rx_hp L t (rx_u (rx_u (rx_u (rx_u hi170 104 j173 (vp_nar .boolean z170)) 101 j174 (hi1 101 j3)) 102 j175 (hi1 102 j4)) 103 j176 (hi1 103 j2)) hl170 v170) Q
          exact rx_aw_ret (pc := 270) rfl k
        · have k := k.2 c172
          show rx_aw 193 221 [.ref 90, .int a0, .int a1, .int ((402 * a0) + a1), .int z1, .int (hi1 103 j2), .int (hi1 101 j3), .int (hi1 102 j4), .int z170, rx_no] [] (rx_hp L t hi170 hl170 v170) Q
          refine rx_aw_s 8 (pc := 221) rfl ?_
          show rx_aw 193 239 [.ref 90, .int a0, .int a1, .int ((402 * a0) + a1), .int z1, .int (hi1 103 j2), .int (hi1 101 j3), .int (hi170 90 34), .int z170, rx_no] [.int z170, .int ((402 * a0) + a1), .ref 104] (rx_hp L t hi170 hl170 v170) Q
          obtain ⟨j177, ej177, hj177, k⟩ := k
          refine rx_aw_zast (pc := 239) (n := 2412) j177 ej177 rfl rfl (by decide) rfl hj177 (by decide) ?_
          show rx_aw 193 240 [.ref 90, .int a0, .int a1, .int ((402 * a0) + a1), .int z1, .int (hi1 103 j2), .int (hi1 101 j3), .int (hi170 90 34), .int z170, rx_no] [] (rx_hp L t (rx_u hi170 104 j177 (vp_nar .boolean z170)) hl170 v170) Q
          refine rx_aw_s 6 (pc := 240) rfl ?_
          show rx_aw 193 249 [.ref 90, .int a0, .int a1, .int ((402 * a0) + a1), .int z1, .int (hi1 103 j2), .int (hi1 101 j3), .int (hi170 90 34), .int z170, rx_no] [.int (hi1 101 j3), .int (((402 * a0) + a1) + 1), .ref 101] (rx_hp L t (rx_u hi170 104 j177 (vp_nar .boolean z170)) hl170 v170) Q
          obtain ⟨j178, ej178, hj178, k⟩ := k
          refine rx_aw_iast (pc := 249) (n := 2412) j178 ej178 rfl rfl (by decide) rfl hj178 (by decide) ?_
          show rx_aw 193 250 [.ref 90, .int a0, .int a1, .int ((402 * a0) + a1), .int z1, .int (hi1 103 j2), .int (hi1 101 j3), .int (hi170 90 34), .int z170, rx_no] [] (rx_hp L t (rx_u (rx_u hi170 104 j177 (vp_nar .boolean z170)) 101 j178 (hi1 101 j3)) hl170 v170) Q
          refine rx_aw_s 6 (pc := 250) rfl ?_
          show rx_aw 193 259 [.ref 90, .int a0, .int a1, .int ((402 * a0) + a1), .int z1, .int (hi1 103 j2), .int (hi1 101 j3), .int (hi170 90 34), .int z170, rx_no] [.int (hi170 90 34), .int (((402 * a0) + a1) + 1), .ref 102] (rx_hp L t (rx_u (rx_u hi170 104 j177 (vp_nar .boolean z170)) 101 j178 (hi1 101 j3)) hl170 v170) Q
          obtain ⟨j179, ej179, hj179, k⟩ := k
          refine rx_aw_iast (pc := 259) (n := 2412) j179 ej179 rfl rfl (by decide) rfl hj179 (by decide) ?_
          show rx_aw 193 260 [.ref 90, .int a0, .int a1, .int ((402 * a0) + a1), .int z1, .int (hi1 103 j2), .int (hi1 101 j3), .int (hi170 90 34), .int z170, rx_no] [] (rx_hp L t (rx_u (rx_u (rx_u hi170 104 j177 (vp_nar .boolean z170)) 101 j178 (hi1 101 j3)) 102 j179 (hi170 90 34)) hl170 v170) Q
          refine rx_aw_s 6 (pc := 260) rfl ?_
          show rx_aw 193 269 [.ref 90, .int a0, .int a1, .int ((402 * a0) + a1), .int z1, .int (hi1 103 j2), .int (hi1 101 j3), .int (hi170 90 34), .int z170, rx_no] [.int (hi1 103 j2), .int (((402 * a0) + a1) + 1), .ref 103] (rx_hp L t (rx_u (rx_u (rx_u hi170 104 j177 (vp_nar .boolean z170)) 101 j178 (hi1 101 j3)) 102 j179 (hi170 90 34)) hl170 v170) Q
          obtain ⟨j180, ej180, hj180, k⟩ := k
          refine rx_aw_iast (pc := 269) (n := 2412) j180 ej180 rfl rfl (by decide) rfl hj180 (by decide) ?_
          show rx_aw 193 270 [.ref 90, .int a0, .int a1, .int ((402 * a0) + a1), .int z1, .int (hi1 103 j2), .int (hi1 101 j3), .int (hi170 90 34), .int z170, rx_no] [] (rx_hp L t (rx_u (rx_u (rx_u (rx_u hi170 104 j177 (vp_nar .boolean z170)) 101 j178 (hi1 101 j3)) 102 j179 (hi170 90 34)) 103 j180 (hi1 103 j2)) hl170 v170) Q
          exact rx_aw_ret (pc := 270) rfl k
      · have k := k.2 c171
        show rx_aw 193 205 [.ref 90, .int a0, .int a1, .int ((402 * a0) + a1), .int z1, .int (hi1 103 j2), .int (hi1 101 j3), .int (hi1 102 j4), .int z170, rx_no] [] (rx_hp L t hi170 hl170 v170) Q
        refine rx_aw_s 6 (pc := 205) rfl ?_
        refine rx_w_if (c := z170 = 0) ⟨fun c181 => ?_, fun c181 => ?_⟩
        · have k := k.1 c181
          show rx_aw 193 228 [.ref 90, .int a0, .int a1, .int ((402 * a0) + a1), .int z1, .int (hi1 103 j2), .int (hi170 90 33), .int (hi1 102 j4), .int z170, rx_no] [] (rx_hp L t hi170 hl170 v170) Q
          refine rx_aw_s 6 (pc := 228) rfl ?_
          show rx_aw 193 239 [.ref 90, .int a0, .int a1, .int ((402 * a0) + a1), .int z1, .int (hi1 103 j2), .int (hi170 90 33), .int (hi1 102 j4), .int z170, rx_no] [.int z170, .int ((402 * a0) + a1), .ref 104] (rx_hp L t hi170 hl170 v170) Q
          obtain ⟨j182, ej182, hj182, k⟩ := k
          refine rx_aw_zast (pc := 239) (n := 2412) j182 ej182 rfl rfl (by decide) rfl hj182 (by decide) ?_
          show rx_aw 193 240 [.ref 90, .int a0, .int a1, .int ((402 * a0) + a1), .int z1, .int (hi1 103 j2), .int (hi170 90 33), .int (hi1 102 j4), .int z170, rx_no] [] (rx_hp L t (rx_u hi170 104 j182 (vp_nar .boolean z170)) hl170 v170) Q
          refine rx_aw_s 6 (pc := 240) rfl ?_
          show rx_aw 193 249 [.ref 90, .int a0, .int a1, .int ((402 * a0) + a1), .int z1, .int (hi1 103 j2), .int (hi170 90 33), .int (hi1 102 j4), .int z170, rx_no] [.int (hi170 90 33), .int (((402 * a0) + a1) + 1), .ref 101] (rx_hp L t (rx_u hi170 104 j182 (vp_nar .boolean z170)) hl170 v170) Q
          obtain ⟨j183, ej183, hj183, k⟩ := k
          refine rx_aw_iast (pc := 249) (n := 2412) j183 ej183 rfl rfl (by decide) rfl hj183 (by decide) ?_
          show rx_aw 193 250 [.ref 90, .int a0, .int a1, .int ((402 * a0) + a1), .int z1, .int (hi1 103 j2), .int (hi170 90 33), .int (hi1 102 j4), .int z170, rx_no] [] (rx_hp L t (rx_u (rx_u hi170 104 j182 (vp_nar .boolean z170)) 101 j183 (hi170 90 33)) hl170 v170) Q
          refine rx_aw_s 6 (pc := 250) rfl ?_
          show rx_aw 193 259 [.ref 90, .int a0, .int a1, .int ((402 * a0) + a1), .int z1, .int (hi1 103 j2), .int (hi170 90 33), .int (hi1 102 j4), .int z170, rx_no] [.int (hi1 102 j4), .int (((402 * a0) + a1) + 1), .ref 102] (rx_hp L t (rx_u (rx_u hi170 104 j182 (vp_nar .boolean z170)) 101 j183 (hi170 90 33)) hl170 v170) Q
          obtain ⟨j184, ej184, hj184, k⟩ := k
          refine rx_aw_iast (pc := 259) (n := 2412) j184 ej184 rfl rfl (by decide) rfl hj184 (by decide) ?_
          show rx_aw 193 260 [.ref 90, .int a0, .int a1, .int ((402 * a0) + a1), .int z1, .int (hi1 103 j2), .int (hi170 90 33), .int (hi1 102 j4), .int z170, rx_no] [] (rx_hp L t (rx_u (rx_u (rx_u hi170 104 j182 (vp_nar .boolean z170)) 101 j183 (hi170 90 33)) 102 j184 (hi1 102 j4)) hl170 v170) Q
          refine rx_aw_s 6 (pc := 260) rfl ?_
          show rx_aw 193 269 [.ref 90, .int a0, .int a1, .int ((402 * a0) + a1), .int z1, .int (hi1 103 j2), .int (hi170 90 33), .int (hi1 102 j4), .int z170, rx_no] [.int (hi1 103 j2), .int (((402 * a0) + a1) + 1), .ref 103] (rx_hp L t (rx_u (rx_u (rx_u hi170 104 j182 (vp_nar .boolean z170)) 101 j183 (hi170 90 33)) 102 j184 (hi1 102 j4)) hl170 v170) Q
          obtain ⟨j185, ej185, hj185, k⟩ := k
          refine rx_aw_iast (pc := 269) (n := 2412) j185 ej185 rfl rfl (by decide) rfl hj185 (by decide) ?_
          show rx_aw 193 270 [.ref 90, .int a0, .int a1, .int ((402 * a0) + a1), .int z1, .int (hi1 103 j2), .int (hi170 90 33), .int (hi1 102 j4), .int z170, rx_no] [] (rx_hp L t (rx_u (rx_u (rx_u (rx_u hi170 104 j182 (vp_nar .boolean z170)) 101 j183 (hi170 90 33)) 102 j184 (hi1 102 j4)) 103 j185 (hi1 103 j2)) hl170 v170) Q
          exact rx_aw_ret (pc := 270) rfl k
        · have k := k.2 c181
          show rx_aw 193 221 [.ref 90, .int a0, .int a1, .int ((402 * a0) + a1), .int z1, .int (hi1 103 j2), .int (hi170 90 33), .int (hi1 102 j4), .int z170, rx_no] [] (rx_hp L t hi170 hl170 v170) Q
          refine rx_aw_s 8 (pc := 221) rfl ?_
          show rx_aw 193 239 [.ref 90, .int a0, .int a1, .int ((402 * a0) + a1), .int z1, .int (hi1 103 j2), .int (hi170 90 33), .int (hi170 90 34), .int z170, rx_no] [.int z170, .int ((402 * a0) + a1), .ref 104] (rx_hp L t hi170 hl170 v170) Q
          obtain ⟨j186, ej186, hj186, k⟩ := k
          refine rx_aw_zast (pc := 239) (n := 2412) j186 ej186 rfl rfl (by decide) rfl hj186 (by decide) ?_
          show rx_aw 193 240 [.ref 90, .int a0, .int a1, .int ((402 * a0) + a1), .int z1, .int (hi1 103 j2), .int (hi170 90 33), .int (hi170 90 34), .int z170, rx_no] [] (rx_hp L t (rx_u hi170 104 j186 (vp_nar .boolean z170)) hl170 v170) Q
          refine rx_aw_s 6 (pc := 240) rfl ?_
          show rx_aw 193 249 [.ref 90, .int a0, .int a1, .int ((402 * a0) + a1), .int z1, .int (hi1 103 j2), .int (hi170 90 33), .int (hi170 90 34), .int z170, rx_no] [.int (hi170 90 33), .int (((402 * a0) + a1) + 1), .ref 101] (rx_hp L t (rx_u hi170 104 j186 (vp_nar .boolean z170)) hl170 v170) Q
          obtain ⟨j187, ej187, hj187, k⟩ := k
          refine rx_aw_iast (pc := 249) (n := 2412) j187 ej187 rfl rfl (by decide) rfl hj187 (by decide) ?_
          show rx_aw 193 250 [.ref 90, .int a0, .int a1, .int ((402 * a0) + a1), .int z1, .int (hi1 103 j2), .int (hi170 90 33), .int (hi170 90 34), .int z170, rx_no] [] (rx_hp L t (rx_u (rx_u hi170 104 j186 (vp_nar .boolean z170)) 101 j187 (hi170 90 33)) hl170 v170) Q
          refine rx_aw_s 6 (pc := 250) rfl ?_
          show rx_aw 193 259 [.ref 90, .int a0, .int a1, .int ((402 * a0) + a1), .int z1, .int (hi1 103 j2), .int (hi170 90 33), .int (hi170 90 34), .int z170, rx_no] [.int (hi170 90 34), .int (((402 * a0) + a1) + 1), .ref 102] (rx_hp L t (rx_u (rx_u hi170 104 j186 (vp_nar .boolean z170)) 101 j187 (hi170 90 33)) hl170 v170) Q
          obtain ⟨j188, ej188, hj188, k⟩ := k
          refine rx_aw_iast (pc := 259) (n := 2412) j188 ej188 rfl rfl (by decide) rfl hj188 (by decide) ?_
          show rx_aw 193 260 [.ref 90, .int a0, .int a1, .int ((402 * a0) + a1), .int z1, .int (hi1 103 j2), .int (hi170 90 33), .int (hi170 90 34), .int z170, rx_no] [] (rx_hp L t (rx_u (rx_u (rx_u hi170 104 j186 (vp_nar .boolean z170)) 101 j187 (hi170 90 33)) 102 j188 (hi170 90 34)) hl170 v170) Q
          refine rx_aw_s 6 (pc := 260) rfl ?_
          show rx_aw 193 269 [.ref 90, .int a0, .int a1, .int ((402 * a0) + a1), .int z1, .int (hi1 103 j2), .int (hi170 90 33), .int (hi170 90 34), .int z170, rx_no] [.int (hi1 103 j2), .int (((402 * a0) + a1) + 1), .ref 103] (rx_hp L t (rx_u (rx_u (rx_u hi170 104 j186 (vp_nar .boolean z170)) 101 j187 (hi170 90 33)) 102 j188 (hi170 90 34)) hl170 v170) Q
          obtain ⟨j189, ej189, hj189, k⟩ := k
          refine rx_aw_iast (pc := 269) (n := 2412) j189 ej189 rfl rfl (by decide) rfl hj189 (by decide) ?_
          show rx_aw 193 270 [.ref 90, .int a0, .int a1, .int ((402 * a0) + a1), .int z1, .int (hi1 103 j2), .int (hi170 90 33), .int (hi170 90 34), .int z170, rx_no] [] (rx_hp L t (rx_u (rx_u (rx_u (rx_u hi170 104 j186 (vp_nar .boolean z170)) 101 j187 (hi170 90 33)) 102 j188 (hi170 90 34)) 103 j189 (hi1 103 j2)) hl170 v170) Q
          exact rx_aw_ret (pc := 270) rfl k
