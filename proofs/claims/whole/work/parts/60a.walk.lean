/-! Methods walked by program (gen/wp.py): what is left to show of each. -/
/-- java/lang/Math.max(II)I -/
theorem w4_max {L : Nat} {t : List (Nat × Nat)} {hi : Nat → Nat → Int32} {hl : Nat → Nat → Int64} {v : Nat → Nat → Option Nat} {Q : Option Value → rx_H → Prop} {a0 : Int32} {a1 : Int32} (k : ((a0 < a1 → Q (some (.int a1)) (rx_hp L t hi hl v)) ∧ (¬ (a0 < a1) → Q (some (.int a0)) (rx_hp L t hi hl v)))) : rx_me 4 [.int a0, .int a1] (rx_hp L t hi hl v) Q := by
  show rx_aw 4 0 [.int a0, .int a1] [] (rx_hp L t hi hl v) Q
  refine rx_aw_s 3 (pc := 0) rfl ?_
  refine rx_w_if (c := a0 < a1) ⟨fun c1 => ?_, fun c1 => ?_⟩
  · have k := k.1 c1
    show rx_aw 4 9 [.int a0, .int a1] [] (rx_hp L t hi hl v) Q
    refine rx_aw_s 1 (pc := 9) rfl ?_
    show rx_aw 4 10 [.int a0, .int a1] [.int a1] (rx_hp L t hi hl v) Q
    exact rx_aw_ret (pc := 10) rfl k
  · have k := k.2 c1
    show rx_aw 4 5 [.int a0, .int a1] [] (rx_hp L t hi hl v) Q
    refine rx_aw_s 2 (pc := 5) rfl ?_
    show rx_aw 4 10 [.int a0, .int a1] [.int a0] (rx_hp L t hi hl v) Q
    exact rx_aw_ret (pc := 10) rfl k
/-- java/lang/Math.min(II)I -/
theorem w5_min {L : Nat} {t : List (Nat × Nat)} {hi : Nat → Nat → Int32} {hl : Nat → Nat → Int64} {v : Nat → Nat → Option Nat} {Q : Option Value → rx_H → Prop} {a0 : Int32} {a1 : Int32} (k : ((a1 < a0 → Q (some (.int a1)) (rx_hp L t hi hl v)) ∧ (¬ (a1 < a0) → Q (some (.int a0)) (rx_hp L t hi hl v)))) : rx_me 5 [.int a0, .int a1] (rx_hp L t hi hl v) Q := by
  show rx_aw 5 0 [.int a0, .int a1] [] (rx_hp L t hi hl v) Q
  refine rx_aw_s 3 (pc := 0) rfl ?_
  refine rx_w_if (c := a1 < a0) ⟨fun c1 => ?_, fun c1 => ?_⟩
  · have k := k.1 c1
    show rx_aw 5 9 [.int a0, .int a1] [] (rx_hp L t hi hl v) Q
    refine rx_aw_s 1 (pc := 9) rfl ?_
    show rx_aw 5 10 [.int a0, .int a1] [.int a1] (rx_hp L t hi hl v) Q
    exact rx_aw_ret (pc := 10) rfl k
  · have k := k.2 c1
    show rx_aw 5 5 [.int a0, .int a1] [] (rx_hp L t hi hl v) Q
    refine rx_aw_s 2 (pc := 5) rfl ?_
    show rx_aw 5 10 [.int a0, .int a1] [.int a0] (rx_hp L t hi hl v) Q
    exact rx_aw_ret (pc := 10) rfl k
/-- CartFloor.squareOf(I)I -/
theorem w8_squareOf {L : Nat} {t : List (Nat × Nat)} {hi : Nat → Nat → Int32} {hl : Nat → Nat → Int64} {v : Nat → Nat → Option Nat} {Q : Option Value → rx_H → Prop} {a0 : Int32} (k : Q (some (.int (a0 &&& (63 : Int32)))) (rx_hp L t hi hl v)) : rx_me 8 [.int a0] (rx_hp L t hi hl v) Q := by
  show rx_aw 8 0 [.int a0] [] (rx_hp L t hi hl v) Q
  refine rx_aw_s 3 (pc := 0) rfl ?_
  show rx_aw 8 4 [.int a0] [.int (a0 &&& (63 : Int32))] (rx_hp L t hi hl v) Q
  exact rx_aw_ret (pc := 4) rfl k
/-- CartFloor.bit(I)J -/
theorem w9_bit {L : Nat} {t : List (Nat × Nat)} {hi : Nat → Nat → Int32} {hl : Nat → Nat → Int64} {v : Nat → Nat → Option Nat} {Q : Option Value → rx_H → Prop} {a0 : Int32} (k : ((0 ≤ a0 → Q (some (.long ((1 : Int64) <<< (Int32.toInt64 a0 &&& 63)))) (rx_hp L t hi hl v)) ∧ (¬ (0 ≤ a0) → Q (some (.long (0 : Int64))) (rx_hp L t hi hl v)))) : rx_me 9 [.int a0] (rx_hp L t hi hl v) Q := by
  show rx_aw 9 0 [.int a0] [] (rx_hp L t hi hl v) Q
  refine rx_aw_s 2 (pc := 0) rfl ?_
  refine rx_w_if (c := 0 ≤ a0) ⟨fun c1 => ?_, fun c1 => ?_⟩
  · have k := k.1 c1
    show rx_aw 9 8 [.int a0] [] (rx_hp L t hi hl v) Q
    refine rx_aw_s 3 (pc := 8) rfl ?_
    show rx_aw 9 11 [.int a0] [.long ((1 : Int64) <<< (Int32.toInt64 a0 &&& 63))] (rx_hp L t hi hl v) Q
    exact rx_aw_ret (pc := 11) rfl k
  · have k := k.2 c1
    show rx_aw 9 4 [.int a0] [] (rx_hp L t hi hl v) Q
    refine rx_aw_s 2 (pc := 4) rfl ?_
    show rx_aw 9 11 [.int a0] [.long (0 : Int64)] (rx_hp L t hi hl v) Q
    exact rx_aw_ret (pc := 11) rfl k
/-- CartFloor$Floor.findSteps(I)V -/
theorem w10_findSteps {L : Nat} {t : List (Nat × Nat)} {hi : Nat → Nat → Int32} {hl : Nat → Nat → Int64} {v : Nat → Nat → Option Nat} {Q : Option Value → rx_H → Prop} {a0 : Int32} (k : rx_me 8 [.int a0] (rx_hp L t hi hl v) (fun r h2 => ∃ z1 : Int32, r = some (.int z1) ∧ rx_ok2 L t h2 (fun hi1 hl1 v1 => rx_me 9 [.int z1] (rx_hp L t hi1 hl1 v1) (fun r h2 => ∃ z2 : Int64, r = some (.long z2) ∧ rx_ok2 L t h2 (fun hi2 hl2 v2 => (∃ j3 : Nat, a0 = nI j3 ∧ j3 < 512 ∧ (∃ j4 : Nat, a0 = nI j4 ∧ j4 < 2560 ∧ rx_aw 10 24 [.ref 7, .int a0, .int z1, .int (0 : Int32)] [] (rx_hp L t (rx_u hi2 10 j4 a0) (rx_u hl2 11 j3 z2) v2) Q))))))) : rx_me 10 [.ref 7, .int a0] (rx_hp L t hi hl v) Q := by
  show rx_aw 10 0 [.ref 7, .int a0, rx_no, rx_no] [] (rx_hp L t hi hl v) Q
  refine rx_aw_s 1 (pc := 0) rfl ?_
  show rx_aw 10 1 [.ref 7, .int a0, rx_no, rx_no] [.int a0] (rx_hp L t hi hl v) Q
  refine rx_w_callI (j := 8) (pc := 1) rfl rfl rfl rfl rfl ?_
  refine rx_aw.mono k (fun r h2 k => ?_)
  obtain ⟨z1, rfl, hi1, hl1, v1, rfl, k⟩ := k
  refine ⟨z1, rfl, ?_⟩
  show rx_aw 10 4 [.ref 7, .int a0, rx_no, rx_no] [.int z1] (rx_hp L t hi1 hl1 v1) Q
  refine rx_aw_s 5 (pc := 4) rfl ?_
  show rx_aw 10 11 [.ref 7, .int a0, .int z1, rx_no] [.int z1, .int a0, .ref 11] (rx_hp L t hi1 hl1 v1) Q
  refine rx_w_callL (j := 9) (pc := 11) rfl rfl rfl rfl rfl ?_
  refine rx_aw.mono k (fun r h2 k => ?_)
  obtain ⟨z2, rfl, hi2, hl2, v2, rfl, k⟩ := k
  refine ⟨z2, rfl, ?_⟩
  show rx_aw 10 14 [.ref 7, .int a0, .int z1, rx_no] [.long z2, .int a0, .ref 11] (rx_hp L t hi2 hl2 v2) Q
  obtain ⟨j3, ej3, hj3, k⟩ := k
  refine rx_aw_last (pc := 14) (n := 512) j3 ej3 rfl rfl (by decide) rfl hj3 (by decide) ?_
  show rx_aw 10 15 [.ref 7, .int a0, .int z1, rx_no] [] (rx_hp L t hi2 (rx_u hl2 11 j3 z2) v2) Q
  refine rx_aw_s 4 (pc := 15) rfl ?_
  show rx_aw 10 21 [.ref 7, .int a0, .int z1, rx_no] [.int a0, .int a0, .ref 10] (rx_hp L t hi2 (rx_u hl2 11 j3 z2) v2) Q
  obtain ⟨j4, ej4, hj4, k⟩ := k
  refine rx_aw_iast (pc := 21) (n := 2560) j4 ej4 rfl rfl (by decide) rfl hj4 (by decide) ?_
  show rx_aw 10 22 [.ref 7, .int a0, .int z1, rx_no] [] (rx_hp L t (rx_u hi2 10 j4 a0) (rx_u hl2 11 j3 z2) v2) Q
  refine rx_aw_s 2 (pc := 22) rfl ?_
  show rx_aw 10 24 [.ref 7, .int a0, .int z1, .int (0 : Int32)] [] (rx_hp L t (rx_u hi2 10 j4 a0) (rx_u hl2 11 j3 z2) v2) Q
  exact k
theorem w10_findSteps_24 {L : Nat} {t : List (Nat × Nat)} {hi : Nat → Nat → Int32} {hl : Nat → Nat → Int64} {v : Nat → Nat → Option Nat} {Q : Option Value → rx_H → Prop} {x1 : Int32} {x2 : Int32} {x3 : Int32} (k : (((4 : Int32) ≤ x3 → Q none (rx_hp L t hi hl v)) ∧ (¬ ((4 : Int32) ≤ x3) → rx_me 11 [.ref 7, .int x2, .int x3] (rx_hp L t hi hl v) (fun r h2 => ∃ z6 : Int32, r = some (.int z6) ∧ rx_ok2 L t h2 (fun hi6 hl6 v6 => rx_me 14 [.ref 7, .int z6, .int x3] (rx_hp L t hi6 hl6 v6) (fun r h2 => ∃ z7 : Int32, r = some (.int z7) ∧ rx_ok2 L t h2 (fun hi7 hl7 v7 => (∃ j8 : Nat, (((x3 + (1 : Int32)) * (256 : Int32)) + x1) = nI j8 ∧ j8 < 2560 ∧ rx_aw 10 24 [.ref 7, .int x1, .int x2, .int (x3 + (1 : Int32))] [] (rx_hp L t (rx_u hi7 10 j8 z7) hl7 v7) Q)))))))) : rx_aw 10 24 [.ref 7, .int x1, .int x2, .int x3] [] (rx_hp L t hi hl v) Q := by
  refine rx_aw_s 3 (pc := 24) rfl ?_
  refine rx_w_if (c := (4 : Int32) ≤ x3) ⟨fun c5 => ?_, fun c5 => ?_⟩
  · have k := k.1 c5
    show rx_aw 10 60 [.ref 7, .int x1, .int x2, .int x3] [] (rx_hp L t hi hl v) Q
    exact rx_aw_ret (pc := 60) rfl k
  · have k := k.2 c5
    show rx_aw 10 29 [.ref 7, .int x1, .int x2, .int x3] [] (rx_hp L t hi hl v) Q
    refine rx_aw_s 13 (pc := 29) rfl ?_
    show rx_aw 10 46 [.ref 7, .int x1, .int x2, .int x3] [.int x3, .int x2, .ref 7, .ref 7, .int (((x3 + (1 : Int32)) * (256 : Int32)) + x1), .ref 10] (rx_hp L t hi hl v) Q
    refine rx_w_callI (j := 11) (pc := 46) rfl rfl rfl rfl rfl ?_
    refine rx_aw.mono k (fun r h2 k => ?_)
    obtain ⟨z6, rfl, hi6, hl6, v6, rfl, k⟩ := k
    refine ⟨z6, rfl, ?_⟩
    show rx_aw 10 49 [.ref 7, .int x1, .int x2, .int x3] [.int z6, .ref 7, .int (((x3 + (1 : Int32)) * (256 : Int32)) + x1), .ref 10] (rx_hp L t hi6 hl6 v6) Q
    refine rx_aw_s 1 (pc := 49) rfl ?_
    show rx_aw 10 50 [.ref 7, .int x1, .int x2, .int x3] [.int x3, .int z6, .ref 7, .int (((x3 + (1 : Int32)) * (256 : Int32)) + x1), .ref 10] (rx_hp L t hi6 hl6 v6) Q
    refine rx_w_callI (j := 14) (pc := 50) rfl rfl rfl rfl rfl ?_
    refine rx_aw.mono k (fun r h2 k => ?_)
    obtain ⟨z7, rfl, hi7, hl7, v7, rfl, k⟩ := k
    refine ⟨z7, rfl, ?_⟩
    show rx_aw 10 53 [.ref 7, .int x1, .int x2, .int x3] [.int z7, .int (((x3 + (1 : Int32)) * (256 : Int32)) + x1), .ref 10] (rx_hp L t hi7 hl7 v7) Q
    obtain ⟨j8, ej8, hj8, k⟩ := k
    refine rx_aw_iast (pc := 53) (n := 2560) j8 ej8 rfl rfl (by decide) rfl hj8 (by decide) ?_
    show rx_aw 10 54 [.ref 7, .int x1, .int x2, .int x3] [] (rx_hp L t (rx_u hi7 10 j8 z7) hl7 v7) Q
    refine rx_aw_s 2 (pc := 54) rfl ?_
    show rx_aw 10 24 [.ref 7, .int x1, .int x2, .int (x3 + (1 : Int32))] [] (rx_hp L t (rx_u hi7 10 j8 z7) hl7 v7) Q
    exact k
/-- CartFloor$Floor.next(II)I -/
theorem w11_next {L : Nat} {t : List (Nat × Nat)} {hi : Nat → Nat → Int32} {hl : Nat → Nat → Int64} {v : Nat → Nat → Option Nat} {Q : Option Value → rx_H → Prop} {a0 : Int32} {a1 : Int32} (k : rx_me 9 [.int a0] (rx_hp L t hi hl v) (fun r h2 => ∃ z1 : Int64, r = some (.long z1) ∧ rx_ok2 L t h2 (fun hi1 hl1 v1 => rx_me 12 [.ref 7, .long z1, .int a1] (rx_hp L t hi1 hl1 v1) (fun r h2 => ∃ z2 : Int64, r = some (.long z2) ∧ rx_ok2 L t h2 (fun hi2 hl2 v2 => (((lg_cmp z2 (0 : Int64)) = 0 → Q (some (.int (-1 : Int32))) (rx_hp L t hi2 hl2 v2)) ∧ (¬ ((lg_cmp z2 (0 : Int64)) = 0) → rx_me 13 [.long (z2 - (1 : Int64))] (rx_hp L t hi2 hl2 v2) (fun r h2 => ∃ z4 : Int32, r = some (.int z4) ∧ rx_ok2 L t h2 (fun hi4 hl4 v4 => Q (some (.int z4)) (rx_hp L t hi4 hl4 v4)))))))))) : rx_me 11 [.ref 7, .int a0, .int a1] (rx_hp L t hi hl v) Q := by
  show rx_aw 11 0 [.ref 7, .int a0, .int a1, rx_no, rx_no] [] (rx_hp L t hi hl v) Q
  refine rx_aw_s 2 (pc := 0) rfl ?_
  show rx_aw 11 2 [.ref 7, .int a0, .int a1, rx_no, rx_no] [.int a0, .ref 7] (rx_hp L t hi hl v) Q
  refine rx_w_callL (j := 9) (pc := 2) rfl rfl rfl rfl rfl ?_
  refine rx_aw.mono k (fun r h2 k => ?_)
  obtain ⟨z1, rfl, hi1, hl1, v1, rfl, k⟩ := k
  refine ⟨z1, rfl, ?_⟩
  show rx_aw 11 5 [.ref 7, .int a0, .int a1, rx_no, rx_no] [.long z1, .ref 7] (rx_hp L t hi1 hl1 v1) Q
  refine rx_aw_s 1 (pc := 5) rfl ?_
  show rx_aw 11 6 [.ref 7, .int a0, .int a1, rx_no, rx_no] [.int a1, .long z1, .ref 7] (rx_hp L t hi1 hl1 v1) Q
  refine rx_w_callL (j := 12) (pc := 6) rfl rfl rfl rfl rfl ?_
  refine rx_aw.mono k (fun r h2 k => ?_)
  obtain ⟨z2, rfl, hi2, hl2, v2, rfl, k⟩ := k
  refine ⟨z2, rfl, ?_⟩
  show rx_aw 11 9 [.ref 7, .int a0, .int a1, rx_no, rx_no] [.long z2] (rx_hp L t hi2 hl2 v2) Q
  refine rx_aw_s 5 (pc := 9) rfl ?_
  refine rx_w_ifn (c := (lg_cmp z2 (0 : Int64)) = 0) ⟨fun c3 => ?_, fun c3 => ?_⟩
  · have k := k.1 c3
    show rx_aw 11 16 [.ref 7, .int a0, .int a1, .long z2, rx_no] [] (rx_hp L t hi2 hl2 v2) Q
    refine rx_aw_s 2 (pc := 16) rfl ?_
    show rx_aw 11 26 [.ref 7, .int a0, .int a1, .long z2, rx_no] [.int (-1 : Int32)] (rx_hp L t hi2 hl2 v2) Q
    exact rx_aw_ret (pc := 26) rfl k
  · have k := k.2 c3
    show rx_aw 11 20 [.ref 7, .int a0, .int a1, .long z2, rx_no] [] (rx_hp L t hi2 hl2 v2) Q
    refine rx_aw_s 3 (pc := 20) rfl ?_
    show rx_aw 11 23 [.ref 7, .int a0, .int a1, .long z2, rx_no] [.long (z2 - (1 : Int64))] (rx_hp L t hi2 hl2 v2) Q
    refine rx_w_callI (j := 13) (pc := 23) rfl rfl rfl rfl rfl ?_
    refine rx_aw.mono k (fun r h2 k => ?_)
    obtain ⟨z4, rfl, hi4, hl4, v4, rfl, k⟩ := k
    refine ⟨z4, rfl, ?_⟩
    show rx_aw 11 26 [.ref 7, .int a0, .int a1, .long z2, rx_no] [.int z4] (rx_hp L t hi4 hl4 v4) Q
    exact rx_aw_ret (pc := 26) rfl k
/-- java/lang/Long.bitCount(J)I -/
theorem w13_bitCount {L : Nat} {t : List (Nat × Nat)} {hi : Nat → Nat → Int32} {hl : Nat → Nat → Int64} {v : Nat → Nat → Option Nat} {Q : Option Value → rx_H → Prop} {a0 : Int64} (k : Q (some (.int ((Int64.toInt32 ((((((((a0 - ((((Int64.toUInt64 a0) >>> ((Int32.toInt64 (1 : Int32)).toUInt64 &&& Int64.toUInt64 63)).toInt64) &&& (6148914691236517205 : Int64))) &&& (3689348814741910323 : Int64)) + ((((Int64.toUInt64 (a0 - ((((Int64.toUInt64 a0) >>> ((Int32.toInt64 (1 : Int32)).toUInt64 &&& Int64.toUInt64 63)).toInt64) &&& (6148914691236517205 : Int64)))) >>> ((Int32.toInt64 (2 : Int32)).toUInt64 &&& Int64.toUInt64 63)).toInt64) &&& (3689348814741910323 : Int64))) + (((Int64.toUInt64 (((a0 - ((((Int64.toUInt64 a0) >>> ((Int32.toInt64 (1 : Int32)).toUInt64 &&& Int64.toUInt64 63)).toInt64) &&& (6148914691236517205 : Int64))) &&& (3689348814741910323 : Int64)) + ((((Int64.toUInt64 (a0 - ((((Int64.toUInt64 a0) >>> ((Int32.toInt64 (1 : Int32)).toUInt64 &&& Int64.toUInt64 63)).toInt64) &&& (6148914691236517205 : Int64)))) >>> ((Int32.toInt64 (2 : Int32)).toUInt64 &&& Int64.toUInt64 63)).toInt64) &&& (3689348814741910323 : Int64)))) >>> ((Int32.toInt64 (4 : Int32)).toUInt64 &&& Int64.toUInt64 63)).toInt64)) &&& (1085102592571150095 : Int64)) + (((Int64.toUInt64 (((((a0 - ((((Int64.toUInt64 a0) >>> ((Int32.toInt64 (1 : Int32)).toUInt64 &&& Int64.toUInt64 63)).toInt64) &&& (6148914691236517205 : Int64))) &&& (3689348814741910323 : Int64)) + ((((Int64.toUInt64 (a0 - ((((Int64.toUInt64 a0) >>> ((Int32.toInt64 (1 : Int32)).toUInt64 &&& Int64.toUInt64 63)).toInt64) &&& (6148914691236517205 : Int64)))) >>> ((Int32.toInt64 (2 : Int32)).toUInt64 &&& Int64.toUInt64 63)).toInt64) &&& (3689348814741910323 : Int64))) + (((Int64.toUInt64 (((a0 - ((((Int64.toUInt64 a0) >>> ((Int32.toInt64 (1 : Int32)).toUInt64 &&& Int64.toUInt64 63)).toInt64) &&& (6148914691236517205 : Int64))) &&& (3689348814741910323 : Int64)) + ((((Int64.toUInt64 (a0 - ((((Int64.toUInt64 a0) >>> ((Int32.toInt64 (1 : Int32)).toUInt64 &&& Int64.toUInt64 63)).toInt64) &&& (6148914691236517205 : Int64)))) >>> ((Int32.toInt64 (2 : Int32)).toUInt64 &&& Int64.toUInt64 63)).toInt64) &&& (3689348814741910323 : Int64)))) >>> ((Int32.toInt64 (4 : Int32)).toUInt64 &&& Int64.toUInt64 63)).toInt64)) &&& (1085102592571150095 : Int64))) >>> ((Int32.toInt64 (8 : Int32)).toUInt64 &&& Int64.toUInt64 63)).toInt64)) + (((Int64.toUInt64 ((((((a0 - ((((Int64.toUInt64 a0) >>> ((Int32.toInt64 (1 : Int32)).toUInt64 &&& Int64.toUInt64 63)).toInt64) &&& (6148914691236517205 : Int64))) &&& (3689348814741910323 : Int64)) + ((((Int64.toUInt64 (a0 - ((((Int64.toUInt64 a0) >>> ((Int32.toInt64 (1 : Int32)).toUInt64 &&& Int64.toUInt64 63)).toInt64) &&& (6148914691236517205 : Int64)))) >>> ((Int32.toInt64 (2 : Int32)).toUInt64 &&& Int64.toUInt64 63)).toInt64) &&& (3689348814741910323 : Int64))) + (((Int64.toUInt64 (((a0 - ((((Int64.toUInt64 a0) >>> ((Int32.toInt64 (1 : Int32)).toUInt64 &&& Int64.toUInt64 63)).toInt64) &&& (6148914691236517205 : Int64))) &&& (3689348814741910323 : Int64)) + ((((Int64.toUInt64 (a0 - ((((Int64.toUInt64 a0) >>> ((Int32.toInt64 (1 : Int32)).toUInt64 &&& Int64.toUInt64 63)).toInt64) &&& (6148914691236517205 : Int64)))) >>> ((Int32.toInt64 (2 : Int32)).toUInt64 &&& Int64.toUInt64 63)).toInt64) &&& (3689348814741910323 : Int64)))) >>> ((Int32.toInt64 (4 : Int32)).toUInt64 &&& Int64.toUInt64 63)).toInt64)) &&& (1085102592571150095 : Int64)) + (((Int64.toUInt64 (((((a0 - ((((Int64.toUInt64 a0) >>> ((Int32.toInt64 (1 : Int32)).toUInt64 &&& Int64.toUInt64 63)).toInt64) &&& (6148914691236517205 : Int64))) &&& (3689348814741910323 : Int64)) + ((((Int64.toUInt64 (a0 - ((((Int64.toUInt64 a0) >>> ((Int32.toInt64 (1 : Int32)).toUInt64 &&& Int64.toUInt64 63)).toInt64) &&& (6148914691236517205 : Int64)))) >>> ((Int32.toInt64 (2 : Int32)).toUInt64 &&& Int64.toUInt64 63)).toInt64) &&& (3689348814741910323 : Int64))) + (((Int64.toUInt64 (((a0 - ((((Int64.toUInt64 a0) >>> ((Int32.toInt64 (1 : Int32)).toUInt64 &&& Int64.toUInt64 63)).toInt64) &&& (6148914691236517205 : Int64))) &&& (3689348814741910323 : Int64)) + ((((Int64.toUInt64 (a0 - ((((Int64.toUInt64 a0) >>> ((Int32.toInt64 (1 : Int32)).toUInt64 &&& Int64.toUInt64 63)).toInt64) &&& (6148914691236517205 : Int64)))) >>> ((Int32.toInt64 (2 : Int32)).toUInt64 &&& Int64.toUInt64 63)).toInt64) &&& (3689348814741910323 : Int64)))) >>> ((Int32.toInt64 (4 : Int32)).toUInt64 &&& Int64.toUInt64 63)).toInt64)) &&& (1085102592571150095 : Int64))) >>> ((Int32.toInt64 (8 : Int32)).toUInt64 &&& Int64.toUInt64 63)).toInt64))) >>> ((Int32.toInt64 (16 : Int32)).toUInt64 &&& Int64.toUInt64 63)).toInt64)) + (((Int64.toUInt64 (((((((a0 - ((((Int64.toUInt64 a0) >>> ((Int32.toInt64 (1 : Int32)).toUInt64 &&& Int64.toUInt64 63)).toInt64) &&& (6148914691236517205 : Int64))) &&& (3689348814741910323 : Int64)) + ((((Int64.toUInt64 (a0 - ((((Int64.toUInt64 a0) >>> ((Int32.toInt64 (1 : Int32)).toUInt64 &&& Int64.toUInt64 63)).toInt64) &&& (6148914691236517205 : Int64)))) >>> ((Int32.toInt64 (2 : Int32)).toUInt64 &&& Int64.toUInt64 63)).toInt64) &&& (3689348814741910323 : Int64))) + (((Int64.toUInt64 (((a0 - ((((Int64.toUInt64 a0) >>> ((Int32.toInt64 (1 : Int32)).toUInt64 &&& Int64.toUInt64 63)).toInt64) &&& (6148914691236517205 : Int64))) &&& (3689348814741910323 : Int64)) + ((((Int64.toUInt64 (a0 - ((((Int64.toUInt64 a0) >>> ((Int32.toInt64 (1 : Int32)).toUInt64 &&& Int64.toUInt64 63)).toInt64) &&& (6148914691236517205 : Int64)))) >>> ((Int32.toInt64 (2 : Int32)).toUInt64 &&& Int64.toUInt64 63)).toInt64) &&& (3689348814741910323 : Int64)))) >>> ((Int32.toInt64 (4 : Int32)).toUInt64 &&& Int64.toUInt64 63)).toInt64)) &&& (1085102592571150095 : Int64)) + (((Int64.toUInt64 (((((a0 - ((((Int64.toUInt64 a0) >>> ((Int32.toInt64 (1 : Int32)).toUInt64 &&& Int64.toUInt64 63)).toInt64) &&& (6148914691236517205 : Int64))) &&& (3689348814741910323 : Int64)) + ((((Int64.toUInt64 (a0 - ((((Int64.toUInt64 a0) >>> ((Int32.toInt64 (1 : Int32)).toUInt64 &&& Int64.toUInt64 63)).toInt64) &&& (6148914691236517205 : Int64)))) >>> ((Int32.toInt64 (2 : Int32)).toUInt64 &&& Int64.toUInt64 63)).toInt64) &&& (3689348814741910323 : Int64))) + (((Int64.toUInt64 (((a0 - ((((Int64.toUInt64 a0) >>> ((Int32.toInt64 (1 : Int32)).toUInt64 &&& Int64.toUInt64 63)).toInt64) &&& (6148914691236517205 : Int64))) &&& (3689348814741910323 : Int64)) + ((((Int64.toUInt64 (a0 - ((((Int64.toUInt64 a0) >>> ((Int32.toInt64 (1 : Int32)).toUInt64 &&& Int64.toUInt64 63)).toInt64) &&& (6148914691236517205 : Int64)))) >>> ((Int32.toInt64 (2 : Int32)).toUInt64 &&& Int64.toUInt64 63)).toInt64) &&& (3689348814741910323 : Int64)))) >>> ((Int32.toInt64 (4 : Int32)).toUInt64 &&& Int64.toUInt64 63)).toInt64)) &&& (1085102592571150095 : Int64))) >>> ((Int32.toInt64 (8 : Int32)).toUInt64 &&& Int64.toUInt64 63)).toInt64)) + (((Int64.toUInt64 ((((((a0 - ((((Int64.toUInt64 a0) >>> ((Int32.toInt64 (1 : Int32)).toUInt64 &&& Int64.toUInt64 63)).toInt64) &&& (6148914691236517205 : Int64))) &&& (3689348814741910323 : Int64)) + ((((Int64.toUInt64 (a0 - ((((Int64.toUInt64 a0) >>> ((Int32.toInt64 (1 : Int32)).toUInt64 &&& Int64.toUInt64 63)).toInt64) &&& (6148914691236517205 : Int64)))) >>> ((Int32.toInt64 (2 : Int32)).toUInt64 &&& Int64.toUInt64 63)).toInt64) &&& (3689348814741910323 : Int64))) + (((Int64.toUInt64 (((a0 - ((((Int64.toUInt64 a0) >>> ((Int32.toInt64 (1 : Int32)).toUInt64 &&& Int64.toUInt64 63)).toInt64) &&& (6148914691236517205 : Int64))) &&& (3689348814741910323 : Int64)) + ((((Int64.toUInt64 (a0 - ((((Int64.toUInt64 a0) >>> ((Int32.toInt64 (1 : Int32)).toUInt64 &&& Int64.toUInt64 63)).toInt64) &&& (6148914691236517205 : Int64)))) >>> ((Int32.toInt64 (2 : Int32)).toUInt64 &&& Int64.toUInt64 63)).toInt64) &&& (3689348814741910323 : Int64)))) >>> ((Int32.toInt64 (4 : Int32)).toUInt64 &&& Int64.toUInt64 63)).toInt64)) &&& (1085102592571150095 : Int64)) + (((Int64.toUInt64 (((((a0 - ((((Int64.toUInt64 a0) >>> ((Int32.toInt64 (1 : Int32)).toUInt64 &&& Int64.toUInt64 63)).toInt64) &&& (6148914691236517205 : Int64))) &&& (3689348814741910323 : Int64)) + ((((Int64.toUInt64 (a0 - ((((Int64.toUInt64 a0) >>> ((Int32.toInt64 (1 : Int32)).toUInt64 &&& Int64.toUInt64 63)).toInt64) &&& (6148914691236517205 : Int64)))) >>> ((Int32.toInt64 (2 : Int32)).toUInt64 &&& Int64.toUInt64 63)).toInt64) &&& (3689348814741910323 : Int64))) + (((Int64.toUInt64 (((a0 - ((((Int64.toUInt64 a0) >>> ((Int32.toInt64 (1 : Int32)).toUInt64 &&& Int64.toUInt64 63)).toInt64) &&& (6148914691236517205 : Int64))) &&& (3689348814741910323 : Int64)) + ((((Int64.toUInt64 (a0 - ((((Int64.toUInt64 a0) >>> ((Int32.toInt64 (1 : Int32)).toUInt64 &&& Int64.toUInt64 63)).toInt64) &&& (6148914691236517205 : Int64)))) >>> ((Int32.toInt64 (2 : Int32)).toUInt64 &&& Int64.toUInt64 63)).toInt64) &&& (3689348814741910323 : Int64)))) >>> ((Int32.toInt64 (4 : Int32)).toUInt64 &&& Int64.toUInt64 63)).toInt64)) &&& (1085102592571150095 : Int64))) >>> ((Int32.toInt64 (8 : Int32)).toUInt64 &&& Int64.toUInt64 63)).toInt64))) >>> ((Int32.toInt64 (16 : Int32)).toUInt64 &&& Int64.toUInt64 63)).toInt64))) >>> ((Int32.toInt64 (32 : Int32)).toUInt64 &&& Int64.toUInt64 63)).toInt64))) &&& (127 : Int32)))) (rx_hp L t hi hl v)) : rx_me 13 [.long a0] (rx_hp L t hi hl v) Q := by
  show rx_aw 13 0 [.long a0, rx_no] [] (rx_hp L t hi hl v) Q
  refine rx_aw_s 48 (pc := 0) rfl ?_
  show rx_aw 13 60 [.long ((((((((a0 - ((((Int64.toUInt64 a0) >>> ((Int32.toInt64 (1 : Int32)).toUInt64 &&& Int64.toUInt64 63)).toInt64) &&& (6148914691236517205 : Int64))) &&& (3689348814741910323 : Int64)) + ((((Int64.toUInt64 (a0 - ((((Int64.toUInt64 a0) >>> ((Int32.toInt64 (1 : Int32)).toUInt64 &&& Int64.toUInt64 63)).toInt64) &&& (6148914691236517205 : Int64)))) >>> ((Int32.toInt64 (2 : Int32)).toUInt64 &&& Int64.toUInt64 63)).toInt64) &&& (3689348814741910323 : Int64))) + (((Int64.toUInt64 (((a0 - ((((Int64.toUInt64 a0) >>> ((Int32.toInt64 (1 : Int32)).toUInt64 &&& Int64.toUInt64 63)).toInt64) &&& (6148914691236517205 : Int64))) &&& (3689348814741910323 : Int64)) + ((((Int64.toUInt64 (a0 - ((((Int64.toUInt64 a0) >>> ((Int32.toInt64 (1 : Int32)).toUInt64 &&& Int64.toUInt64 63)).toInt64) &&& (6148914691236517205 : Int64)))) >>> ((Int32.toInt64 (2 : Int32)).toUInt64 &&& Int64.toUInt64 63)).toInt64) &&& (3689348814741910323 : Int64)))) >>> ((Int32.toInt64 (4 : Int32)).toUInt64 &&& Int64.toUInt64 63)).toInt64)) &&& (1085102592571150095 : Int64)) + (((Int64.toUInt64 (((((a0 - ((((Int64.toUInt64 a0) >>> ((Int32.toInt64 (1 : Int32)).toUInt64 &&& Int64.toUInt64 63)).toInt64) &&& (6148914691236517205 : Int64))) &&& (3689348814741910323 : Int64)) + ((((Int64.toUInt64 (a0 - ((((Int64.toUInt64 a0) >>> ((Int32.toInt64 (1 : Int32)).toUInt64 &&& Int64.toUInt64 63)).toInt64) &&& (6148914691236517205 : Int64)))) >>> ((Int32.toInt64 (2 : Int32)).toUInt64 &&& Int64.toUInt64 63)).toInt64) &&& (3689348814741910323 : Int64))) + (((Int64.toUInt64 (((a0 - ((((Int64.toUInt64 a0) >>> ((Int32.toInt64 (1 : Int32)).toUInt64 &&& Int64.toUInt64 63)).toInt64) &&& (6148914691236517205 : Int64))) &&& (3689348814741910323 : Int64)) + ((((Int64.toUInt64 (a0 - ((((Int64.toUInt64 a0) >>> ((Int32.toInt64 (1 : Int32)).toUInt64 &&& Int64.toUInt64 63)).toInt64) &&& (6148914691236517205 : Int64)))) >>> ((Int32.toInt64 (2 : Int32)).toUInt64 &&& Int64.toUInt64 63)).toInt64) &&& (3689348814741910323 : Int64)))) >>> ((Int32.toInt64 (4 : Int32)).toUInt64 &&& Int64.toUInt64 63)).toInt64)) &&& (1085102592571150095 : Int64))) >>> ((Int32.toInt64 (8 : Int32)).toUInt64 &&& Int64.toUInt64 63)).toInt64)) + (((Int64.toUInt64 ((((((a0 - ((((Int64.toUInt64 a0) >>> ((Int32.toInt64 (1 : Int32)).toUInt64 &&& Int64.toUInt64 63)).toInt64) &&& (6148914691236517205 : Int64))) &&& (3689348814741910323 : Int64)) + ((((Int64.toUInt64 (a0 - ((((Int64.toUInt64 a0) >>> ((Int32.toInt64 (1 : Int32)).toUInt64 &&& Int64.toUInt64 63)).toInt64) &&& (6148914691236517205 : Int64)))) >>> ((Int32.toInt64 (2 : Int32)).toUInt64 &&& Int64.toUInt64 63)).toInt64) &&& (3689348814741910323 : Int64))) + (((Int64.toUInt64 (((a0 - ((((Int64.toUInt64 a0) >>> ((Int32.toInt64 (1 : Int32)).toUInt64 &&& Int64.toUInt64 63)).toInt64) &&& (6148914691236517205 : Int64))) &&& (3689348814741910323 : Int64)) + ((((Int64.toUInt64 (a0 - ((((Int64.toUInt64 a0) >>> ((Int32.toInt64 (1 : Int32)).toUInt64 &&& Int64.toUInt64 63)).toInt64) &&& (6148914691236517205 : Int64)))) >>> ((Int32.toInt64 (2 : Int32)).toUInt64 &&& Int64.toUInt64 63)).toInt64) &&& (3689348814741910323 : Int64)))) >>> ((Int32.toInt64 (4 : Int32)).toUInt64 &&& Int64.toUInt64 63)).toInt64)) &&& (1085102592571150095 : Int64)) + (((Int64.toUInt64 (((((a0 - ((((Int64.toUInt64 a0) >>> ((Int32.toInt64 (1 : Int32)).toUInt64 &&& Int64.toUInt64 63)).toInt64) &&& (6148914691236517205 : Int64))) &&& (3689348814741910323 : Int64)) + ((((Int64.toUInt64 (a0 - ((((Int64.toUInt64 a0) >>> ((Int32.toInt64 (1 : Int32)).toUInt64 &&& Int64.toUInt64 63)).toInt64) &&& (6148914691236517205 : Int64)))) >>> ((Int32.toInt64 (2 : Int32)).toUInt64 &&& Int64.toUInt64 63)).toInt64) &&& (3689348814741910323 : Int64))) + (((Int64.toUInt64 (((a0 - ((((Int64.toUInt64 a0) >>> ((Int32.toInt64 (1 : Int32)).toUInt64 &&& Int64.toUInt64 63)).toInt64) &&& (6148914691236517205 : Int64))) &&& (3689348814741910323 : Int64)) + ((((Int64.toUInt64 (a0 - ((((Int64.toUInt64 a0) >>> ((Int32.toInt64 (1 : Int32)).toUInt64 &&& Int64.toUInt64 63)).toInt64) &&& (6148914691236517205 : Int64)))) >>> ((Int32.toInt64 (2 : Int32)).toUInt64 &&& Int64.toUInt64 63)).toInt64) &&& (3689348814741910323 : Int64)))) >>> ((Int32.toInt64 (4 : Int32)).toUInt64 &&& Int64.toUInt64 63)).toInt64)) &&& (1085102592571150095 : Int64))) >>> ((Int32.toInt64 (8 : Int32)).toUInt64 &&& Int64.toUInt64 63)).toInt64))) >>> ((Int32.toInt64 (16 : Int32)).toUInt64 &&& Int64.toUInt64 63)).toInt64)) + (((Int64.toUInt64 (((((((a0 - ((((Int64.toUInt64 a0) >>> ((Int32.toInt64 (1 : Int32)).toUInt64 &&& Int64.toUInt64 63)).toInt64) &&& (6148914691236517205 : Int64))) &&& (3689348814741910323 : Int64)) + ((((Int64.toUInt64 (a0 - ((((Int64.toUInt64 a0) >>> ((Int32.toInt64 (1 : Int32)).toUInt64 &&& Int64.toUInt64 63)).toInt64) &&& (6148914691236517205 : Int64)))) >>> ((Int32.toInt64 (2 : Int32)).toUInt64 &&& Int64.toUInt64 63)).toInt64) &&& (3689348814741910323 : Int64))) + (((Int64.toUInt64 (((a0 - ((((Int64.toUInt64 a0) >>> ((Int32.toInt64 (1 : Int32)).toUInt64 &&& Int64.toUInt64 63)).toInt64) &&& (6148914691236517205 : Int64))) &&& (3689348814741910323 : Int64)) + ((((Int64.toUInt64 (a0 - ((((Int64.toUInt64 a0) >>> ((Int32.toInt64 (1 : Int32)).toUInt64 &&& Int64.toUInt64 63)).toInt64) &&& (6148914691236517205 : Int64)))) >>> ((Int32.toInt64 (2 : Int32)).toUInt64 &&& Int64.toUInt64 63)).toInt64) &&& (3689348814741910323 : Int64)))) >>> ((Int32.toInt64 (4 : Int32)).toUInt64 &&& Int64.toUInt64 63)).toInt64)) &&& (1085102592571150095 : Int64)) + (((Int64.toUInt64 (((((a0 - ((((Int64.toUInt64 a0) >>> ((Int32.toInt64 (1 : Int32)).toUInt64 &&& Int64.toUInt64 63)).toInt64) &&& (6148914691236517205 : Int64))) &&& (3689348814741910323 : Int64)) + ((((Int64.toUInt64 (a0 - ((((Int64.toUInt64 a0) >>> ((Int32.toInt64 (1 : Int32)).toUInt64 &&& Int64.toUInt64 63)).toInt64) &&& (6148914691236517205 : Int64)))) >>> ((Int32.toInt64 (2 : Int32)).toUInt64 &&& Int64.toUInt64 63)).toInt64) &&& (3689348814741910323 : Int64))) + (((Int64.toUInt64 (((a0 - ((((Int64.toUInt64 a0) >>> ((Int32.toInt64 (1 : Int32)).toUInt64 &&& Int64.toUInt64 63)).toInt64) &&& (6148914691236517205 : Int64))) &&& (3689348814741910323 : Int64)) + ((((Int64.toUInt64 (a0 - ((((Int64.toUInt64 a0) >>> ((Int32.toInt64 (1 : Int32)).toUInt64 &&& Int64.toUInt64 63)).toInt64) &&& (6148914691236517205 : Int64)))) >>> ((Int32.toInt64 (2 : Int32)).toUInt64 &&& Int64.toUInt64 63)).toInt64) &&& (3689348814741910323 : Int64)))) >>> ((Int32.toInt64 (4 : Int32)).toUInt64 &&& Int64.toUInt64 63)).toInt64)) &&& (1085102592571150095 : Int64))) >>> ((Int32.toInt64 (8 : Int32)).toUInt64 &&& Int64.toUInt64 63)).toInt64)) + (((Int64.toUInt64 ((((((a0 - ((((Int64.toUInt64 a0) >>> ((Int32.toInt64 (1 : Int32)).toUInt64 &&& Int64.toUInt64 63)).toInt64) &&& (6148914691236517205 : Int64))) &&& (3689348814741910323 : Int64)) + ((((Int64.toUInt64 (a0 - ((((Int64.toUInt64 a0) >>> ((Int32.toInt64 (1 : Int32)).toUInt64 &&& Int64.toUInt64 63)).toInt64) &&& (6148914691236517205 : Int64)))) >>> ((Int32.toInt64 (2 : Int32)).toUInt64 &&& Int64.toUInt64 63)).toInt64) &&& (3689348814741910323 : Int64))) + (((Int64.toUInt64 (((a0 - ((((Int64.toUInt64 a0) >>> ((Int32.toInt64 (1 : Int32)).toUInt64 &&& Int64.toUInt64 63)).toInt64) &&& (6148914691236517205 : Int64))) &&& (3689348814741910323 : Int64)) + ((((Int64.toUInt64 (a0 - ((((Int64.toUInt64 a0) >>> ((Int32.toInt64 (1 : Int32)).toUInt64 &&& Int64.toUInt64 63)).toInt64) &&& (6148914691236517205 : Int64)))) >>> ((Int32.toInt64 (2 : Int32)).toUInt64 &&& Int64.toUInt64 63)).toInt64) &&& (3689348814741910323 : Int64)))) >>> ((Int32.toInt64 (4 : Int32)).toUInt64 &&& Int64.toUInt64 63)).toInt64)) &&& (1085102592571150095 : Int64)) + (((Int64.toUInt64 (((((a0 - ((((Int64.toUInt64 a0) >>> ((Int32.toInt64 (1 : Int32)).toUInt64 &&& Int64.toUInt64 63)).toInt64) &&& (6148914691236517205 : Int64))) &&& (3689348814741910323 : Int64)) + ((((Int64.toUInt64 (a0 - ((((Int64.toUInt64 a0) >>> ((Int32.toInt64 (1 : Int32)).toUInt64 &&& Int64.toUInt64 63)).toInt64) &&& (6148914691236517205 : Int64)))) >>> ((Int32.toInt64 (2 : Int32)).toUInt64 &&& Int64.toUInt64 63)).toInt64) &&& (3689348814741910323 : Int64))) + (((Int64.toUInt64 (((a0 - ((((Int64.toUInt64 a0) >>> ((Int32.toInt64 (1 : Int32)).toUInt64 &&& Int64.toUInt64 63)).toInt64) &&& (6148914691236517205 : Int64))) &&& (3689348814741910323 : Int64)) + ((((Int64.toUInt64 (a0 - ((((Int64.toUInt64 a0) >>> ((Int32.toInt64 (1 : Int32)).toUInt64 &&& Int64.toUInt64 63)).toInt64) &&& (6148914691236517205 : Int64)))) >>> ((Int32.toInt64 (2 : Int32)).toUInt64 &&& Int64.toUInt64 63)).toInt64) &&& (3689348814741910323 : Int64)))) >>> ((Int32.toInt64 (4 : Int32)).toUInt64 &&& Int64.toUInt64 63)).toInt64)) &&& (1085102592571150095 : Int64))) >>> ((Int32.toInt64 (8 : Int32)).toUInt64 &&& Int64.toUInt64 63)).toInt64))) >>> ((Int32.toInt64 (16 : Int32)).toUInt64 &&& Int64.toUInt64 63)).toInt64))) >>> ((Int32.toInt64 (32 : Int32)).toUInt64 &&& Int64.toUInt64 63)).toInt64)), rx_no] [.int ((Int64.toInt32 ((((((((a0 - ((((Int64.toUInt64 a0) >>> ((Int32.toInt64 (1 : Int32)).toUInt64 &&& Int64.toUInt64 63)).toInt64) &&& (6148914691236517205 : Int64))) &&& (3689348814741910323 : Int64)) + ((((Int64.toUInt64 (a0 - ((((Int64.toUInt64 a0) >>> ((Int32.toInt64 (1 : Int32)).toUInt64 &&& Int64.toUInt64 63)).toInt64) &&& (6148914691236517205 : Int64)))) >>> ((Int32.toInt64 (2 : Int32)).toUInt64 &&& Int64.toUInt64 63)).toInt64) &&& (3689348814741910323 : Int64))) + (((Int64.toUInt64 (((a0 - ((((Int64.toUInt64 a0) >>> ((Int32.toInt64 (1 : Int32)).toUInt64 &&& Int64.toUInt64 63)).toInt64) &&& (6148914691236517205 : Int64))) &&& (3689348814741910323 : Int64)) + ((((Int64.toUInt64 (a0 - ((((Int64.toUInt64 a0) >>> ((Int32.toInt64 (1 : Int32)).toUInt64 &&& Int64.toUInt64 63)).toInt64) &&& (6148914691236517205 : Int64)))) >>> ((Int32.toInt64 (2 : Int32)).toUInt64 &&& Int64.toUInt64 63)).toInt64) &&& (3689348814741910323 : Int64)))) >>> ((Int32.toInt64 (4 : Int32)).toUInt64 &&& Int64.toUInt64 63)).toInt64)) &&& (1085102592571150095 : Int64)) + (((Int64.toUInt64 (((((a0 - ((((Int64.toUInt64 a0) >>> ((Int32.toInt64 (1 : Int32)).toUInt64 &&& Int64.toUInt64 63)).toInt64) &&& (6148914691236517205 : Int64))) &&& (3689348814741910323 : Int64)) + ((((Int64.toUInt64 (a0 - ((((Int64.toUInt64 a0) >>> ((Int32.toInt64 (1 : Int32)).toUInt64 &&& Int64.toUInt64 63)).toInt64) &&& (6148914691236517205 : Int64)))) >>> ((Int32.toInt64 (2 : Int32)).toUInt64 &&& Int64.toUInt64 63)).toInt64) &&& (3689348814741910323 : Int64))) + (((Int64.toUInt64 (((a0 - ((((Int64.toUInt64 a0) >>> ((Int32.toInt64 (1 : Int32)).toUInt64 &&& Int64.toUInt64 63)).toInt64) &&& (6148914691236517205 : Int64))) &&& (3689348814741910323 : Int64)) + ((((Int64.toUInt64 (a0 - ((((Int64.toUInt64 a0) >>> ((Int32.toInt64 (1 : Int32)).toUInt64 &&& Int64.toUInt64 63)).toInt64) &&& (6148914691236517205 : Int64)))) >>> ((Int32.toInt64 (2 : Int32)).toUInt64 &&& Int64.toUInt64 63)).toInt64) &&& (3689348814741910323 : Int64)))) >>> ((Int32.toInt64 (4 : Int32)).toUInt64 &&& Int64.toUInt64 63)).toInt64)) &&& (1085102592571150095 : Int64))) >>> ((Int32.toInt64 (8 : Int32)).toUInt64 &&& Int64.toUInt64 63)).toInt64)) + (((Int64.toUInt64 ((((((a0 - ((((Int64.toUInt64 a0) >>> ((Int32.toInt64 (1 : Int32)).toUInt64 &&& Int64.toUInt64 63)).toInt64) &&& (6148914691236517205 : Int64))) &&& (3689348814741910323 : Int64)) + ((((Int64.toUInt64 (a0 - ((((Int64.toUInt64 a0) >>> ((Int32.toInt64 (1 : Int32)).toUInt64 &&& Int64.toUInt64 63)).toInt64) &&& (6148914691236517205 : Int64)))) >>> ((Int32.toInt64 (2 : Int32)).toUInt64 &&& Int64.toUInt64 63)).toInt64) &&& (3689348814741910323 : Int64))) + (((Int64.toUInt64 (((a0 - ((((Int64.toUInt64 a0) >>> ((Int32.toInt64 (1 : Int32)).toUInt64 &&& Int64.toUInt64 63)).toInt64) &&& (6148914691236517205 : Int64))) &&& (3689348814741910323 : Int64)) + ((((Int64.toUInt64 (a0 - ((((Int64.toUInt64 a0) >>> ((Int32.toInt64 (1 : Int32)).toUInt64 &&& Int64.toUInt64 63)).toInt64) &&& (6148914691236517205 : Int64)))) >>> ((Int32.toInt64 (2 : Int32)).toUInt64 &&& Int64.toUInt64 63)).toInt64) &&& (3689348814741910323 : Int64)))) >>> ((Int32.toInt64 (4 : Int32)).toUInt64 &&& Int64.toUInt64 63)).toInt64)) &&& (1085102592571150095 : Int64)) + (((Int64.toUInt64 (((((a0 - ((((Int64.toUInt64 a0) >>> ((Int32.toInt64 (1 : Int32)).toUInt64 &&& Int64.toUInt64 63)).toInt64) &&& (6148914691236517205 : Int64))) &&& (3689348814741910323 : Int64)) + ((((Int64.toUInt64 (a0 - ((((Int64.toUInt64 a0) >>> ((Int32.toInt64 (1 : Int32)).toUInt64 &&& Int64.toUInt64 63)).toInt64) &&& (6148914691236517205 : Int64)))) >>> ((Int32.toInt64 (2 : Int32)).toUInt64 &&& Int64.toUInt64 63)).toInt64) &&& (3689348814741910323 : Int64))) + (((Int64.toUInt64 (((a0 - ((((Int64.toUInt64 a0) >>> ((Int32.toInt64 (1 : Int32)).toUInt64 &&& Int64.toUInt64 63)).toInt64) &&& (6148914691236517205 : Int64))) &&& (3689348814741910323 : Int64)) + ((((Int64.toUInt64 (a0 - ((((Int64.toUInt64 a0) >>> ((Int32.toInt64 (1 : Int32)).toUInt64 &&& Int64.toUInt64 63)).toInt64) &&& (6148914691236517205 : Int64)))) >>> ((Int32.toInt64 (2 : Int32)).toUInt64 &&& Int64.toUInt64 63)).toInt64) &&& (3689348814741910323 : Int64)))) >>> ((Int32.toInt64 (4 : Int32)).toUInt64 &&& Int64.toUInt64 63)).toInt64)) &&& (1085102592571150095 : Int64))) >>> ((Int32.toInt64 (8 : Int32)).toUInt64 &&& Int64.toUInt64 63)).toInt64))) >>> ((Int32.toInt64 (16 : Int32)).toUInt64 &&& Int64.toUInt64 63)).toInt64)) + (((Int64.toUInt64 (((((((a0 - ((((Int64.toUInt64 a0) >>> ((Int32.toInt64 (1 : Int32)).toUInt64 &&& Int64.toUInt64 63)).toInt64) &&& (6148914691236517205 : Int64))) &&& (3689348814741910323 : Int64)) + ((((Int64.toUInt64 (a0 - ((((Int64.toUInt64 a0) >>> ((Int32.toInt64 (1 : Int32)).toUInt64 &&& Int64.toUInt64 63)).toInt64) &&& (6148914691236517205 : Int64)))) >>> ((Int32.toInt64 (2 : Int32)).toUInt64 &&& Int64.toUInt64 63)).toInt64) &&& (3689348814741910323 : Int64))) + (((Int64.toUInt64 (((a0 - ((((Int64.toUInt64 a0) >>> ((Int32.toInt64 (1 : Int32)).toUInt64 &&& Int64.toUInt64 63)).toInt64) &&& (6148914691236517205 : Int64))) &&& (3689348814741910323 : Int64)) + ((((Int64.toUInt64 (a0 - ((((Int64.toUInt64 a0) >>> ((Int32.toInt64 (1 : Int32)).toUInt64 &&& Int64.toUInt64 63)).toInt64) &&& (6148914691236517205 : Int64)))) >>> ((Int32.toInt64 (2 : Int32)).toUInt64 &&& Int64.toUInt64 63)).toInt64) &&& (3689348814741910323 : Int64)))) >>> ((Int32.toInt64 (4 : Int32)).toUInt64 &&& Int64.toUInt64 63)).toInt64)) &&& (1085102592571150095 : Int64)) + (((Int64.toUInt64 (((((a0 - ((((Int64.toUInt64 a0) >>> ((Int32.toInt64 (1 : Int32)).toUInt64 &&& Int64.toUInt64 63)).toInt64) &&& (6148914691236517205 : Int64))) &&& (3689348814741910323 : Int64)) + ((((Int64.toUInt64 (a0 - ((((Int64.toUInt64 a0) >>> ((Int32.toInt64 (1 : Int32)).toUInt64 &&& Int64.toUInt64 63)).toInt64) &&& (6148914691236517205 : Int64)))) >>> ((Int32.toInt64 (2 : Int32)).toUInt64 &&& Int64.toUInt64 63)).toInt64) &&& (3689348814741910323 : Int64))) + (((Int64.toUInt64 (((a0 - ((((Int64.toUInt64 a0) >>> ((Int32.toInt64 (1 : Int32)).toUInt64 &&& Int64.toUInt64 63)).toInt64) &&& (6148914691236517205 : Int64))) &&& (3689348814741910323 : Int64)) + ((((Int64.toUInt64 (a0 - ((((Int64.toUInt64 a0) >>> ((Int32.toInt64 (1 : Int32)).toUInt64 &&& Int64.toUInt64 63)).toInt64) &&& (6148914691236517205 : Int64)))) >>> ((Int32.toInt64 (2 : Int32)).toUInt64 &&& Int64.toUInt64 63)).toInt64) &&& (3689348814741910323 : Int64)))) >>> ((Int32.toInt64 (4 : Int32)).toUInt64 &&& Int64.toUInt64 63)).toInt64)) &&& (1085102592571150095 : Int64))) >>> ((Int32.toInt64 (8 : Int32)).toUInt64 &&& Int64.toUInt64 63)).toInt64)) + (((Int64.toUInt64 ((((((a0 - ((((Int64.toUInt64 a0) >>> ((Int32.toInt64 (1 : Int32)).toUInt64 &&& Int64.toUInt64 63)).toInt64) &&& (6148914691236517205 : Int64))) &&& (3689348814741910323 : Int64)) + ((((Int64.toUInt64 (a0 - ((((Int64.toUInt64 a0) >>> ((Int32.toInt64 (1 : Int32)).toUInt64 &&& Int64.toUInt64 63)).toInt64) &&& (6148914691236517205 : Int64)))) >>> ((Int32.toInt64 (2 : Int32)).toUInt64 &&& Int64.toUInt64 63)).toInt64) &&& (3689348814741910323 : Int64))) + (((Int64.toUInt64 (((a0 - ((((Int64.toUInt64 a0) >>> ((Int32.toInt64 (1 : Int32)).toUInt64 &&& Int64.toUInt64 63)).toInt64) &&& (6148914691236517205 : Int64))) &&& (3689348814741910323 : Int64)) + ((((Int64.toUInt64 (a0 - ((((Int64.toUInt64 a0) >>> ((Int32.toInt64 (1 : Int32)).toUInt64 &&& Int64.toUInt64 63)).toInt64) &&& (6148914691236517205 : Int64)))) >>> ((Int32.toInt64 (2 : Int32)).toUInt64 &&& Int64.toUInt64 63)).toInt64) &&& (3689348814741910323 : Int64)))) >>> ((Int32.toInt64 (4 : Int32)).toUInt64 &&& Int64.toUInt64 63)).toInt64)) &&& (1085102592571150095 : Int64)) + (((Int64.toUInt64 (((((a0 - ((((Int64.toUInt64 a0) >>> ((Int32.toInt64 (1 : Int32)).toUInt64 &&& Int64.toUInt64 63)).toInt64) &&& (6148914691236517205 : Int64))) &&& (3689348814741910323 : Int64)) + ((((Int64.toUInt64 (a0 - ((((Int64.toUInt64 a0) >>> ((Int32.toInt64 (1 : Int32)).toUInt64 &&& Int64.toUInt64 63)).toInt64) &&& (6148914691236517205 : Int64)))) >>> ((Int32.toInt64 (2 : Int32)).toUInt64 &&& Int64.toUInt64 63)).toInt64) &&& (3689348814741910323 : Int64))) + (((Int64.toUInt64 (((a0 - ((((Int64.toUInt64 a0) >>> ((Int32.toInt64 (1 : Int32)).toUInt64 &&& Int64.toUInt64 63)).toInt64) &&& (6148914691236517205 : Int64))) &&& (3689348814741910323 : Int64)) + ((((Int64.toUInt64 (a0 - ((((Int64.toUInt64 a0) >>> ((Int32.toInt64 (1 : Int32)).toUInt64 &&& Int64.toUInt64 63)).toInt64) &&& (6148914691236517205 : Int64)))) >>> ((Int32.toInt64 (2 : Int32)).toUInt64 &&& Int64.toUInt64 63)).toInt64) &&& (3689348814741910323 : Int64)))) >>> ((Int32.toInt64 (4 : Int32)).toUInt64 &&& Int64.toUInt64 63)).toInt64)) &&& (1085102592571150095 : Int64))) >>> ((Int32.toInt64 (8 : Int32)).toUInt64 &&& Int64.toUInt64 63)).toInt64))) >>> ((Int32.toInt64 (16 : Int32)).toUInt64 &&& Int64.toUInt64 63)).toInt64))) >>> ((Int32.toInt64 (32 : Int32)).toUInt64 &&& Int64.toUInt64 63)).toInt64))) &&& (127 : Int32))] (rx_hp L t hi hl v) Q
  exact rx_aw_ret (pc := 60) rfl k
/-- CartFloor$Floor.stateOf(II)I -/
theorem w14_stateOf {L : Nat} {t : List (Nat × Nat)} {hi : Nat → Nat → Int32} {hl : Nat → Nat → Int64} {v : Nat → Nat → Option Nat} {Q : Option Value → rx_H → Prop} {a0 : Int32} {a1 : Int32} (k : ((0 ≤ a0 → Q (some (.int (a0 ||| (a1 <<< ((6 : Int32) &&& 31))))) (rx_hp L t hi hl v)) ∧ (¬ (0 ≤ a0) → Q (some (.int (-1 : Int32))) (rx_hp L t hi hl v)))) : rx_me 14 [.ref 7, .int a0, .int a1] (rx_hp L t hi hl v) Q := by
  show rx_aw 14 0 [.ref 7, .int a0, .int a1] [] (rx_hp L t hi hl v) Q
  refine rx_aw_s 2 (pc := 0) rfl ?_
  refine rx_w_if (c := 0 ≤ a0) ⟨fun c1 => ?_, fun c1 => ?_⟩
  · have k := k.1 c1
    show rx_aw 14 8 [.ref 7, .int a0, .int a1] [] (rx_hp L t hi hl v) Q
    refine rx_aw_s 5 (pc := 8) rfl ?_
    show rx_aw 14 14 [.ref 7, .int a0, .int a1] [.int (a0 ||| (a1 <<< ((6 : Int32) &&& 31)))] (rx_hp L t hi hl v) Q
    exact rx_aw_ret (pc := 14) rfl k
  · have k := k.2 c1
    show rx_aw 14 4 [.ref 7, .int a0, .int a1] [] (rx_hp L t hi hl v) Q
    refine rx_aw_s 2 (pc := 4) rfl ?_
    show rx_aw 14 14 [.ref 7, .int a0, .int a1] [.int (-1 : Int32)] (rx_hp L t hi hl v) Q
    exact rx_aw_ret (pc := 14) rfl k
/-- CartFloor$Floor.findLongSteps(I)V -/
theorem w15_findLongSteps {L : Nat} {t : List (Nat × Nat)} {hi : Nat → Nat → Int32} {hl : Nat → Nat → Int64} {v : Nat → Nat → Option Nat} {Q : Option Value → rx_H → Prop} {a0 : Int32} (k : rx_me 8 [.int a0] (rx_hp L t hi hl v) (fun r h2 => ∃ z1 : Int32, r = some (.int z1) ∧ rx_ok2 L t h2 (fun hi1 hl1 v1 => rx_me 16 [.int a0] (rx_hp L t hi1 hl1 v1) (fun r h2 => ∃ z2 : Int32, r = some (.int z2) ∧ rx_ok2 L t h2 (fun hi2 hl2 v2 => rx_me 11 [.ref 7, .int z1, .int (z2 ^^^ (2 : Int32))] (rx_hp L t hi2 hl2 v2) (fun r h2 => ∃ z3 : Int32, r = some (.int z3) ∧ rx_ok2 L t h2 (fun hi3 hl3 v3 => ((0 ≤ z3 → rx_me 9 [.int z1] (rx_hp L t hi3 hl3 v3) (fun r h2 => ∃ z5 : Int64, r = some (.long z5) ∧ rx_ok2 L t h2 (fun hi5 hl5 v5 => rx_me 9 [.int z3] (rx_hp L t hi5 hl5 v5) (fun r h2 => ∃ z6 : Int64, r = some (.long z6) ∧ rx_ok2 L t h2 (fun hi6 hl6 v6 => (∃ j7 : Nat, ((256 : Int32) + a0) = nI j7 ∧ j7 < 512 ∧ (∃ j8 : Nat, ((1280 : Int32) + a0) = nI j8 ∧ j8 < 2560 ∧ rx_me 11 [.ref 7, .int z1, .int z2] (rx_hp L t (rx_u hi6 10 j8 a0) (rx_u hl6 11 j7 (z5 ||| z6)) v6) (fun r h2 => ∃ z9 : Int32, r = some (.int z9) ∧ rx_ok2 L t h2 (fun hi9 hl9 v9 => rx_me 14 [.ref 7, .int z9, .int z2] (rx_hp L t hi9 hl9 v9) (fun r h2 => ∃ z10 : Int32, r = some (.int z10) ∧ rx_ok2 L t h2 (fun hi10 hl10 v10 => (∃ j11 : Nat, ((1536 : Int32) + a0) = nI j11 ∧ j11 < 2560 ∧ rx_me 11 [.ref 7, .int z3, .int (z2 ^^^ (2 : Int32))] (rx_hp L t (rx_u hi10 10 j11 z10) hl10 v10) (fun r h2 => ∃ z12 : Int32, r = some (.int z12) ∧ rx_ok2 L t h2 (fun hi12 hl12 v12 => ((z12 < 0 → (∃ j14 : Nat, ((1792 : Int32) + a0) = nI j14 ∧ j14 < 2560 ∧ rx_me 17 [.ref 7, .int a0, .int (3 : Int32), .int ((z2 + (3 : Int32)) &&& (3 : Int32))] (rx_hp L t (rx_u hi12 10 j14 (-1 : Int32)) hl12 v12) (fun r h2 => r = none ∧ rx_ok2 L t h2 (fun hi15 hl15 v15 => rx_me 17 [.ref 7, .int a0, .int (4 : Int32), .int ((z2 + (1 : Int32)) &&& (3 : Int32))] (rx_hp L t hi15 hl15 v15) (fun r h2 => r = none ∧ rx_ok2 L t h2 (fun hi16 hl16 v16 => Q none (rx_hp L t hi16 hl16 v16))))))) ∧ (¬ (z12 < 0) → rx_me 14 [.ref 7, .int z3, .int z2] (rx_hp L t hi12 hl12 v12) (fun r h2 => ∃ z17 : Int32, r = some (.int z17) ∧ rx_ok2 L t h2 (fun hi17 hl17 v17 => (∃ j18 : Nat, ((1792 : Int32) + a0) = nI j18 ∧ j18 < 2560 ∧ rx_me 17 [.ref 7, .int a0, .int (3 : Int32), .int ((z2 + (3 : Int32)) &&& (3 : Int32))] (rx_hp L t (rx_u hi17 10 j18 z17) hl17 v17) (fun r h2 => r = none ∧ rx_ok2 L t h2 (fun hi19 hl19 v19 => rx_me 17 [.ref 7, .int a0, .int (4 : Int32), .int ((z2 + (1 : Int32)) &&& (3 : Int32))] (rx_hp L t hi19 hl19 v19) (fun r h2 => r = none ∧ rx_ok2 L t h2 (fun hi20 hl20 v20 => Q none (rx_hp L t hi20 hl20 v20)))))))))))))))))))))))) ∧ (¬ (0 ≤ z3) → Q none (rx_hp L t hi3 hl3 v3)))))))))) : rx_me 15 [.ref 7, .int a0] (rx_hp L t hi hl v) Q := by
  show rx_aw 15 0 [.ref 7, .int a0, rx_no, rx_no, rx_no, rx_no] [] (rx_hp L t hi hl v) Q
  refine rx_aw_s 1 (pc := 0) rfl ?_
  show rx_aw 15 1 [.ref 7, .int a0, rx_no, rx_no, rx_no, rx_no] [.int a0] (rx_hp L t hi hl v) Q
  refine rx_w_callI (j := 8) (pc := 1) rfl rfl rfl rfl rfl ?_
  refine rx_aw.mono k (fun r h2 k => ?_)
  obtain ⟨z1, rfl, hi1, hl1, v1, rfl, k⟩ := k
  refine ⟨z1, rfl, ?_⟩
  show rx_aw 15 4 [.ref 7, .int a0, rx_no, rx_no, rx_no, rx_no] [.int z1] (rx_hp L t hi1 hl1 v1) Q
  refine rx_aw_s 2 (pc := 4) rfl ?_
  show rx_aw 15 6 [.ref 7, .int a0, .int z1, rx_no, rx_no, rx_no] [.int a0] (rx_hp L t hi1 hl1 v1) Q
  refine rx_w_callI (j := 16) (pc := 6) rfl rfl rfl rfl rfl ?_
  refine rx_aw.mono k (fun r h2 k => ?_)
  obtain ⟨z2, rfl, hi2, hl2, v2, rfl, k⟩ := k
  refine ⟨z2, rfl, ?_⟩
  show rx_aw 15 9 [.ref 7, .int a0, .int z1, rx_no, rx_no, rx_no] [.int z2] (rx_hp L t hi2 hl2 v2) Q
  refine rx_aw_s 6 (pc := 9) rfl ?_
  show rx_aw 15 15 [.ref 7, .int a0, .int z1, .int z2, rx_no, rx_no] [.int (z2 ^^^ (2 : Int32)), .int z1, .ref 7] (rx_hp L t hi2 hl2 v2) Q
  refine rx_w_callI (j := 11) (pc := 15) rfl rfl rfl rfl rfl ?_
  refine rx_aw.mono k (fun r h2 k => ?_)
  obtain ⟨z3, rfl, hi3, hl3, v3, rfl, k⟩ := k
  refine ⟨z3, rfl, ?_⟩
  show rx_aw 15 18 [.ref 7, .int a0, .int z1, .int z2, rx_no, rx_no] [.int z3] (rx_hp L t hi3 hl3 v3) Q
  refine rx_aw_s 3 (pc := 18) rfl ?_
  refine rx_w_if (c := 0 ≤ z3) ⟨fun c4 => ?_, fun c4 => ?_⟩
  · have k := k.1 c4
    show rx_aw 15 26 [.ref 7, .int a0, .int z1, .int z2, .int z3, rx_no] [] (rx_hp L t hi3 hl3 v3) Q
    refine rx_aw_s 6 (pc := 26) rfl ?_
    show rx_aw 15 36 [.ref 7, .int a0, .int z1, .int z2, .int z3, rx_no] [.int z1, .int ((256 : Int32) + a0), .ref 11] (rx_hp L t hi3 hl3 v3) Q
    refine rx_w_callL (j := 9) (pc := 36) rfl rfl rfl rfl rfl ?_
    refine rx_aw.mono k (fun r h2 k => ?_)
    obtain ⟨z5, rfl, hi5, hl5, v5, rfl, k⟩ := k
    refine ⟨z5, rfl, ?_⟩
    show rx_aw 15 39 [.ref 7, .int a0, .int z1, .int z2, .int z3, rx_no] [.long z5, .int ((256 : Int32) + a0), .ref 11] (rx_hp L t hi5 hl5 v5) Q
    refine rx_aw_s 1 (pc := 39) rfl ?_
    show rx_aw 15 41 [.ref 7, .int a0, .int z1, .int z2, .int z3, rx_no] [.int z3, .long z5, .int ((256 : Int32) + a0), .ref 11] (rx_hp L t hi5 hl5 v5) Q
    refine rx_w_callL (j := 9) (pc := 41) rfl rfl rfl rfl rfl ?_
    refine rx_aw.mono k (fun r h2 k => ?_)
    obtain ⟨z6, rfl, hi6, hl6, v6, rfl, k⟩ := k
    refine ⟨z6, rfl, ?_⟩
    show rx_aw 15 44 [.ref 7, .int a0, .int z1, .int z2, .int z3, rx_no] [.long z6, .long z5, .int ((256 : Int32) + a0), .ref 11] (rx_hp L t hi6 hl6 v6) Q
    refine rx_aw_s 1 (pc := 44) rfl ?_
    show rx_aw 15 45 [.ref 7, .int a0, .int z1, .int z2, .int z3, rx_no] [.long (z5 ||| z6), .int ((256 : Int32) + a0), .ref 11] (rx_hp L t hi6 hl6 v6) Q
    obtain ⟨j7, ej7, hj7, k⟩ := k
    refine rx_aw_last (pc := 45) (n := 512) j7 ej7 rfl rfl (by decide) rfl hj7 (by decide) ?_
    show rx_aw 15 46 [.ref 7, .int a0, .int z1, .int z2, .int z3, rx_no] [] (rx_hp L t hi6 (rx_u hl6 11 j7 (z5 ||| z6)) v6) Q
    refine rx_aw_s 6 (pc := 46) rfl ?_
    show rx_aw 15 56 [.ref 7, .int a0, .int z1, .int z2, .int z3, rx_no] [.int a0, .int ((1280 : Int32) + a0), .ref 10] (rx_hp L t hi6 (rx_u hl6 11 j7 (z5 ||| z6)) v6) Q
    obtain ⟨j8, ej8, hj8, k⟩ := k
    refine rx_aw_iast (pc := 56) (n := 2560) j8 ej8 rfl rfl (by decide) rfl hj8 (by decide) ?_
    show rx_aw 15 57 [.ref 7, .int a0, .int z1, .int z2, .int z3, rx_no] [] (rx_hp L t (rx_u hi6 10 j8 a0) (rx_u hl6 11 j7 (z5 ||| z6)) v6) Q
    refine rx_aw_s 9 (pc := 57) rfl ?_
    show rx_aw 15 70 [.ref 7, .int a0, .int z1, .int z2, .int z3, rx_no] [.int z2, .int z1, .ref 7, .ref 7, .int ((1536 : Int32) + a0), .ref 10] (rx_hp L t (rx_u hi6 10 j8 a0) (rx_u hl6 11 j7 (z5 ||| z6)) v6) Q
    refine rx_w_callI (j := 11) (pc := 70) rfl rfl rfl rfl rfl ?_
    refine rx_aw.mono k (fun r h2 k => ?_)
    obtain ⟨z9, rfl, hi9, hl9, v9, rfl, k⟩ := k
    refine ⟨z9, rfl, ?_⟩
    show rx_aw 15 73 [.ref 7, .int a0, .int z1, .int z2, .int z3, rx_no] [.int z9, .ref 7, .int ((1536 : Int32) + a0), .ref 10] (rx_hp L t hi9 hl9 v9) Q
    refine rx_aw_s 1 (pc := 73) rfl ?_
    show rx_aw 15 74 [.ref 7, .int a0, .int z1, .int z2, .int z3, rx_no] [.int z2, .int z9, .ref 7, .int ((1536 : Int32) + a0), .ref 10] (rx_hp L t hi9 hl9 v9) Q
    refine rx_w_callI (j := 14) (pc := 74) rfl rfl rfl rfl rfl ?_
    refine rx_aw.mono k (fun r h2 k => ?_)
    obtain ⟨z10, rfl, hi10, hl10, v10, rfl, k⟩ := k
    refine ⟨z10, rfl, ?_⟩
    show rx_aw 15 77 [.ref 7, .int a0, .int z1, .int z2, .int z3, rx_no] [.int z10, .int ((1536 : Int32) + a0), .ref 10] (rx_hp L t hi10 hl10 v10) Q
    obtain ⟨j11, ej11, hj11, k⟩ := k
    refine rx_aw_iast (pc := 77) (n := 2560) j11 ej11 rfl rfl (by decide) rfl hj11 (by decide) ?_
    show rx_aw 15 78 [.ref 7, .int a0, .int z1, .int z2, .int z3, rx_no] [] (rx_hp L t (rx_u hi10 10 j11 z10) hl10 v10) Q
    refine rx_aw_s 5 (pc := 78) rfl ?_
    show rx_aw 15 84 [.ref 7, .int a0, .int z1, .int z2, .int z3, rx_no] [.int (z2 ^^^ (2 : Int32)), .int z3, .ref 7] (rx_hp L t (rx_u hi10 10 j11 z10) hl10 v10) Q
    refine rx_w_callI (j := 11) (pc := 84) rfl rfl rfl rfl rfl ?_
    refine rx_aw.mono k (fun r h2 k => ?_)
    obtain ⟨z12, rfl, hi12, hl12, v12, rfl, k⟩ := k
    refine ⟨z12, rfl, ?_⟩
    show rx_aw 15 87 [.ref 7, .int a0, .int z1, .int z2, .int z3, rx_no] [.int z12] (rx_hp L t hi12 hl12 v12) Q
    refine rx_aw_s 1 (pc := 87) rfl ?_
    refine rx_w_if (c := z12 < 0) ⟨fun c13 => ?_, fun c13 => ?_⟩
    · have k := k.1 c13
      show rx_aw 15 94 [.ref 7, .int a0, .int z1, .int z2, .int z3, rx_no] [] (rx_hp L t hi12 hl12 v12) Q
      refine rx_aw_s 10 (pc := 94) rfl ?_
      show rx_aw 15 122 [.ref 7, .int a0, .int z1, .int z2, .int z3, .int (0 : Int32)] [.int (-1 : Int32), .int ((1792 : Int32) + a0), .ref 10] (rx_hp L t hi12 hl12 v12) Q
      obtain ⟨j14, ej14, hj14, k⟩ := k
      refine rx_aw_iast (pc := 122) (n := 2560) j14 ej14 rfl rfl (by decide) rfl hj14 (by decide) ?_
      show rx_aw 15 123 [.ref 7, .int a0, .int z1, .int z2, .int z3, .int (0 : Int32)] [] (rx_hp L t (rx_u hi12 10 j14 (-1 : Int32)) hl12 v12) Q
      refine rx_aw_s 8 (pc := 123) rfl ?_
      show rx_aw 15 131 [.ref 7, .int a0, .int z1, .int z2, .int z3, .int (0 : Int32)] [.int ((z2 + (3 : Int32)) &&& (3 : Int32)), .int (3 : Int32), .int a0, .ref 7] (rx_hp L t (rx_u hi12 10 j14 (-1 : Int32)) hl12 v12) Q
      refine rx_w_callV (j := 17) (pc := 131) rfl rfl rfl rfl rfl ?_
      refine rx_aw.mono k (fun r h2 k => ?_)
      obtain ⟨rfl, hi15, hl15, v15, rfl, k⟩ := k
      refine ⟨rfl, ?_⟩
      show rx_aw 15 134 [.ref 7, .int a0, .int z1, .int z2, .int z3, .int (0 : Int32)] [] (rx_hp L t hi15 hl15 v15) Q
      refine rx_aw_s 8 (pc := 134) rfl ?_
      show rx_aw 15 142 [.ref 7, .int a0, .int z1, .int z2, .int z3, .int (0 : Int32)] [.int ((z2 + (1 : Int32)) &&& (3 : Int32)), .int (4 : Int32), .int a0, .ref 7] (rx_hp L t hi15 hl15 v15) Q
      refine rx_w_callV (j := 17) (pc := 142) rfl rfl rfl rfl rfl ?_
      refine rx_aw.mono k (fun r h2 k => ?_)
      obtain ⟨rfl, hi16, hl16, v16, rfl, k⟩ := k
      refine ⟨rfl, ?_⟩
      show rx_aw 15 145 [.ref 7, .int a0, .int z1, .int z2, .int z3, .int (0 : Int32)] [] (rx_hp L t hi16 hl16 v16) Q
      exact rx_aw_ret (pc := 145) rfl k
    · have k := k.2 c13
      show rx_aw 15 90 [.ref 7, .int a0, .int z1, .int z2, .int z3, rx_no] [] (rx_hp L t hi12 hl12 v12) Q
      refine rx_aw_s 13 (pc := 90) rfl ?_
      show rx_aw 15 115 [.ref 7, .int a0, .int z1, .int z2, .int z3, .int (1 : Int32)] [.int z2, .int z3, .ref 7, .int ((1792 : Int32) + a0), .ref 10] (rx_hp L t hi12 hl12 v12) Q
      refine rx_w_callI (j := 14) (pc := 115) rfl rfl rfl rfl rfl ?_
      refine rx_aw.mono k (fun r h2 k => ?_)
      obtain ⟨z17, rfl, hi17, hl17, v17, rfl, k⟩ := k
      refine ⟨z17, rfl, ?_⟩
      show rx_aw 15 118 [.ref 7, .int a0, .int z1, .int z2, .int z3, .int (1 : Int32)] [.int z17, .int ((1792 : Int32) + a0), .ref 10] (rx_hp L t hi17 hl17 v17) Q
      refine rx_aw_s 1 (pc := 118) rfl ?_
      show rx_aw 15 122 [.ref 7, .int a0, .int z1, .int z2, .int z3, .int (1 : Int32)] [.int z17, .int ((1792 : Int32) + a0), .ref 10] (rx_hp L t hi17 hl17 v17) Q
      obtain ⟨j18, ej18, hj18, k⟩ := k
      refine rx_aw_iast (pc := 122) (n := 2560) j18 ej18 rfl rfl (by decide) rfl hj18 (by decide) ?_
      show rx_aw 15 123 [.ref 7, .int a0, .int z1, .int z2, .int z3, .int (1 : Int32)] [] (rx_hp L t (rx_u hi17 10 j18 z17) hl17 v17) Q
      refine rx_aw_s 8 (pc := 123) rfl ?_
      show rx_aw 15 131 [.ref 7, .int a0, .int z1, .int z2, .int z3, .int (1 : Int32)] [.int ((z2 + (3 : Int32)) &&& (3 : Int32)), .int (3 : Int32), .int a0, .ref 7] (rx_hp L t (rx_u hi17 10 j18 z17) hl17 v17) Q
      refine rx_w_callV (j := 17) (pc := 131) rfl rfl rfl rfl rfl ?_
      refine rx_aw.mono k (fun r h2 k => ?_)
      obtain ⟨rfl, hi19, hl19, v19, rfl, k⟩ := k
      refine ⟨rfl, ?_⟩
      show rx_aw 15 134 [.ref 7, .int a0, .int z1, .int z2, .int z3, .int (1 : Int32)] [] (rx_hp L t hi19 hl19 v19) Q
      refine rx_aw_s 8 (pc := 134) rfl ?_
      show rx_aw 15 142 [.ref 7, .int a0, .int z1, .int z2, .int z3, .int (1 : Int32)] [.int ((z2 + (1 : Int32)) &&& (3 : Int32)), .int (4 : Int32), .int a0, .ref 7] (rx_hp L t hi19 hl19 v19) Q
      refine rx_w_callV (j := 17) (pc := 142) rfl rfl rfl rfl rfl ?_
      refine rx_aw.mono k (fun r h2 k => ?_)
      obtain ⟨rfl, hi20, hl20, v20, rfl, k⟩ := k
      refine ⟨rfl, ?_⟩
      show rx_aw 15 145 [.ref 7, .int a0, .int z1, .int z2, .int z3, .int (1 : Int32)] [] (rx_hp L t hi20 hl20 v20) Q
      exact rx_aw_ret (pc := 145) rfl k
  · have k := k.2 c4
    show rx_aw 15 25 [.ref 7, .int a0, .int z1, .int z2, .int z3, rx_no] [] (rx_hp L t hi3 hl3 v3) Q
    exact rx_aw_ret (pc := 25) rfl k
/-- CartFloor.headingOf(I)I -/
theorem w16_headingOf {L : Nat} {t : List (Nat × Nat)} {hi : Nat → Nat → Int32} {hl : Nat → Nat → Int64} {v : Nat → Nat → Option Nat} {Q : Option Value → rx_H → Prop} {a0 : Int32} (k : Q (some (.int ((a0 >>> ((6 : Int32) &&& 31)) &&& (3 : Int32)))) (rx_hp L t hi hl v)) : rx_me 16 [.int a0] (rx_hp L t hi hl v) Q := by
  show rx_aw 16 0 [.int a0] [] (rx_hp L t hi hl v) Q
  refine rx_aw_s 5 (pc := 0) rfl ?_
  show rx_aw 16 6 [.int a0] [.int ((a0 >>> ((6 : Int32) &&& 31)) &&& (3 : Int32))] (rx_hp L t hi hl v) Q
  exact rx_aw_ret (pc := 6) rfl k
/-- CartFloor$Floor.findTurn(III)V -/
theorem w17_findTurn {L : Nat} {t : List (Nat × Nat)} {hi : Nat → Nat → Int32} {hl : Nat → Nat → Int64} {v : Nat → Nat → Option Nat} {Q : Option Value → rx_H → Prop} {a0 : Int32} {a1 : Int32} {a2 : Int32} (k : rx_me 8 [.int a0] (rx_hp L t hi hl v) (fun r h2 => ∃ z1 : Int32, r = some (.int z1) ∧ rx_ok2 L t h2 (fun hi1 hl1 v1 => rx_me 11 [.ref 7, .int z1, .int a2] (rx_hp L t hi1 hl1 v1) (fun r h2 => ∃ z2 : Int32, r = some (.int z2) ∧ rx_ok2 L t h2 (fun hi2 hl2 v2 => rx_me 8 [.int a0] (rx_hp L t hi2 hl2 v2) (fun r h2 => ∃ z3 : Int32, r = some (.int z3) ∧ rx_ok2 L t h2 (fun hi3 hl3 v3 => rx_me 16 [.int a0] (rx_hp L t hi3 hl3 v3) (fun r h2 => ∃ z4 : Int32, r = some (.int z4) ∧ rx_ok2 L t h2 (fun hi4 hl4 v4 => rx_me 11 [.ref 7, .int z3, .int (z4 ^^^ (2 : Int32))] (rx_hp L t hi4 hl4 v4) (fun r h2 => ∃ z5 : Int32, r = some (.int z5) ∧ rx_ok2 L t h2 (fun hi5 hl5 v5 => rx_me 11 [.ref 7, .int z5, .int a2] (rx_hp L t hi5 hl5 v5) (fun r h2 => ∃ z6 : Int32, r = some (.int z6) ∧ rx_ok2 L t h2 (fun hi6 hl6 v6 => ((z2 < 0 → Q none (rx_hp L t hi6 hl6 v6)) ∧ (¬ (z2 < 0) → ((z6 < 0 → Q none (rx_hp L t hi6 hl6 v6)) ∧ (¬ (z6 < 0) → rx_me 14 [.ref 7, .int z6, .int a2] (rx_hp L t hi6 hl6 v6) (fun r h2 => ∃ z9 : Int32, r = some (.int z9) ∧ rx_ok2 L t h2 (fun hi9 hl9 v9 => (∃ j10 : Nat, (((1280 : Int32) + (a1 * (256 : Int32))) + a0) = nI j10 ∧ j10 < 2560 ∧ (∃ j11 : Nat, ((256 : Int32) + a0) = nI j11 ∧ j11 < 512 ∧ rx_me 9 [.int z6] (rx_hp L t (rx_u hi9 10 j10 z9) hl9 v9) (fun r h2 => ∃ z12 : Int64, r = some (.long z12) ∧ rx_ok2 L t h2 (fun hi12 hl12 v12 => rx_me 9 [.int z2] (rx_hp L t hi12 hl12 v12) (fun r h2 => ∃ z13 : Int64, r = some (.long z13) ∧ rx_ok2 L t h2 (fun hi13 hl13 v13 => (∃ j14 : Nat, (((a1 - (3 : Int32)) * (256 : Int32)) + a0) = nI j14 ∧ j14 < 512 ∧ Q none (rx_hp L t hi13 (rx_u hl13 12 j14 (((hl9 11 j11) ||| z12) ||| z13)) v13))))))))))))))))))))))))))) : rx_me 17 [.ref 7, .int a0, .int a1, .int a2] (rx_hp L t hi hl v) Q := by
  show rx_aw 17 0 [.ref 7, .int a0, .int a1, .int a2, rx_no, rx_no] [] (rx_hp L t hi hl v) Q
  refine rx_aw_s 2 (pc := 0) rfl ?_
  show rx_aw 17 2 [.ref 7, .int a0, .int a1, .int a2, rx_no, rx_no] [.int a0, .ref 7] (rx_hp L t hi hl v) Q
  refine rx_w_callI (j := 8) (pc := 2) rfl rfl rfl rfl rfl ?_
  refine rx_aw.mono k (fun r h2 k => ?_)
  obtain ⟨z1, rfl, hi1, hl1, v1, rfl, k⟩ := k
  refine ⟨z1, rfl, ?_⟩
  show rx_aw 17 5 [.ref 7, .int a0, .int a1, .int a2, rx_no, rx_no] [.int z1, .ref 7] (rx_hp L t hi1 hl1 v1) Q
  refine rx_aw_s 1 (pc := 5) rfl ?_
  show rx_aw 17 6 [.ref 7, .int a0, .int a1, .int a2, rx_no, rx_no] [.int a2, .int z1, .ref 7] (rx_hp L t hi1 hl1 v1) Q
  refine rx_w_callI (j := 11) (pc := 6) rfl rfl rfl rfl rfl ?_
  refine rx_aw.mono k (fun r h2 k => ?_)
  obtain ⟨z2, rfl, hi2, hl2, v2, rfl, k⟩ := k
  refine ⟨z2, rfl, ?_⟩
  show rx_aw 17 9 [.ref 7, .int a0, .int a1, .int a2, rx_no, rx_no] [.int z2] (rx_hp L t hi2 hl2 v2) Q
  refine rx_aw_s 4 (pc := 9) rfl ?_
  show rx_aw 17 14 [.ref 7, .int a0, .int a1, .int a2, .int z2, rx_no] [.int a0, .ref 7, .ref 7] (rx_hp L t hi2 hl2 v2) Q
  refine rx_w_callI (j := 8) (pc := 14) rfl rfl rfl rfl rfl ?_
  refine rx_aw.mono k (fun r h2 k => ?_)
  obtain ⟨z3, rfl, hi3, hl3, v3, rfl, k⟩ := k
  refine ⟨z3, rfl, ?_⟩
  show rx_aw 17 17 [.ref 7, .int a0, .int a1, .int a2, .int z2, rx_no] [.int z3, .ref 7, .ref 7] (rx_hp L t hi3 hl3 v3) Q
  refine rx_aw_s 1 (pc := 17) rfl ?_
  show rx_aw 17 18 [.ref 7, .int a0, .int a1, .int a2, .int z2, rx_no] [.int a0, .int z3, .ref 7, .ref 7] (rx_hp L t hi3 hl3 v3) Q
  refine rx_w_callI (j := 16) (pc := 18) rfl rfl rfl rfl rfl ?_
  refine rx_aw.mono k (fun r h2 k => ?_)
  obtain ⟨z4, rfl, hi4, hl4, v4, rfl, k⟩ := k
  refine ⟨z4, rfl, ?_⟩
  show rx_aw 17 21 [.ref 7, .int a0, .int a1, .int a2, .int z2, rx_no] [.int z4, .int z3, .ref 7, .ref 7] (rx_hp L t hi4 hl4 v4) Q
  refine rx_aw_s 2 (pc := 21) rfl ?_
  show rx_aw 17 23 [.ref 7, .int a0, .int a1, .int a2, .int z2, rx_no] [.int (z4 ^^^ (2 : Int32)), .int z3, .ref 7, .ref 7] (rx_hp L t hi4 hl4 v4) Q
  refine rx_w_callI (j := 11) (pc := 23) rfl rfl rfl rfl rfl ?_
  refine rx_aw.mono k (fun r h2 k => ?_)
  obtain ⟨z5, rfl, hi5, hl5, v5, rfl, k⟩ := k
  refine ⟨z5, rfl, ?_⟩
  show rx_aw 17 26 [.ref 7, .int a0, .int a1, .int a2, .int z2, rx_no] [.int z5, .ref 7] (rx_hp L t hi5 hl5 v5) Q
  refine rx_aw_s 1 (pc := 26) rfl ?_
  show rx_aw 17 27 [.ref 7, .int a0, .int a1, .int a2, .int z2, rx_no] [.int a2, .int z5, .ref 7] (rx_hp L t hi5 hl5 v5) Q
  refine rx_w_callI (j := 11) (pc := 27) rfl rfl rfl rfl rfl ?_
  refine rx_aw.mono k (fun r h2 k => ?_)
  obtain ⟨z6, rfl, hi6, hl6, v6, rfl, k⟩ := k
  refine ⟨z6, rfl, ?_⟩
  show rx_aw 17 30 [.ref 7, .int a0, .int a1, .int a2, .int z2, rx_no] [.int z6] (rx_hp L t hi6 hl6 v6) Q
  refine rx_aw_s 3 (pc := 30) rfl ?_
  refine rx_w_if (c := z2 < 0) ⟨fun c7 => ?_, fun c7 => ?_⟩
  · have k := k.1 c7
    show rx_aw 17 101 [.ref 7, .int a0, .int a1, .int a2, .int z2, .int z6] [] (rx_hp L t hi6 hl6 v6) Q
    exact rx_aw_ret (pc := 101) rfl k
  · have k := k.2 c7
    show rx_aw 17 37 [.ref 7, .int a0, .int a1, .int a2, .int z2, .int z6] [] (rx_hp L t hi6 hl6 v6) Q
    refine rx_aw_s 2 (pc := 37) rfl ?_
    refine rx_w_if (c := z6 < 0) ⟨fun c8 => ?_, fun c8 => ?_⟩
    · have k := k.1 c8
      show rx_aw 17 101 [.ref 7, .int a0, .int a1, .int a2, .int z2, .int z6] [] (rx_hp L t hi6 hl6 v6) Q
      exact rx_aw_ret (pc := 101) rfl k
    · have k := k.2 c8
      show rx_aw 17 42 [.ref 7, .int a0, .int a1, .int a2, .int z2, .int z6] [] (rx_hp L t hi6 hl6 v6) Q
      refine rx_aw_s 12 (pc := 42) rfl ?_
      show rx_aw 17 61 [.ref 7, .int a0, .int a1, .int a2, .int z2, .int z6] [.int a2, .int z6, .ref 7, .int (((1280 : Int32) + (a1 * (256 : Int32))) + a0), .ref 10] (rx_hp L t hi6 hl6 v6) Q
      refine rx_w_callI (j := 14) (pc := 61) rfl rfl rfl rfl rfl ?_
      refine rx_aw.mono k (fun r h2 k => ?_)
      obtain ⟨z9, rfl, hi9, hl9, v9, rfl, k⟩ := k
      refine ⟨z9, rfl, ?_⟩
      show rx_aw 17 64 [.ref 7, .int a0, .int a1, .int a2, .int z2, .int z6] [.int z9, .int (((1280 : Int32) + (a1 * (256 : Int32))) + a0), .ref 10] (rx_hp L t hi9 hl9 v9) Q
      obtain ⟨j10, ej10, hj10, k⟩ := k
      refine rx_aw_iast (pc := 64) (n := 2560) j10 ej10 rfl rfl (by decide) rfl hj10 (by decide) ?_
      show rx_aw 17 65 [.ref 7, .int a0, .int a1, .int a2, .int z2, .int z6] [] (rx_hp L t (rx_u hi9 10 j10 z9) hl9 v9) Q
      refine rx_aw_s 14 (pc := 65) rfl ?_
      show rx_aw 17 87 [.ref 7, .int a0, .int a1, .int a2, .int z2, .int z6] [.int ((256 : Int32) + a0), .ref 11, .int (((a1 - (3 : Int32)) * (256 : Int32)) + a0), .ref 12] (rx_hp L t (rx_u hi9 10 j10 z9) hl9 v9) Q
      obtain ⟨j11, ej11, hj11, k⟩ := k
      refine rx_aw_lald (pc := 87) (n := 512) j11 ej11 rfl rfl (by decide) rfl hj11 (by decide) ?_
      show rx_aw 17 88 [.ref 7, .int a0, .int a1, .int a2, .int z2, .int z6] [.long (hl9 11 j11), .int (((a1 - (3 : Int32)) * (256 : Int32)) + a0), .ref 12] (rx_hp L t (rx_u hi9 10 j10 z9) hl9 v9) Q
      refine rx_aw_s 1 (pc := 88) rfl ?_
      show rx_aw 17 90 [.ref 7, .int a0, .int a1, .int a2, .int z2, .int z6] [.int z6, .long (hl9 11 j11), .int (((a1 - (3 : Int32)) * (256 : Int32)) + a0), .ref 12] (rx_hp L t (rx_u hi9 10 j10 z9) hl9 v9) Q
      refine rx_w_callL (j := 9) (pc := 90) rfl rfl rfl rfl rfl ?_
      refine rx_aw.mono k (fun r h2 k => ?_)
      obtain ⟨z12, rfl, hi12, hl12, v12, rfl, k⟩ := k
      refine ⟨z12, rfl, ?_⟩
      show rx_aw 17 93 [.ref 7, .int a0, .int a1, .int a2, .int z2, .int z6] [.long z12, .long (hl9 11 j11), .int (((a1 - (3 : Int32)) * (256 : Int32)) + a0), .ref 12] (rx_hp L t hi12 hl12 v12) Q
      refine rx_aw_s 2 (pc := 93) rfl ?_
      show rx_aw 17 96 [.ref 7, .int a0, .int a1, .int a2, .int z2, .int z6] [.int z2, .long ((hl9 11 j11) ||| z12), .int (((a1 - (3 : Int32)) * (256 : Int32)) + a0), .ref 12] (rx_hp L t hi12 hl12 v12) Q
      refine rx_w_callL (j := 9) (pc := 96) rfl rfl rfl rfl rfl ?_
      refine rx_aw.mono k (fun r h2 k => ?_)
      obtain ⟨z13, rfl, hi13, hl13, v13, rfl, k⟩ := k
      refine ⟨z13, rfl, ?_⟩
      show rx_aw 17 99 [.ref 7, .int a0, .int a1, .int a2, .int z2, .int z6] [.long z13, .long ((hl9 11 j11) ||| z12), .int (((a1 - (3 : Int32)) * (256 : Int32)) + a0), .ref 12] (rx_hp L t hi13 hl13 v13) Q
      refine rx_aw_s 1 (pc := 99) rfl ?_
      show rx_aw 17 100 [.ref 7, .int a0, .int a1, .int a2, .int z2, .int z6] [.long (((hl9 11 j11) ||| z12) ||| z13), .int (((a1 - (3 : Int32)) * (256 : Int32)) + a0), .ref 12] (rx_hp L t hi13 hl13 v13) Q
      obtain ⟨j14, ej14, hj14, k⟩ := k
      refine rx_aw_last (pc := 100) (n := 512) j14 ej14 rfl rfl (by decide) rfl hj14 (by decide) ?_
      show rx_aw 17 101 [.ref 7, .int a0, .int a1, .int a2, .int z2, .int z6] [] (rx_hp L t hi13 (rx_u hl13 12 j14 (((hl9 11 j11) ||| z12) ||| z13)) v13) Q
      exact rx_aw_ret (pc := 101) rfl k
/-- CartFloor.lay(III)I -/
theorem w25_lay {L : Nat} {t : List (Nat × Nat)} {hi : Nat → Nat → Int32} {hl : Nat → Nat → Int64} {v : Nat → Nat → Option Nat} {Q : Option Value → rx_H → Prop} {a0 : Int32} {a1 : Int32} {a2 : Int32} (k : rx_me 26 [.ref 7, .int a0, .int a1] (rx_hp L t hi hl v) (fun r h2 => ∃ z1 : Int32, r = some (.int z1) ∧ rx_ok2 L t h2 (fun hi1 hl1 v1 => ((z1 < 0 → Q (some (.int (-2 : Int32))) (rx_hp L t hi1 hl1 v1)) ∧ (¬ (z1 < 0) → ((a2 < 0 → Q (some (.int (-2 : Int32))) (rx_hp L t hi1 hl1 v1)) ∧ (¬ (a2 < 0) → (((3 : Int32) < a2 → Q (some (.int (-2 : Int32))) (rx_hp L t hi1 hl1 v1)) ∧ (¬ ((3 : Int32) < a2) → rx_me 28 [.ref 13] (rx_hp L t hi1 hl1 v1) (fun r h2 => ∃ z5 : Int32, r = some (.int z5) ∧ rx_ok2 L t h2 (fun hi5 hl5 v5 => ((z5 = 0 → (∃ j7 : Nat, z1 = nI j7 ∧ j7 < 64 ∧ (∃ j8 : Nat, z1 = nI j8 ∧ j8 < 64 ∧ rx_me 29 [.ref 7] (rx_hp L t (rx_u hi5 8 j8 a2) hl5 v5) (fun r h2 => r = none ∧ rx_ok2 L t h2 (fun hi9 hl9 v9 => Q (some (.int (hi5 8 j7))) (rx_hp L t hi9 hl9 v9)))))) ∧ (¬ (z5 = 0) → Q (some (.int (-2 : Int32))) (rx_hp L t hi5 hl5 v5)))))))))))))) : rx_me 25 [.ref 1, .int a0, .int a1, .int a2] (rx_hp L t hi hl v) Q := by
  show rx_aw 25 0 [.ref 1, .int a0, .int a1, .int a2, rx_no, rx_no] [] (rx_hp L t hi hl v) Q
  refine rx_aw_s 4 (pc := 0) rfl ?_
  show rx_aw 25 6 [.ref 1, .int a0, .int a1, .int a2, rx_no, rx_no] [.int a1, .int a0, .ref 7] (rx_hp L t hi hl v) Q
  refine rx_w_callI (j := 26) (pc := 6) rfl rfl rfl rfl rfl ?_
  refine rx_aw.mono k (fun r h2 k => ?_)
  obtain ⟨z1, rfl, hi1, hl1, v1, rfl, k⟩ := k
  refine ⟨z1, rfl, ?_⟩
  show rx_aw 25 9 [.ref 1, .int a0, .int a1, .int a2, rx_no, rx_no] [.int z1] (rx_hp L t hi1 hl1 v1) Q
  refine rx_aw_s 3 (pc := 9) rfl ?_
  refine rx_w_if (c := z1 < 0) ⟨fun c2 => ?_, fun c2 => ?_⟩
  · have k := k.1 c2
    show rx_aw 25 35 [.ref 1, .int a0, .int a1, .int a2, .int z1, rx_no] [] (rx_hp L t hi1 hl1 v1) Q
    refine rx_aw_s 1 (pc := 35) rfl ?_
    show rx_aw 25 37 [.ref 1, .int a0, .int a1, .int a2, .int z1, rx_no] [.int (-2 : Int32)] (rx_hp L t hi1 hl1 v1) Q
    exact rx_aw_ret (pc := 37) rfl k
  · have k := k.2 c2
    show rx_aw 25 16 [.ref 1, .int a0, .int a1, .int a2, .int z1, rx_no] [] (rx_hp L t hi1 hl1 v1) Q
    refine rx_aw_s 2 (pc := 16) rfl ?_
    refine rx_w_if (c := a2 < 0) ⟨fun c3 => ?_, fun c3 => ?_⟩
    · have k := k.1 c3
      show rx_aw 25 35 [.ref 1, .int a0, .int a1, .int a2, .int z1, rx_no] [] (rx_hp L t hi1 hl1 v1) Q
      refine rx_aw_s 1 (pc := 35) rfl ?_
      show rx_aw 25 37 [.ref 1, .int a0, .int a1, .int a2, .int z1, rx_no] [.int (-2 : Int32)] (rx_hp L t hi1 hl1 v1) Q
      exact rx_aw_ret (pc := 37) rfl k
    · have k := k.2 c3
      show rx_aw 25 20 [.ref 1, .int a0, .int a1, .int a2, .int z1, rx_no] [] (rx_hp L t hi1 hl1 v1) Q
      refine rx_aw_s 3 (pc := 20) rfl ?_
      refine rx_w_if (c := (3 : Int32) < a2) ⟨fun c4 => ?_, fun c4 => ?_⟩
      · have k := k.1 c4
        show rx_aw 25 35 [.ref 1, .int a0, .int a1, .int a2, .int z1, rx_no] [] (rx_hp L t hi1 hl1 v1) Q
        refine rx_aw_s 1 (pc := 35) rfl ?_
        show rx_aw 25 37 [.ref 1, .int a0, .int a1, .int a2, .int z1, rx_no] [.int (-2 : Int32)] (rx_hp L t hi1 hl1 v1) Q
        exact rx_aw_ret (pc := 37) rfl k
      · have k := k.2 c4
        show rx_aw 25 25 [.ref 1, .int a0, .int a1, .int a2, .int z1, rx_no] [] (rx_hp L t hi1 hl1 v1) Q
        refine rx_aw_s 2 (pc := 25) rfl ?_
        show rx_aw 25 29 [.ref 1, .int a0, .int a1, .int a2, .int z1, rx_no] [.ref 13] (rx_hp L t hi1 hl1 v1) Q
        refine rx_w_callI (j := 28) (pc := 29) rfl rfl rfl rfl rfl ?_
        refine rx_aw.mono k (fun r h2 k => ?_)
        obtain ⟨z5, rfl, hi5, hl5, v5, rfl, k⟩ := k
        refine ⟨z5, rfl, ?_⟩
        show rx_aw 25 32 [.ref 1, .int a0, .int a1, .int a2, .int z1, rx_no] [.int z5] (rx_hp L t hi5 hl5 v5) Q
        refine rx_aw_s 1 (pc := 32) rfl ?_
        refine rx_w_if (c := z5 = 0) ⟨fun c6 => ?_, fun c6 => ?_⟩
        · have k := k.1 c6
          show rx_aw 25 38 [.ref 1, .int a0, .int a1, .int a2, .int z1, rx_no] [] (rx_hp L t hi5 hl5 v5) Q
          refine rx_aw_s 4 (pc := 38) rfl ?_
          show rx_aw 25 47 [.ref 1, .int a0, .int a1, .int a2, .int z1, rx_no] [.int z1, .ref 8] (rx_hp L t hi5 hl5 v5) Q
          obtain ⟨j7, ej7, hj7, k⟩ := k
          refine rx_aw_iald (pc := 47) (n := 64) j7 ej7 rfl rfl rfl hj7 (by decide) ?_
          show rx_aw 25 48 [.ref 1, .int a0, .int a1, .int a2, .int z1, rx_no] [.int (hi5 8 j7)] (rx_hp L t hi5 hl5 v5) Q
          refine rx_aw_s 6 (pc := 48) rfl ?_
          show rx_aw 25 60 [.ref 1, .int a0, .int a1, .int a2, .int z1, .int (hi5 8 j7)] [.int a2, .int z1, .ref 8] (rx_hp L t hi5 hl5 v5) Q
          obtain ⟨j8, ej8, hj8, k⟩ := k
          refine rx_aw_iast (pc := 60) (n := 64) j8 ej8 rfl rfl (by decide) rfl hj8 (by decide) ?_
          show rx_aw 25 61 [.ref 1, .int a0, .int a1, .int a2, .int z1, .int (hi5 8 j7)] [] (rx_hp L t (rx_u hi5 8 j8 a2) hl5 v5) Q
          refine rx_aw_s 2 (pc := 61) rfl ?_
          show rx_aw 25 65 [.ref 1, .int a0, .int a1, .int a2, .int z1, .int (hi5 8 j7)] [.ref 7] (rx_hp L t (rx_u hi5 8 j8 a2) hl5 v5) Q
          refine rx_w_callV (j := 29) (pc := 65) rfl rfl rfl rfl rfl ?_
          refine rx_aw.mono k (fun r h2 k => ?_)
          obtain ⟨rfl, hi9, hl9, v9, rfl, k⟩ := k
          refine ⟨rfl, ?_⟩
          show rx_aw 25 68 [.ref 1, .int a0, .int a1, .int a2, .int z1, .int (hi5 8 j7)] [] (rx_hp L t hi9 hl9 v9) Q
          refine rx_aw_s 1 (pc := 68) rfl ?_
          show rx_aw 25 70 [.ref 1, .int a0, .int a1, .int a2, .int z1, .int (hi5 8 j7)] [.int (hi5 8 j7)] (rx_hp L t hi9 hl9 v9) Q
          exact rx_aw_ret (pc := 70) rfl k
        · have k := k.2 c6
          show rx_aw 25 35 [.ref 1, .int a0, .int a1, .int a2, .int z1, rx_no] [] (rx_hp L t hi5 hl5 v5) Q
          refine rx_aw_s 1 (pc := 35) rfl ?_
          show rx_aw 25 37 [.ref 1, .int a0, .int a1, .int a2, .int z1, rx_no] [.int (-2 : Int32)] (rx_hp L t hi5 hl5 v5) Q
          exact rx_aw_ret (pc := 37) rfl k
/-- CartFloor$Floor.number(II)I -/
theorem w26_number {L : Nat} {t : List (Nat × Nat)} {hi : Nat → Nat → Int32} {hl : Nat → Nat → Int64} {v : Nat → Nat → Option Nat} {Q : Option Value → rx_H → Prop} {a0 : Int32} {a1 : Int32} (k : ((a0 < 0 → Q (some (.int (-1 : Int32))) (rx_hp L t hi hl v)) ∧ (¬ (a0 < 0) → (((hi 7 0) ≤ a0 → Q (some (.int (-1 : Int32))) (rx_hp L t hi hl v)) ∧ (¬ ((hi 7 0) ≤ a0) → rx_me 27 [.ref 7, .int a1] (rx_hp L t hi hl v) (fun r h2 => ∃ z3 : Int32, r = some (.int z3) ∧ rx_ok2 L t h2 (fun hi3 hl3 v3 => ((z3 = 0 → Q (some (.int (-1 : Int32))) (rx_hp L t hi3 hl3 v3)) ∧ (¬ (z3 = 0) → Q (some (.int ((a1 * (hi3 7 0)) + a0))) (rx_hp L t hi3 hl3 v3)))))))))) : rx_me 26 [.ref 7, .int a0, .int a1] (rx_hp L t hi hl v) Q := by
  show rx_aw 26 0 [.ref 7, .int a0, .int a1] [] (rx_hp L t hi hl v) Q
  refine rx_aw_s 2 (pc := 0) rfl ?_
  refine rx_w_if (c := a0 < 0) ⟨fun c1 => ?_, fun c1 => ?_⟩
  · have k := k.1 c1
    show rx_aw 26 20 [.ref 7, .int a0, .int a1] [] (rx_hp L t hi hl v) Q
    refine rx_aw_s 2 (pc := 20) rfl ?_
    show rx_aw 26 32 [.ref 7, .int a0, .int a1] [.int (-1 : Int32)] (rx_hp L t hi hl v) Q
    exact rx_aw_ret (pc := 32) rfl k
  · have k := k.2 c1
    show rx_aw 26 4 [.ref 7, .int a0, .int a1] [] (rx_hp L t hi hl v) Q
    refine rx_aw_s 4 (pc := 4) rfl ?_
    refine rx_w_if (c := (hi 7 0) ≤ a0) ⟨fun c2 => ?_, fun c2 => ?_⟩
    · have k := k.1 c2
      show rx_aw 26 20 [.ref 7, .int a0, .int a1] [] (rx_hp L t hi hl v) Q
      refine rx_aw_s 2 (pc := 20) rfl ?_
      show rx_aw 26 32 [.ref 7, .int a0, .int a1] [.int (-1 : Int32)] (rx_hp L t hi hl v) Q
      exact rx_aw_ret (pc := 32) rfl k
    · have k := k.2 c2
      show rx_aw 26 12 [.ref 7, .int a0, .int a1] [] (rx_hp L t hi hl v) Q
      refine rx_aw_s 2 (pc := 12) rfl ?_
      show rx_aw 26 14 [.ref 7, .int a0, .int a1] [.int a1, .ref 7] (rx_hp L t hi hl v) Q
      refine rx_w_callI (j := 27) (pc := 14) rfl rfl rfl rfl rfl ?_
      refine rx_aw.mono k (fun r h2 k => ?_)
      obtain ⟨z3, rfl, hi3, hl3, v3, rfl, k⟩ := k
      refine ⟨z3, rfl, ?_⟩
      show rx_aw 26 17 [.ref 7, .int a0, .int a1] [.int z3] (rx_hp L t hi3 hl3 v3) Q
      refine rx_aw_s 1 (pc := 17) rfl ?_
      refine rx_w_ifn (c := z3 = 0) ⟨fun c4 => ?_, fun c4 => ?_⟩
      · have k := k.1 c4
        show rx_aw 26 20 [.ref 7, .int a0, .int a1] [] (rx_hp L t hi3 hl3 v3) Q
        refine rx_aw_s 2 (pc := 20) rfl ?_
        show rx_aw 26 32 [.ref 7, .int a0, .int a1] [.int (-1 : Int32)] (rx_hp L t hi3 hl3 v3) Q
        exact rx_aw_ret (pc := 32) rfl k
      · have k := k.2 c4
        show rx_aw 26 24 [.ref 7, .int a0, .int a1] [] (rx_hp L t hi3 hl3 v3) Q
        refine rx_aw_s 6 (pc := 24) rfl ?_
        show rx_aw 26 32 [.ref 7, .int a0, .int a1] [.int ((a1 * (hi3 7 0)) + a0)] (rx_hp L t hi3 hl3 v3) Q
        exact rx_aw_ret (pc := 32) rfl k
/-- CartFloor$Floor.hasRow(I)Z -/
theorem w27_hasRow {L : Nat} {t : List (Nat × Nat)} {hi : Nat → Nat → Int32} {hl : Nat → Nat → Int64} {v : Nat → Nat → Option Nat} {Q : Option Value → rx_H → Prop} {a0 : Int32} (k : ((a0 < 0 → Q (some (.int (0 : Int32))) (rx_hp L t hi hl v)) ∧ (¬ (a0 < 0) → (((hi 7 1) ≤ a0 → Q (some (.int (0 : Int32))) (rx_hp L t hi hl v)) ∧ (¬ ((hi 7 1) ≤ a0) → Q (some (.int (1 : Int32))) (rx_hp L t hi hl v)))))) : rx_me 27 [.ref 7, .int a0] (rx_hp L t hi hl v) Q := by
  show rx_aw 27 0 [.ref 7, .int a0] [] (rx_hp L t hi hl v) Q
  refine rx_aw_s 2 (pc := 0) rfl ?_
  refine rx_w_if (c := a0 < 0) ⟨fun c1 => ?_, fun c1 => ?_⟩
  · have k := k.1 c1
    show rx_aw 27 16 [.ref 7, .int a0] [] (rx_hp L t hi hl v) Q
    refine rx_aw_s 1 (pc := 16) rfl ?_
    show rx_aw 27 17 [.ref 7, .int a0] [.int (0 : Int32)] (rx_hp L t hi hl v) Q
    exact rx_aw_ret (pc := 17) rfl k
  · have k := k.2 c1
    show rx_aw 27 4 [.ref 7, .int a0] [] (rx_hp L t hi hl v) Q
    refine rx_aw_s 4 (pc := 4) rfl ?_
    refine rx_w_if (c := (hi 7 1) ≤ a0) ⟨fun c2 => ?_, fun c2 => ?_⟩
    · have k := k.1 c2
      show rx_aw 27 16 [.ref 7, .int a0] [] (rx_hp L t hi hl v) Q
      refine rx_aw_s 1 (pc := 16) rfl ?_
      show rx_aw 27 17 [.ref 7, .int a0] [.int (0 : Int32)] (rx_hp L t hi hl v) Q
      exact rx_aw_ret (pc := 17) rfl k
    · have k := k.2 c2
      show rx_aw 27 12 [.ref 7, .int a0] [] (rx_hp L t hi hl v) Q
      refine rx_aw_s 2 (pc := 12) rfl ?_
      show rx_aw 27 17 [.ref 7, .int a0] [.int (1 : Int32)] (rx_hp L t hi hl v) Q
      exact rx_aw_ret (pc := 17) rfl k
/-- CartFloor$Traffic.isPeopled()Z -/
theorem w28_isPeopled {L : Nat} {t : List (Nat × Nat)} {hi : Nat → Nat → Int32} {hl : Nat → Nat → Int64} {v : Nat → Nat → Option Nat} {Q : Option Value → rx_H → Prop}  (k : ((0 < (hi 13 3) → Q (some (.int (1 : Int32))) (rx_hp L t hi hl v)) ∧ (¬ (0 < (hi 13 3)) → (((hi 13 4) ≤ 0 → Q (some (.int (0 : Int32))) (rx_hp L t hi hl v)) ∧ (¬ ((hi 13 4) ≤ 0) → Q (some (.int (1 : Int32))) (rx_hp L t hi hl v)))))) : rx_me 28 [.ref 13] (rx_hp L t hi hl v) Q := by
  show rx_aw 28 0 [.ref 13] [] (rx_hp L t hi hl v) Q
  refine rx_aw_s 3 (pc := 0) rfl ?_
  refine rx_w_if (c := 0 < (hi 13 3)) ⟨fun c1 => ?_, fun c1 => ?_⟩
  · have k := k.1 c1
    show rx_aw 28 14 [.ref 13] [] (rx_hp L t hi hl v) Q
    refine rx_aw_s 2 (pc := 14) rfl ?_
    show rx_aw 28 19 [.ref 13] [.int (1 : Int32)] (rx_hp L t hi hl v) Q
    exact rx_aw_ret (pc := 19) rfl k
  · have k := k.2 c1
    show rx_aw 28 7 [.ref 13] [] (rx_hp L t hi hl v) Q
    refine rx_aw_s 3 (pc := 7) rfl ?_
    refine rx_w_if (c := (hi 13 4) ≤ 0) ⟨fun c2 => ?_, fun c2 => ?_⟩
    · have k := k.1 c2
      show rx_aw 28 18 [.ref 13] [] (rx_hp L t hi hl v) Q
      refine rx_aw_s 1 (pc := 18) rfl ?_
      show rx_aw 28 19 [.ref 13] [.int (0 : Int32)] (rx_hp L t hi hl v) Q
      exact rx_aw_ret (pc := 19) rfl k
    · have k := k.2 c2
      show rx_aw 28 14 [.ref 13] [] (rx_hp L t hi hl v) Q
      refine rx_aw_s 2 (pc := 14) rfl ?_
      show rx_aw 28 19 [.ref 13] [.int (1 : Int32)] (rx_hp L t hi hl v) Q
      exact rx_aw_ret (pc := 19) rfl k
/-- CartFloor$Floor.findBarred()V -/
theorem w29_findBarred {L : Nat} {t : List (Nat × Nat)} {hi : Nat → Nat → Int32} {hl : Nat → Nat → Int64} {v : Nat → Nat → Option Nat} {Q : Option Value → rx_H → Prop}  (k : rx_aw 29 7 [.ref 7, .int (0 : Int32)] [] (rx_hp L t hi (rx_u hl 7 10 (0 : Int64)) v) Q) : rx_me 29 [.ref 7] (rx_hp L t hi hl v) Q := by
  show rx_aw 29 0 [.ref 7, rx_no] [] (rx_hp L t hi hl v) Q
  refine rx_aw_s 5 (pc := 0) rfl ?_
  show rx_aw 29 7 [.ref 7, .int (0 : Int32)] [] (rx_hp L t hi (rx_u hl 7 10 (0 : Int64)) v) Q
  exact k
theorem w29_findBarred_7 {L : Nat} {t : List (Nat × Nat)} {hi : Nat → Nat → Int32} {hl : Nat → Nat → Int64} {v : Nat → Nat → Option Nat} {Q : Option Value → rx_H → Prop} {x1 : Int32} (k : ((((hi 7 0) * (hi 7 1)) ≤ x1 → Q none (rx_hp L t hi hl v)) ∧ (¬ (((hi 7 0) * (hi 7 1)) ≤ x1) → (∃ j2 : Nat, x1 = nI j2 ∧ j2 < 64 ∧ (((hi 8 j2) = (1 : Int32) → rx_aw 29 7 [.ref 7, .int (x1 + (1 : Int32))] [] (rx_hp L t hi (rx_u hl 7 10 ((hl 7 10) ||| ((1 : Int64) <<< (Int32.toInt64 x1 &&& 63)))) v) Q) ∧ (¬ ((hi 8 j2) = (1 : Int32)) → (¬ (if (1 : Int32) < (hi 7 0) then (hi 7 0) else (1 : Int32)) = 0 ∧ (∃ j4 : Nat, (x1 / (if (1 : Int32) < (hi 7 0) then (hi 7 0) else (1 : Int32))) = nI j4 ∧ j4 < 8 ∧ (((hi 9 j4) = 0 → rx_aw 29 7 [.ref 7, .int (x1 + (1 : Int32))] [] (rx_hp L t hi hl v) Q) ∧ (¬ ((hi 9 j4) = 0) → rx_aw 29 7 [.ref 7, .int (x1 + (1 : Int32))] [] (rx_hp L t hi (rx_u hl 7 10 ((hl 7 10) ||| ((1 : Int64) <<< (Int32.toInt64 x1 &&& 63)))) v) Q)))))))))) : rx_aw 29 7 [.ref 7, .int x1] [] (rx_hp L t hi hl v) Q := by
  refine rx_aw_s 7 (pc := 7) rfl ?_
  refine rx_w_if (c := ((hi 7 0) * (hi 7 1)) ≤ x1) ⟨fun c1 => ?_, fun c1 => ?_⟩
  · have k := k.1 c1
    show rx_aw 29 66 [.ref 7, .int x1] [] (rx_hp L t hi hl v) Q
    exact rx_aw_ret (pc := 66) rfl k
  · have k := k.2 c1
    show rx_aw 29 20 [.ref 7, .int x1] [] (rx_hp L t hi hl v) Q
    refine rx_aw_s 3 (pc := 20) rfl ?_
    show rx_aw 29 25 [.ref 7, .int x1] [.int x1, .ref 8] (rx_hp L t hi hl v) Q
    obtain ⟨j2, ej2, hj2, k⟩ := k
    refine rx_aw_iald (pc := 25) (n := 64) j2 ej2 rfl rfl rfl hj2 (by decide) ?_
    show rx_aw 29 26 [.ref 7, .int x1] [.int (hi 8 j2)] (rx_hp L t hi hl v) Q
    refine rx_aw_s 2 (pc := 26) rfl ?_
    refine rx_w_if (c := (hi 8 j2) = (1 : Int32)) ⟨fun c3 => ?_, fun c3 => ?_⟩
    · have k := k.1 c3
      show rx_aw 29 48 [.ref 7, .int x1] [] (rx_hp L t hi hl v) Q
      refine rx_aw_s 10 (pc := 48) rfl ?_
      show rx_aw 29 7 [.ref 7, .int (x1 + (1 : Int32))] [] (rx_hp L t hi (rx_u hl 7 10 ((hl 7 10) ||| ((1 : Int64) <<< (Int32.toInt64 x1 &&& 63)))) v) Q
      exact k
    · have k := k.2 c3
      show rx_aw 29 30 [.ref 7, .int x1] [] (rx_hp L t hi hl v) Q
      refine rx_aw_s 7 (pc := 30) rfl ?_
      show rx_aw 29 43 [.ref 7, .int x1] [.int (if (1 : Int32) < (hi 7 0) then (hi 7 0) else (1 : Int32)), .int x1, .ref 9] (rx_hp L t hi hl v) Q
      refine rx_aw_div (pc := 43) rfl k.1 ?_
      have k := k.2
      show rx_aw 29 44 [.ref 7, .int x1] [.int (x1 / (if (1 : Int32) < (hi 7 0) then (hi 7 0) else (1 : Int32))), .ref 9] (rx_hp L t hi hl v) Q
      obtain ⟨j4, ej4, hj4, k⟩ := k
      refine rx_aw_bald (pc := 44) (n := 8) j4 ej4 rfl (Or.inr rfl) (by decide) rfl hj4 (by decide) ?_
      show rx_aw 29 45 [.ref 7, .int x1] [.int (hi 9 j4)] (rx_hp L t hi hl v) Q
      refine rx_aw_s 1 (pc := 45) rfl ?_
      refine rx_w_if (c := (hi 9 j4) = 0) ⟨fun c5 => ?_, fun c5 => ?_⟩
      · have k := k.1 c5
        show rx_aw 29 60 [.ref 7, .int x1] [] (rx_hp L t hi hl v) Q
        refine rx_aw_s 2 (pc := 60) rfl ?_
        show rx_aw 29 7 [.ref 7, .int (x1 + (1 : Int32))] [] (rx_hp L t hi hl v) Q
        exact k
      · have k := k.2 c5
        show rx_aw 29 48 [.ref 7, .int x1] [] (rx_hp L t hi hl v) Q
        refine rx_aw_s 10 (pc := 48) rfl ?_
        show rx_aw 29 7 [.ref 7, .int (x1 + (1 : Int32))] [] (rx_hp L t hi (rx_u hl 7 10 ((hl 7 10) ||| ((1 : Int64) <<< (Int32.toInt64 x1 &&& 63)))) v) Q
        exact k
/-- CartFloor.row(IZ)I -/
theorem w30_row {L : Nat} {t : List (Nat × Nat)} {hi : Nat → Nat → Int32} {hl : Nat → Nat → Int64} {v : Nat → Nat → Option Nat} {Q : Option Value → rx_H → Prop} {a0 : Int32} {a1 : Int32} (k : rx_me 27 [.ref 7, .int a0] (rx_hp L t hi hl v) (fun r h2 => ∃ z1 : Int32, r = some (.int z1) ∧ rx_ok2 L t h2 (fun hi1 hl1 v1 => ((z1 = 0 → Q (some (.int (-2 : Int32))) (rx_hp L t hi1 hl1 v1)) ∧ (¬ (z1 = 0) → rx_me 28 [.ref 13] (rx_hp L t hi1 hl1 v1) (fun r h2 => ∃ z3 : Int32, r = some (.int z3) ∧ rx_ok2 L t h2 (fun hi3 hl3 v3 => ((z3 = 0 → (∃ j5 : Nat, a0 = nI j5 ∧ j5 < 8 ∧ (((hi3 9 j5) = 0 → (∃ j7 : Nat, a0 = nI j7 ∧ j7 < 8 ∧ rx_me 29 [.ref 7] (rx_hp L t (rx_u hi3 9 j7 (vp_nar .boolean a1)) hl3 v3) (fun r h2 => r = none ∧ rx_ok2 L t h2 (fun hi8 hl8 v8 => ((a1 = 0 → Q (some (.int (0 : Int32))) (rx_hp L t hi8 hl8 v8)) ∧ (¬ (a1 = 0) → rx_me 31 [.ref 88, .int a0] (rx_hp L t hi8 hl8 v8) (fun r h2 => r = none ∧ rx_ok2 L t h2 (fun hi10 hl10 v10 => Q (some (.int (0 : Int32))) (rx_hp L t hi10 hl10 v10))))))))) ∧ (¬ ((hi3 9 j5) = 0) → (∃ j11 : Nat, a0 = nI j11 ∧ j11 < 8 ∧ rx_me 29 [.ref 7] (rx_hp L t (rx_u hi3 9 j11 (vp_nar .boolean a1)) hl3 v3) (fun r h2 => r = none ∧ rx_ok2 L t h2 (fun hi12 hl12 v12 => ((a1 = 0 → Q (some (.int (1 : Int32))) (rx_hp L t hi12 hl12 v12)) ∧ (¬ (a1 = 0) → rx_me 31 [.ref 88, .int a0] (rx_hp L t hi12 hl12 v12) (fun r h2 => r = none ∧ rx_ok2 L t h2 (fun hi14 hl14 v14 => Q (some (.int (1 : Int32))) (rx_hp L t hi14 hl14 v14)))))))))))) ∧ (¬ (z3 = 0) → Q (some (.int (-2 : Int32))) (rx_hp L t hi3 hl3 v3)))))))))) : rx_me 30 [.ref 1, .int a0, .int a1] (rx_hp L t hi hl v) Q := by
  show rx_aw 30 0 [.ref 1, .int a0, .int a1, rx_no] [] (rx_hp L t hi hl v) Q
  refine rx_aw_s 3 (pc := 0) rfl ?_
  show rx_aw 30 5 [.ref 1, .int a0, .int a1, rx_no] [.int a0, .ref 7] (rx_hp L t hi hl v) Q
  refine rx_w_callI (j := 27) (pc := 5) rfl rfl rfl rfl rfl ?_
  refine rx_aw.mono k (fun r h2 k => ?_)
  obtain ⟨z1, rfl, hi1, hl1, v1, rfl, k⟩ := k
  refine ⟨z1, rfl, ?_⟩
  show rx_aw 30 8 [.ref 1, .int a0, .int a1, rx_no] [.int z1] (rx_hp L t hi1 hl1 v1) Q
  refine rx_aw_s 1 (pc := 8) rfl ?_
  refine rx_w_if (c := z1 = 0) ⟨fun c2 => ?_, fun c2 => ?_⟩
  · have k := k.1 c2
    show rx_aw 30 21 [.ref 1, .int a0, .int a1, rx_no] [] (rx_hp L t hi1 hl1 v1) Q
    refine rx_aw_s 1 (pc := 21) rfl ?_
    show rx_aw 30 23 [.ref 1, .int a0, .int a1, rx_no] [.int (-2 : Int32)] (rx_hp L t hi1 hl1 v1) Q
    exact rx_aw_ret (pc := 23) rfl k
  · have k := k.2 c2
    show rx_aw 30 11 [.ref 1, .int a0, .int a1, rx_no] [] (rx_hp L t hi1 hl1 v1) Q
    refine rx_aw_s 2 (pc := 11) rfl ?_
    show rx_aw 30 15 [.ref 1, .int a0, .int a1, rx_no] [.ref 13] (rx_hp L t hi1 hl1 v1) Q
    refine rx_w_callI (j := 28) (pc := 15) rfl rfl rfl rfl rfl ?_
    refine rx_aw.mono k (fun r h2 k => ?_)
    obtain ⟨z3, rfl, hi3, hl3, v3, rfl, k⟩ := k
    refine ⟨z3, rfl, ?_⟩
    show rx_aw 30 18 [.ref 1, .int a0, .int a1, rx_no] [.int z3] (rx_hp L t hi3 hl3 v3) Q
    refine rx_aw_s 1 (pc := 18) rfl ?_
    refine rx_w_if (c := z3 = 0) ⟨fun c4 => ?_, fun c4 => ?_⟩
    · have k := k.1 c4
      show rx_aw 30 24 [.ref 1, .int a0, .int a1, rx_no] [] (rx_hp L t hi3 hl3 v3) Q
      refine rx_aw_s 4 (pc := 24) rfl ?_
      show rx_aw 30 32 [.ref 1, .int a0, .int a1, rx_no] [.int a0, .ref 9] (rx_hp L t hi3 hl3 v3) Q
      obtain ⟨j5, ej5, hj5, k⟩ := k
      refine rx_aw_bald (pc := 32) (n := 8) j5 ej5 rfl (Or.inr rfl) (by decide) rfl hj5 (by decide) ?_
      show rx_aw 30 33 [.ref 1, .int a0, .int a1, rx_no] [.int (hi3 9 j5)] (rx_hp L t hi3 hl3 v3) Q
      refine rx_aw_s 1 (pc := 33) rfl ?_
      refine rx_w_if (c := (hi3 9 j5) = 0) ⟨fun c6 => ?_, fun c6 => ?_⟩
      · have k := k.1 c6
        show rx_aw 30 40 [.ref 1, .int a0, .int a1, rx_no] [] (rx_hp L t hi3 hl3 v3) Q
        refine rx_aw_s 7 (pc := 40) rfl ?_
        show rx_aw 30 51 [.ref 1, .int a0, .int a1, .int (0 : Int32)] [.int a1, .int a0, .ref 9] (rx_hp L t hi3 hl3 v3) Q
        obtain ⟨j7, ej7, hj7, k⟩ := k
        refine rx_aw_zast (pc := 51) (n := 8) j7 ej7 rfl rfl (by decide) rfl hj7 (by decide) ?_
        show rx_aw 30 52 [.ref 1, .int a0, .int a1, .int (0 : Int32)] [] (rx_hp L t (rx_u hi3 9 j7 (vp_nar .boolean a1)) hl3 v3) Q
        refine rx_aw_s 2 (pc := 52) rfl ?_
        show rx_aw 30 56 [.ref 1, .int a0, .int a1, .int (0 : Int32)] [.ref 7] (rx_hp L t (rx_u hi3 9 j7 (vp_nar .boolean a1)) hl3 v3) Q
        refine rx_w_callV (j := 29) (pc := 56) rfl rfl rfl rfl rfl ?_
        refine rx_aw.mono k (fun r h2 k => ?_)
        obtain ⟨rfl, hi8, hl8, v8, rfl, k⟩ := k
        refine ⟨rfl, ?_⟩
        show rx_aw 30 59 [.ref 1, .int a0, .int a1, .int (0 : Int32)] [] (rx_hp L t hi8 hl8 v8) Q
        refine rx_aw_s 2 (pc := 59) rfl ?_
        refine rx_w_if (c := a1 = 0) ⟨fun c9 => ?_, fun c9 => ?_⟩
        · have k := k.1 c9
          show rx_aw 30 71 [.ref 1, .int a0, .int a1, .int (0 : Int32)] [] (rx_hp L t hi8 hl8 v8) Q
          refine rx_aw_s 1 (pc := 71) rfl ?_
          show rx_aw 30 72 [.ref 1, .int a0, .int a1, .int (0 : Int32)] [.int (0 : Int32)] (rx_hp L t hi8 hl8 v8) Q
          exact rx_aw_ret (pc := 72) rfl k
        · have k := k.2 c9
          show rx_aw 30 63 [.ref 1, .int a0, .int a1, .int (0 : Int32)] [] (rx_hp L t hi8 hl8 v8) Q
          refine rx_aw_s 3 (pc := 63) rfl ?_
          show rx_aw 30 68 [.ref 1, .int a0, .int a1, .int (0 : Int32)] [.int a0, .ref 88] (rx_hp L t hi8 hl8 v8) Q
          refine rx_w_callV (j := 31) (pc := 68) rfl rfl rfl rfl rfl ?_
          refine rx_aw.mono k (fun r h2 k => ?_)
          obtain ⟨rfl, hi10, hl10, v10, rfl, k⟩ := k
          refine ⟨rfl, ?_⟩
          show rx_aw 30 71 [.ref 1, .int a0, .int a1, .int (0 : Int32)] [] (rx_hp L t hi10 hl10 v10) Q
          refine rx_aw_s 1 (pc := 71) rfl ?_
          show rx_aw 30 72 [.ref 1, .int a0, .int a1, .int (0 : Int32)] [.int (0 : Int32)] (rx_hp L t hi10 hl10 v10) Q
          exact rx_aw_ret (pc := 72) rfl k
      · have k := k.2 c6
        show rx_aw 30 36 [.ref 1, .int a0, .int a1, rx_no] [] (rx_hp L t hi3 hl3 v3) Q
        refine rx_aw_s 8 (pc := 36) rfl ?_
        show rx_aw 30 51 [.ref 1, .int a0, .int a1, .int (1 : Int32)] [.int a1, .int a0, .ref 9] (rx_hp L t hi3 hl3 v3) Q
        obtain ⟨j11, ej11, hj11, k⟩ := k
        refine rx_aw_zast (pc := 51) (n := 8) j11 ej11 rfl rfl (by decide) rfl hj11 (by decide) ?_
        show rx_aw 30 52 [.ref 1, .int a0, .int a1, .int (1 : Int32)] [] (rx_hp L t (rx_u hi3 9 j11 (vp_nar .boolean a1)) hl3 v3) Q
        refine rx_aw_s 2 (pc := 52) rfl ?_
        show rx_aw 30 56 [.ref 1, .int a0, .int a1, .int (1 : Int32)] [.ref 7] (rx_hp L t (rx_u hi3 9 j11 (vp_nar .boolean a1)) hl3 v3) Q
        refine rx_w_callV (j := 29) (pc := 56) rfl rfl rfl rfl rfl ?_
        refine rx_aw.mono k (fun r h2 k => ?_)
        obtain ⟨rfl, hi12, hl12, v12, rfl, k⟩ := k
        refine ⟨rfl, ?_⟩
        show rx_aw 30 59 [.ref 1, .int a0, .int a1, .int (1 : Int32)] [] (rx_hp L t hi12 hl12 v12) Q
        refine rx_aw_s 2 (pc := 59) rfl ?_
        refine rx_w_if (c := a1 = 0) ⟨fun c13 => ?_, fun c13 => ?_⟩
        · have k := k.1 c13
          show rx_aw 30 71 [.ref 1, .int a0, .int a1, .int (1 : Int32)] [] (rx_hp L t hi12 hl12 v12) Q
          refine rx_aw_s 1 (pc := 71) rfl ?_
          show rx_aw 30 72 [.ref 1, .int a0, .int a1, .int (1 : Int32)] [.int (1 : Int32)] (rx_hp L t hi12 hl12 v12) Q
          exact rx_aw_ret (pc := 72) rfl k
        · have k := k.2 c13
          show rx_aw 30 63 [.ref 1, .int a0, .int a1, .int (1 : Int32)] [] (rx_hp L t hi12 hl12 v12) Q
          refine rx_aw_s 3 (pc := 63) rfl ?_
          show rx_aw 30 68 [.ref 1, .int a0, .int a1, .int (1 : Int32)] [.int a0, .ref 88] (rx_hp L t hi12 hl12 v12) Q
          refine rx_w_callV (j := 31) (pc := 68) rfl rfl rfl rfl rfl ?_
          refine rx_aw.mono k (fun r h2 k => ?_)
          obtain ⟨rfl, hi14, hl14, v14, rfl, k⟩ := k
          refine ⟨rfl, ?_⟩
          show rx_aw 30 71 [.ref 1, .int a0, .int a1, .int (1 : Int32)] [] (rx_hp L t hi14 hl14 v14) Q
          refine rx_aw_s 1 (pc := 71) rfl ?_
          show rx_aw 30 72 [.ref 1, .int a0, .int a1, .int (1 : Int32)] [.int (1 : Int32)] (rx_hp L t hi14 hl14 v14) Q
          exact rx_aw_ret (pc := 72) rfl k
    · have k := k.2 c4
      show rx_aw 30 21 [.ref 1, .int a0, .int a1, rx_no] [] (rx_hp L t hi3 hl3 v3) Q
      refine rx_aw_s 1 (pc := 21) rfl ?_
      show rx_aw 30 23 [.ref 1, .int a0, .int a1, rx_no] [.int (-2 : Int32)] (rx_hp L t hi3 hl3 v3) Q
      exact rx_aw_ret (pc := 23) rfl k
/-- CartFloor$Marks.lose(I)V -/
theorem w31_lose {L : Nat} {t : List (Nat × Nat)} {hi : Nat → Nat → Int32} {hl : Nat → Nat → Int64} {v : Nat → Nat → Option Nat} {Q : Option Value → rx_H → Prop} {a0 : Int32} (k : rx_me 32 [.ref 89, .int (a0 * (hi 7 0)), .int ((a0 + (1 : Int32)) * (hi 7 0)), .int (0 : Int32)] (rx_hp L t hi hl v) (fun r h2 => r = none ∧ rx_ok2 L t h2 (fun hi1 hl1 v1 => Q none (rx_hp L t hi1 hl1 v1)))) : rx_me 31 [.ref 88, .int a0] (rx_hp L t hi hl v) Q := by
  show rx_aw 31 0 [.ref 88, .int a0] [] (rx_hp L t hi hl v) Q
  refine rx_aw_s 15 (pc := 0) rfl ?_
  show rx_aw 31 25 [.ref 88, .int a0] [.int (0 : Int32), .int ((a0 + (1 : Int32)) * (hi 7 0)), .int (a0 * (hi 7 0)), .ref 89] (rx_hp L t hi hl v) Q
  refine rx_w_callV (j := 32) (pc := 25) rfl rfl rfl rfl rfl ?_
  refine rx_aw.mono k (fun r h2 k => ?_)
  obtain ⟨rfl, hi1, hl1, v1, rfl, k⟩ := k
  refine ⟨rfl, ?_⟩
  show rx_aw 31 28 [.ref 88, .int a0] [] (rx_hp L t hi1 hl1 v1) Q
  exact rx_aw_ret (pc := 28) rfl k
/-- CartFloor.shelf(II)I -/
theorem w34_shelf {L : Nat} {t : List (Nat × Nat)} {hi : Nat → Nat → Int32} {hl : Nat → Nat → Int64} {v : Nat → Nat → Option Nat} {Q : Option Value → rx_H → Prop} {a0 : Int32} {a1 : Int32} (k : rx_me 26 [.ref 7, .int a0, .int a1] (rx_hp L t hi hl v) (fun r h2 => ∃ z1 : Int32, r = some (.int z1) ∧ rx_ok2 L t h2 (fun hi1 hl1 v1 => ((z1 < 0 → Q (some (.int (-2 : Int32))) (rx_hp L t hi1 hl1 v1)) ∧ (¬ (z1 < 0) → (((12 : Int32) ≤ (hi1 13 4) → Q (some (.int (-2 : Int32))) (rx_hp L t hi1 hl1 v1)) ∧ (¬ ((12 : Int32) ≤ (hi1 13 4)) → rx_me 35 [.ref 13] (rx_hp L t hi1 hl1 v1) (fun r h2 => ∃ z4 : Int32, r = some (.int z4) ∧ rx_ok2 L t h2 (fun hi4 hl4 v4 => ((z4 = 0 → rx_me 9 [.int z1] (rx_hp L t hi4 hl4 v4) (fun r h2 => ∃ z6 : Int64, r = some (.long z6) ∧ rx_ok2 L t h2 (fun hi6 hl6 v6 => rx_me 37 [.ref 13, .int (0 : Int32), .int (-1 : Int32)] (rx_hp L t hi6 hl6 v6) (fun r h2 => ∃ z7 : Int64, r = some (.long z7) ∧ rx_ok2 L t h2 (fun hi7 hl7 v7 => rx_me 39 [.ref 13] (rx_hp L t hi7 hl7 v7) (fun r h2 => ∃ z8 : Int64, r = some (.long z8) ∧ rx_ok2 L t h2 (fun hi8 hl8 v8 => (((lg_cmp ((((hl6 7 10) ||| z7) ||| z8) &&& z6) (0 : Int64)) = 0 → (∃ j10 : Nat, z1 = nI j10 ∧ j10 < 64 ∧ (((hi8 8 j10) = (2 : Int32) → rx_me 40 [.ref 13, .int z1] (rx_hp L t hi8 hl8 v8) (fun r h2 => ∃ z12 : Int32, r = some (.int z12) ∧ rx_ok2 L t h2 (fun hi12 hl12 v12 => Q (some (.int z12)) (rx_hp L t hi12 hl12 v12)))) ∧ (¬ ((hi8 8 j10) = (2 : Int32)) → Q (some (.int (-2 : Int32))) (rx_hp L t hi8 hl8 v8))))) ∧ (¬ ((lg_cmp ((((hl6 7 10) ||| z7) ||| z8) &&& z6) (0 : Int64)) = 0) → Q (some (.int (-2 : Int32))) (rx_hp L t hi8 hl8 v8)))))))))) ∧ (¬ (z4 = 0) → Q (some (.int (-2 : Int32))) (rx_hp L t hi4 hl4 v4)))))))))))) : rx_me 34 [.ref 1, .int a0, .int a1] (rx_hp L t hi hl v) Q := by
  show rx_aw 34 0 [.ref 1, .int a0, .int a1, rx_no, rx_no, rx_no, rx_no] [] (rx_hp L t hi hl v) Q
  refine rx_aw_s 4 (pc := 0) rfl ?_
  show rx_aw 34 6 [.ref 1, .int a0, .int a1, rx_no, rx_no, rx_no, rx_no] [.int a1, .int a0, .ref 7] (rx_hp L t hi hl v) Q
  refine rx_w_callI (j := 26) (pc := 6) rfl rfl rfl rfl rfl ?_
  refine rx_aw.mono k (fun r h2 k => ?_)
  obtain ⟨z1, rfl, hi1, hl1, v1, rfl, k⟩ := k
  refine ⟨z1, rfl, ?_⟩
  show rx_aw 34 9 [.ref 1, .int a0, .int a1, rx_no, rx_no, rx_no, rx_no] [.int z1] (rx_hp L t hi1 hl1 v1) Q
  refine rx_aw_s 3 (pc := 9) rfl ?_
  refine rx_w_if (c := z1 < 0) ⟨fun c2 => ?_, fun c2 => ?_⟩
  · have k := k.1 c2
    show rx_aw 34 36 [.ref 1, .int a0, .int a1, .int z1, rx_no, rx_no, rx_no] [] (rx_hp L t hi1 hl1 v1) Q
    refine rx_aw_s 1 (pc := 36) rfl ?_
    show rx_aw 34 38 [.ref 1, .int a0, .int a1, .int z1, rx_no, rx_no, rx_no] [.int (-2 : Int32)] (rx_hp L t hi1 hl1 v1) Q
    exact rx_aw_ret (pc := 38) rfl k
  · have k := k.2 c2
    show rx_aw 34 14 [.ref 1, .int a0, .int a1, .int z1, rx_no, rx_no, rx_no] [] (rx_hp L t hi1 hl1 v1) Q
    refine rx_aw_s 5 (pc := 14) rfl ?_
    refine rx_w_if (c := (12 : Int32) ≤ (hi1 13 4)) ⟨fun c3 => ?_, fun c3 => ?_⟩
    · have k := k.1 c3
      show rx_aw 34 36 [.ref 1, .int a0, .int a1, .int z1, rx_no, rx_no, rx_no] [] (rx_hp L t hi1 hl1 v1) Q
      refine rx_aw_s 1 (pc := 36) rfl ?_
      show rx_aw 34 38 [.ref 1, .int a0, .int a1, .int z1, rx_no, rx_no, rx_no] [.int (-2 : Int32)] (rx_hp L t hi1 hl1 v1) Q
      exact rx_aw_ret (pc := 38) rfl k
    · have k := k.2 c3
      show rx_aw 34 26 [.ref 1, .int a0, .int a1, .int z1, rx_no, rx_no, rx_no] [] (rx_hp L t hi1 hl1 v1) Q
      refine rx_aw_s 2 (pc := 26) rfl ?_
      show rx_aw 34 30 [.ref 1, .int a0, .int a1, .int z1, rx_no, rx_no, rx_no] [.ref 13] (rx_hp L t hi1 hl1 v1) Q
      refine rx_w_callI (j := 35) (pc := 30) rfl rfl rfl rfl rfl ?_
      refine rx_aw.mono k (fun r h2 k => ?_)
      obtain ⟨z4, rfl, hi4, hl4, v4, rfl, k⟩ := k
      refine ⟨z4, rfl, ?_⟩
      show rx_aw 34 33 [.ref 1, .int a0, .int a1, .int z1, rx_no, rx_no, rx_no] [.int z4] (rx_hp L t hi4 hl4 v4) Q
      refine rx_aw_s 1 (pc := 33) rfl ?_
      refine rx_w_if (c := z4 = 0) ⟨fun c5 => ?_, fun c5 => ?_⟩
      · have k := k.1 c5
        show rx_aw 34 39 [.ref 1, .int a0, .int a1, .int z1, rx_no, rx_no, rx_no] [] (rx_hp L t hi4 hl4 v4) Q
        refine rx_aw_s 1 (pc := 39) rfl ?_
        show rx_aw 34 40 [.ref 1, .int a0, .int a1, .int z1, rx_no, rx_no, rx_no] [.int z1] (rx_hp L t hi4 hl4 v4) Q
        refine rx_w_callL (j := 9) (pc := 40) rfl rfl rfl rfl rfl ?_
        refine rx_aw.mono k (fun r h2 k => ?_)
        obtain ⟨z6, rfl, hi6, hl6, v6, rfl, k⟩ := k
        refine ⟨z6, rfl, ?_⟩
        show rx_aw 34 43 [.ref 1, .int a0, .int a1, .int z1, rx_no, rx_no, rx_no] [.long z6] (rx_hp L t hi6 hl6 v6) Q
        refine rx_aw_s 8 (pc := 43) rfl ?_
        show rx_aw 34 58 [.ref 1, .int a0, .int a1, .int z1, .long z6, rx_no, rx_no] [.int (-1 : Int32), .int (0 : Int32), .ref 13, .long (hl6 7 10)] (rx_hp L t hi6 hl6 v6) Q
        refine rx_w_callL (j := 37) (pc := 58) rfl rfl rfl rfl rfl ?_
        refine rx_aw.mono k (fun r h2 k => ?_)
        obtain ⟨z7, rfl, hi7, hl7, v7, rfl, k⟩ := k
        refine ⟨z7, rfl, ?_⟩
        show rx_aw 34 61 [.ref 1, .int a0, .int a1, .int z1, .long z6, rx_no, rx_no] [.long z7, .long (hl6 7 10)] (rx_hp L t hi7 hl7 v7) Q
        refine rx_aw_s 3 (pc := 61) rfl ?_
        show rx_aw 34 66 [.ref 1, .int a0, .int a1, .int z1, .long z6, rx_no, rx_no] [.ref 13, .long ((hl6 7 10) ||| z7)] (rx_hp L t hi7 hl7 v7) Q
        refine rx_w_callL (j := 39) (pc := 66) rfl rfl rfl rfl rfl ?_
        refine rx_aw.mono k (fun r h2 k => ?_)
        obtain ⟨z8, rfl, hi8, hl8, v8, rfl, k⟩ := k
        refine ⟨z8, rfl, ?_⟩
        show rx_aw 34 69 [.ref 1, .int a0, .int a1, .int z1, .long z6, rx_no, rx_no] [.long z8, .long ((hl6 7 10) ||| z7)] (rx_hp L t hi8 hl8 v8) Q
        refine rx_aw_s 6 (pc := 69) rfl ?_
        refine rx_w_if (c := (lg_cmp ((((hl6 7 10) ||| z7) ||| z8) &&& z6) (0 : Int64)) = 0) ⟨fun c9 => ?_, fun c9 => ?_⟩
        · have k := k.1 c9
          show rx_aw 34 82 [.ref 1, .int a0, .int a1, .int z1, .long z6, rx_no, rx_no] [] (rx_hp L t hi8 hl8 v8) Q
          refine rx_aw_s 8 (pc := 82) rfl ?_
          show rx_aw 34 98 [.ref 1, .int a0, .int a1, .int z1, .long z6, rx_no, .int (0 : Int32)] [.int z1, .ref 8] (rx_hp L t hi8 hl8 v8) Q
          obtain ⟨j10, ej10, hj10, k⟩ := k
          refine rx_aw_iald (pc := 98) (n := 64) j10 ej10 rfl rfl rfl hj10 (by decide) ?_
          show rx_aw 34 99 [.ref 1, .int a0, .int a1, .int z1, .long z6, rx_no, .int (0 : Int32)] [.int (hi8 8 j10)] (rx_hp L t hi8 hl8 v8) Q
          refine rx_aw_s 2 (pc := 99) rfl ?_
          refine rx_w_if (c := (hi8 8 j10) = (2 : Int32)) ⟨fun c11 => ?_, fun c11 => ?_⟩
          · have k := k.1 c11
            show rx_aw 34 106 [.ref 1, .int a0, .int a1, .int z1, .long z6, rx_no, .int (0 : Int32)] [] (rx_hp L t hi8 hl8 v8) Q
            refine rx_aw_s 3 (pc := 106) rfl ?_
            show rx_aw 34 111 [.ref 1, .int a0, .int a1, .int z1, .long z6, rx_no, .int (0 : Int32)] [.int z1, .ref 13] (rx_hp L t hi8 hl8 v8) Q
            refine rx_w_callI (j := 40) (pc := 111) rfl rfl rfl rfl rfl ?_
            refine rx_aw.mono k (fun r h2 k => ?_)
            obtain ⟨z12, rfl, hi12, hl12, v12, rfl, k⟩ := k
            refine ⟨z12, rfl, ?_⟩
            show rx_aw 34 114 [.ref 1, .int a0, .int a1, .int z1, .long z6, rx_no, .int (0 : Int32)] [.int z12] (rx_hp L t hi12 hl12 v12) Q
            exact rx_aw_ret (pc := 114) rfl k
          · have k := k.2 c11
            show rx_aw 34 103 [.ref 1, .int a0, .int a1, .int z1, .long z6, rx_no, .int (0 : Int32)] [] (rx_hp L t hi8 hl8 v8) Q
            refine rx_aw_s 1 (pc := 103) rfl ?_
            show rx_aw 34 105 [.ref 1, .int a0, .int a1, .int z1, .long z6, rx_no, .int (0 : Int32)] [.int (-2 : Int32)] (rx_hp L t hi8 hl8 v8) Q
            exact rx_aw_ret (pc := 105) rfl k
        · have k := k.2 c9
          show rx_aw 34 78 [.ref 1, .int a0, .int a1, .int z1, .long z6, rx_no, rx_no] [] (rx_hp L t hi8 hl8 v8) Q
          refine rx_aw_s 6 (pc := 78) rfl ?_
          show rx_aw 34 105 [.ref 1, .int a0, .int a1, .int z1, .long z6, rx_no, .int (1 : Int32)] [.int (-2 : Int32)] (rx_hp L t hi8 hl8 v8) Q
          exact rx_aw_ret (pc := 105) rfl k
      · have k := k.2 c5
        show rx_aw 34 36 [.ref 1, .int a0, .int a1, .int z1, rx_no, rx_no, rx_no] [] (rx_hp L t hi4 hl4 v4) Q
        refine rx_aw_s 1 (pc := 36) rfl ?_
        show rx_aw 34 38 [.ref 1, .int a0, .int a1, .int z1, rx_no, rx_no, rx_no] [.int (-2 : Int32)] (rx_hp L t hi4 hl4 v4) Q
        exact rx_aw_ret (pc := 38) rfl k
/-- CartFloor$Traffic.anyMove()Z -/
theorem w35_anyMove {L : Nat} {t : List (Nat × Nat)} {hi : Nat → Nat → Int32} {hl : Nat → Nat → Int64} {v : Nat → Nat → Option Nat} {Q : Option Value → rx_H → Prop}  (k : rx_me 36 [.ref 13, .null] (rx_hp L t hi hl v) (fun r h2 => ∃ z1 : Int32, r = some (.int z1) ∧ rx_ok2 L t h2 (fun hi1 hl1 v1 => ((z1 ≤ 0 → Q (some (.int (0 : Int32))) (rx_hp L t hi1 hl1 v1)) ∧ (¬ (z1 ≤ 0) → Q (some (.int (1 : Int32))) (rx_hp L t hi1 hl1 v1)))))) : rx_me 35 [.ref 13] (rx_hp L t hi hl v) Q := by
  show rx_aw 35 0 [.ref 13] [] (rx_hp L t hi hl v) Q
  refine rx_aw_s 2 (pc := 0) rfl ?_
  show rx_aw 35 2 [.ref 13] [.null, .ref 13] (rx_hp L t hi hl v) Q
  refine rx_w_callI (j := 36) (pc := 2) rfl rfl rfl rfl rfl ?_
  refine rx_aw.mono k (fun r h2 k => ?_)
  obtain ⟨z1, rfl, hi1, hl1, v1, rfl, k⟩ := k
  refine ⟨z1, rfl, ?_⟩
  show rx_aw 35 5 [.ref 13] [.int z1] (rx_hp L t hi1 hl1 v1) Q
  refine rx_aw_s 1 (pc := 5) rfl ?_
  refine rx_w_if (c := z1 ≤ 0) ⟨fun c2 => ?_, fun c2 => ?_⟩
  · have k := k.1 c2
    show rx_aw 35 12 [.ref 13] [] (rx_hp L t hi1 hl1 v1) Q
    refine rx_aw_s 1 (pc := 12) rfl ?_
    show rx_aw 35 13 [.ref 13] [.int (0 : Int32)] (rx_hp L t hi1 hl1 v1) Q
    exact rx_aw_ret (pc := 13) rfl k
  · have k := k.2 c2
    show rx_aw 35 8 [.ref 13] [] (rx_hp L t hi1 hl1 v1) Q
    refine rx_aw_s 2 (pc := 8) rfl ?_
    show rx_aw 35 13 [.ref 13] [.int (1 : Int32)] (rx_hp L t hi1 hl1 v1) Q
    exact rx_aw_ret (pc := 13) rfl k
/-- CartFloor$Traffic.greatestEnd(LCartFloor$Cart;)I -/
theorem w36_greatestEnd {L : Nat} {t : List (Nat × Nat)} {hi : Nat → Nat → Int32} {hl : Nat → Nat → Int64} {v : Nat → Nat → Option Nat} {Q : Option Value → rx_H → Prop} {c0 : Nat} (hc0 : c0 < 6) (k : rx_aw 36 4 [.ref 13, .ref (rx_ct c0), .int (0 : Int32), .int (0 : Int32)] [] (rx_hp L t hi hl v) Q) : rx_me 36 [.ref 13, .ref (rx_ct c0)] (rx_hp L t hi hl v) Q := by
  show rx_aw 36 0 [.ref 13, .ref (rx_ct c0), rx_no, rx_no] [] (rx_hp L t hi hl v) Q
  refine rx_aw_s 4 (pc := 0) rfl ?_
  show rx_aw 36 4 [.ref 13, .ref (rx_ct c0), .int (0 : Int32), .int (0 : Int32)] [] (rx_hp L t hi hl v) Q
  exact k
theorem w36_greatestEnd_4 {L : Nat} {t : List (Nat × Nat)} {hi : Nat → Nat → Int32} {hl : Nat → Nat → Int64} {v : Nat → Nat → Option Nat} {Q : Option Value → rx_H → Prop} {c0 : Nat} (hc0 : c0 < 6) {x2 : Int32} {x3 : Int32} (k : (((hi 13 3) ≤ x3 → Q (some (.int x2)) (rx_hp L t hi hl v)) ∧ (¬ ((hi 13 3) ≤ x3) → (∃ j2 : Nat, x3 = nI j2 ∧ j2 < 6 ∧ (((some (rx_ct j2) : Option Nat) = (some (rx_ct c0) : Option Nat) → rx_aw 36 4 [.ref 13, .ref (rx_ct c0), .int x2, .int (x3 + (1 : Int32))] [] (rx_hp L t hi hl v) Q) ∧ (¬ ((some (rx_ct j2) : Option Nat) = (some (rx_ct c0) : Option Nat)) → (∃ j4 : Nat, x3 = nI j4 ∧ j4 < 6 ∧ rx_aw 36 4 [.ref 13, .ref (rx_ct c0), .int (if x2 < (hi (rx_ct j4) 7) then (hi (rx_ct j4) 7) else x2), .int (x3 + (1 : Int32))] [] (rx_hp L t hi hl v) Q))))))) : rx_aw 36 4 [.ref 13, .ref (rx_ct c0), .int x2, .int x3] [] (rx_hp L t hi hl v) Q := by
  refine rx_aw_s 4 (pc := 4) rfl ?_
  refine rx_w_if (c := (hi 13 3) ≤ x3) ⟨fun c1 => ?_, fun c1 => ?_⟩
  · have k := k.1 c1
    show rx_aw 36 42 [.ref 13, .ref (rx_ct c0), .int x2, .int x3] [] (rx_hp L t hi hl v) Q
    refine rx_aw_s 1 (pc := 42) rfl ?_
    show rx_aw 36 43 [.ref 13, .ref (rx_ct c0), .int x2, .int x3] [.int x2] (rx_hp L t hi hl v) Q
    exact rx_aw_ret (pc := 43) rfl k
  · have k := k.2 c1
    show rx_aw 36 12 [.ref 13, .ref (rx_ct c0), .int x2, .int x3] [] (rx_hp L t hi hl v) Q
    refine rx_aw_s 3 (pc := 12) rfl ?_
    show rx_aw 36 17 [.ref 13, .ref (rx_ct c0), .int x2, .int x3] [.int x3, .ref 14] (rx_hp L t hi hl v) Q
    obtain ⟨j2, ej2, hj2, k⟩ := k
    refine rx_w_carts (pc := 17) rfl ⟨j2, ej2, hj2, ?_⟩
    show rx_aw 36 18 [.ref 13, .ref (rx_ct c0), .int x2, .int x3] [.ref (rx_ct j2)] (rx_hp L t hi hl v) Q
    refine rx_aw_s 2 (pc := 18) rfl ?_
    refine rx_w_if (c := (some (rx_ct j2) : Option Nat) = (some (rx_ct c0) : Option Nat)) ⟨fun c3 => ?_, fun c3 => ?_⟩
    · have k := k.1 c3
      show rx_aw 36 36 [.ref 13, .ref (rx_ct c0), .int x2, .int x3] [] (rx_hp L t hi hl v) Q
      refine rx_aw_s 2 (pc := 36) rfl ?_
      show rx_aw 36 4 [.ref 13, .ref (rx_ct c0), .int x2, .int (x3 + (1 : Int32))] [] (rx_hp L t hi hl v) Q
      exact k
    · have k := k.2 c3
      show rx_aw 36 22 [.ref 13, .ref (rx_ct c0), .int x2, .int x3] [] (rx_hp L t hi hl v) Q
      refine rx_aw_s 4 (pc := 22) rfl ?_
      show rx_aw 36 28 [.ref 13, .ref (rx_ct c0), .int x2, .int x3] [.int x3, .ref 14, .int x2] (rx_hp L t hi hl v) Q
      obtain ⟨j4, ej4, hj4, k⟩ := k
      refine rx_w_carts (pc := 28) rfl ⟨j4, ej4, hj4, ?_⟩
      show rx_aw 36 29 [.ref 13, .ref (rx_ct c0), .int x2, .int x3] [.ref (rx_ct j4), .int x2] (rx_hp L t hi hl v) Q
      refine rx_w_cg hj4 (pc := 29) rfl (by decide) (by decide) ?_
      show rx_aw 36 32 [.ref 13, .ref (rx_ct c0), .int x2, .int x3] [.int (hi (rx_ct j4) 7), .int x2] (rx_hp L t hi hl v) Q
      refine rx_aw_s 4 (pc := 32) rfl ?_
      show rx_aw 36 4 [.ref 13, .ref (rx_ct c0), .int (if x2 < (hi (rx_ct j4) 7) then (hi (rx_ct j4) 7) else x2), .int (x3 + (1 : Int32))] [] (rx_hp L t hi hl v) Q
      exact k
/-- CartFloor$Traffic.shelfMask(II)J -/
theorem w37_shelfMask {L : Nat} {t : List (Nat × Nat)} {hi : Nat → Nat → Int32} {hl : Nat → Nat → Int64} {v : Nat → Nat → Option Nat} {Q : Option Value → rx_H → Prop} {a0 : Int32} {a1 : Int32} (k : rx_aw 37 5 [.ref 13, .int a0, .int a1, .long (0 : Int64), rx_no, .int (0 : Int32)] [] (rx_hp L t hi hl v) Q) : rx_me 37 [.ref 13, .int a0, .int a1] (rx_hp L t hi hl v) Q := by
  show rx_aw 37 0 [.ref 13, .int a0, .int a1, rx_no, rx_no, rx_no] [] (rx_hp L t hi hl v) Q
  refine rx_aw_s 4 (pc := 0) rfl ?_
  show rx_aw 37 5 [.ref 13, .int a0, .int a1, .long (0 : Int64), rx_no, .int (0 : Int32)] [] (rx_hp L t hi hl v) Q
  exact k
theorem w37_shelfMask_5 {L : Nat} {t : List (Nat × Nat)} {hi : Nat → Nat → Int32} {hl : Nat → Nat → Int64} {v : Nat → Nat → Option Nat} {Q : Option Value → rx_H → Prop} {x1 : Int32} {x2 : Int32} {x3 : Int64} {x5 : Int32} (k : (((hi 13 4) ≤ x5 → Q (some (.long x3)) (rx_hp L t hi hl v)) ∧ (¬ ((hi 13 4) ≤ x5) → ((x5 = x2 → rx_aw 37 5 [.ref 13, .int x1, .int x2, .long x3, rx_no, .int (x5 + (1 : Int32))] [] (rx_hp L t hi hl v) Q) ∧ (¬ (x5 = x2) → rx_me 38 [.ref 13, .int x5, .int x1] (rx_hp L t hi hl v) (fun r h2 => ∃ z3 : Int32, r = some (.int z3) ∧ rx_ok2 L t h2 (fun hi3 hl3 v3 => rx_me 9 [.int z3] (rx_hp L t hi3 hl3 v3) (fun r h2 => ∃ z4 : Int64, r = some (.long z4) ∧ rx_ok2 L t h2 (fun hi4 hl4 v4 => rx_aw 37 5 [.ref 13, .int x1, .int x2, .long (x3 ||| z4), rx_no, .int (x5 + (1 : Int32))] [] (rx_hp L t hi4 hl4 v4) Q))))))))) : rx_aw 37 5 [.ref 13, .int x1, .int x2, .long x3, rx_no, .int x5] [] (rx_hp L t hi hl v) Q := by
  refine rx_aw_s 4 (pc := 5) rfl ?_
  refine rx_w_if (c := (hi 13 4) ≤ x5) ⟨fun c1 => ?_, fun c1 => ?_⟩
  · have k := k.1 c1
    show rx_aw 37 39 [.ref 13, .int x1, .int x2, .long x3, rx_no, .int x5] [] (rx_hp L t hi hl v) Q
    refine rx_aw_s 1 (pc := 39) rfl ?_
    show rx_aw 37 40 [.ref 13, .int x1, .int x2, .long x3, rx_no, .int x5] [.long x3] (rx_hp L t hi hl v) Q
    exact rx_aw_ret (pc := 40) rfl k
  · have k := k.2 c1
    show rx_aw 37 14 [.ref 13, .int x1, .int x2, .long x3, rx_no, .int x5] [] (rx_hp L t hi hl v) Q
    refine rx_aw_s 3 (pc := 14) rfl ?_
    refine rx_w_if (c := x5 = x2) ⟨fun c2 => ?_, fun c2 => ?_⟩
    · have k := k.1 c2
      show rx_aw 37 33 [.ref 13, .int x1, .int x2, .long x3, rx_no, .int x5] [] (rx_hp L t hi hl v) Q
      refine rx_aw_s 2 (pc := 33) rfl ?_
      show rx_aw 37 5 [.ref 13, .int x1, .int x2, .long x3, rx_no, .int (x5 + (1 : Int32))] [] (rx_hp L t hi hl v) Q
      exact k
    · have k := k.2 c2
      show rx_aw 37 20 [.ref 13, .int x1, .int x2, .long x3, rx_no, .int x5] [] (rx_hp L t hi hl v) Q
      refine rx_aw_s 4 (pc := 20) rfl ?_
      show rx_aw 37 25 [.ref 13, .int x1, .int x2, .long x3, rx_no, .int x5] [.int x1, .int x5, .ref 13, .long x3] (rx_hp L t hi hl v) Q
      refine rx_w_callI (j := 38) (pc := 25) rfl rfl rfl rfl rfl ?_
      refine rx_aw.mono k (fun r h2 k => ?_)
      obtain ⟨z3, rfl, hi3, hl3, v3, rfl, k⟩ := k
      refine ⟨z3, rfl, ?_⟩
      show rx_aw 37 28 [.ref 13, .int x1, .int x2, .long x3, rx_no, .int x5] [.int z3, .long x3] (rx_hp L t hi3 hl3 v3) Q
      refine rx_w_callL (j := 9) (pc := 28) rfl rfl rfl rfl rfl ?_
      refine rx_aw.mono k (fun r h2 k => ?_)
      obtain ⟨z4, rfl, hi4, hl4, v4, rfl, k⟩ := k
      refine ⟨z4, rfl, ?_⟩
      show rx_aw 37 31 [.ref 13, .int x1, .int x2, .long x3, rx_no, .int x5] [.long z4, .long x3] (rx_hp L t hi4 hl4 v4) Q
      refine rx_aw_s 4 (pc := 31) rfl ?_
      show rx_aw 37 5 [.ref 13, .int x1, .int x2, .long (x3 ||| z4), rx_no, .int (x5 + (1 : Int32))] [] (rx_hp L t hi4 hl4 v4) Q
      exact k
/-- CartFloor$Traffic.shelfAt(II)I -/
theorem w38_shelfAt {L : Nat} {t : List (Nat × Nat)} {hi : Nat → Nat → Int32} {hl : Nat → Nat → Int64} {v : Nat → Nat → Option Nat} {Q : Option Value → rx_H → Prop} {a0 : Int32} {a1 : Int32} (k : (∃ j1 : Nat, a0 = nI j1 ∧ j1 < 12 ∧ (∃ j2 : Nat, (if (hi 13 5) < a1 then (hi 13 5) else a1) = nI j2 ∧ j2 < 402 ∧ Q (some (.int (hi (rx_sf j1 + 1) j2))) (rx_hp L t hi hl v)))) : rx_me 38 [.ref 13, .int a0, .int a1] (rx_hp L t hi hl v) Q := by
  show rx_aw 38 0 [.ref 13, .int a0, .int a1] [] (rx_hp L t hi hl v) Q
  refine rx_aw_s 3 (pc := 0) rfl ?_
  show rx_aw 38 5 [.ref 13, .int a0, .int a1] [.int a0, .ref 15] (rx_hp L t hi hl v) Q
  obtain ⟨j1, ej1, hj1, k⟩ := k
  refine rx_w_shelves (pc := 5) rfl ⟨j1, ej1, hj1, ?_⟩
  show rx_aw 38 6 [.ref 13, .int a0, .int a1] [.ref (rx_sf j1)] (rx_hp L t hi hl v) Q
  refine rx_w_sr hj1 (pc := 6) rfl ?_
  show rx_aw 38 9 [.ref 13, .int a0, .int a1] [.ref (rx_sf j1 + 1)] (rx_hp L t hi hl v) Q
  refine rx_aw_s 4 (pc := 9) rfl ?_
  show rx_aw 38 17 [.ref 13, .int a0, .int a1] [.int (if (hi 13 5) < a1 then (hi 13 5) else a1), .ref (rx_sf j1 + 1)] (rx_hp L t hi hl v) Q
  obtain ⟨j2, ej2, hj2, k⟩ := k
  refine rx_aw_iald (pc := 17) (n := 402) j2 ej2 rfl (rx_ck (rx_shelf_s (v := v) hj1).2.1) (rx_cle (rx_shelf_s (v := v) hj1).2.1) hj2 (by decide) ?_
  show rx_aw 38 18 [.ref 13, .int a0, .int a1] [.int (hi (rx_sf j1 + 1) j2)] (rx_hp L t hi hl v) Q
  exact rx_aw_ret (pc := 18) rfl k
/-- CartFloor$Traffic.stoodOnFirst()J -/
theorem w39_stoodOnFirst {L : Nat} {t : List (Nat × Nat)} {hi : Nat → Nat → Int32} {hl : Nat → Nat → Int64} {v : Nat → Nat → Option Nat} {Q : Option Value → rx_H → Prop}  (k : rx_aw 39 4 [.ref 13, .long (0 : Int64), rx_no, .int (0 : Int32)] [] (rx_hp L t hi hl v) Q) : rx_me 39 [.ref 13] (rx_hp L t hi hl v) Q := by
  show rx_aw 39 0 [.ref 13, rx_no, rx_no, rx_no] [] (rx_hp L t hi hl v) Q
  refine rx_aw_s 4 (pc := 0) rfl ?_
  show rx_aw 39 4 [.ref 13, .long (0 : Int64), rx_no, .int (0 : Int32)] [] (rx_hp L t hi hl v) Q
  exact k
theorem w39_stoodOnFirst_4 {L : Nat} {t : List (Nat × Nat)} {hi : Nat → Nat → Int32} {hl : Nat → Nat → Int64} {v : Nat → Nat → Option Nat} {Q : Option Value → rx_H → Prop} {x1 : Int64} {x3 : Int32} (k : (((hi 13 3) ≤ x3 → Q (some (.long x1)) (rx_hp L t hi hl v)) ∧ (¬ ((hi 13 3) ≤ x3) → (∃ j2 : Nat, x3 = nI j2 ∧ j2 < 6 ∧ (∃ j3 : Nat, (0 : Int32) = nI j3 ∧ j3 < 402 ∧ rx_aw 39 4 [.ref 13, .long (x1 ||| (hl (rx_ct j2 + 4) j3)), rx_no, .int (x3 + (1 : Int32))] [] (rx_hp L t hi hl v) Q))))) : rx_aw 39 4 [.ref 13, .long x1, rx_no, .int x3] [] (rx_hp L t hi hl v) Q := by
  refine rx_aw_s 4 (pc := 4) rfl ?_
  refine rx_w_if (c := (hi 13 3) ≤ x3) ⟨fun c1 => ?_, fun c1 => ?_⟩
  · have k := k.1 c1
    show rx_aw 39 32 [.ref 13, .long x1, rx_no, .int x3] [] (rx_hp L t hi hl v) Q
    refine rx_aw_s 1 (pc := 32) rfl ?_
    show rx_aw 39 33 [.ref 13, .long x1, rx_no, .int x3] [.long x1] (rx_hp L t hi hl v) Q
    exact rx_aw_ret (pc := 33) rfl k
  · have k := k.2 c1
    show rx_aw 39 12 [.ref 13, .long x1, rx_no, .int x3] [] (rx_hp L t hi hl v) Q
    refine rx_aw_s 4 (pc := 12) rfl ?_
    show rx_aw 39 18 [.ref 13, .long x1, rx_no, .int x3] [.int x3, .ref 14, .long x1] (rx_hp L t hi hl v) Q
    obtain ⟨j2, ej2, hj2, k⟩ := k
    refine rx_w_carts (pc := 18) rfl ⟨j2, ej2, hj2, ?_⟩
    show rx_aw 39 19 [.ref 13, .long x1, rx_no, .int x3] [.ref (rx_ct j2), .long x1] (rx_hp L t hi hl v) Q
    refine rx_w_cr hj2 (pc := 19) rfl (by decide) ?_
    show rx_aw 39 22 [.ref 13, .long x1, rx_no, .int x3] [.ref (rx_ct j2 + 4), .long x1] (rx_hp L t hi hl v) Q
    refine rx_aw_s 1 (pc := 22) rfl ?_
    show rx_aw 39 23 [.ref 13, .long x1, rx_no, .int x3] [.int (0 : Int32), .ref (rx_ct j2 + 4), .long x1] (rx_hp L t hi hl v) Q
    obtain ⟨j3, ej3, hj3, k⟩ := k
    refine rx_aw_lald (pc := 23) (n := 402) j3 ej3 rfl (rx_ck (rx_cart_s hj2).2.2.2.2.1) (Nat.lt_of_lt_of_le (rx_ct_pos _) (Nat.le_add_right _ _)) (rx_cle (rx_cart_s hj2).2.2.2.2.1) hj3 (by decide) ?_
    show rx_aw 39 24 [.ref 13, .long x1, rx_no, .int x3] [.long (hl (rx_ct j2 + 4) j3), .long x1] (rx_hp L t hi hl v) Q
    refine rx_aw_s 4 (pc := 24) rfl ?_
    show rx_aw 39 4 [.ref 13, .long (x1 ||| (hl (rx_ct j2 + 4) j3)), rx_no, .int (x3 + (1 : Int32))] [] (rx_hp L t hi hl v) Q
    exact k
/-- CartFloor$Traffic.addShelf(I)I -/
theorem w40_addShelf {L : Nat} {t : List (Nat × Nat)} {hi : Nat → Nat → Int32} {hl : Nat → Nat → Int64} {v : Nat → Nat → Option Nat} {Q : Option Value → rx_H → Prop} {a0 : Int32} (k : (∃ j1 : Nat, (hi 13 4) = nI j1 ∧ j1 < 12 ∧ rx_me 41 [.ref 13] (rx_hp L t (rx_u (rx_u hi (rx_sf j1) 1 a0) 13 4 (((rx_u hi (rx_sf j1) 1 a0) 13 4) + (1 : Int32))) hl v) (fun r h2 => r = none ∧ rx_ok2 L t h2 (fun hi2 hl2 v2 => Q (some (.int ((hi2 13 4) - (1 : Int32)))) (rx_hp L t hi2 hl2 v2))))) : rx_me 40 [.ref 13, .int a0] (rx_hp L t hi hl v) Q := by
  show rx_aw 40 0 [.ref 13, .int a0] [] (rx_hp L t hi hl v) Q
  refine rx_aw_s 4 (pc := 0) rfl ?_
  show rx_aw 40 8 [.ref 13, .int a0] [.int (hi 13 4), .ref 15] (rx_hp L t hi hl v) Q
  obtain ⟨j1, ej1, hj1, k⟩ := k
  refine rx_w_shelves (pc := 8) rfl ⟨j1, ej1, hj1, ?_⟩
  show rx_aw 40 9 [.ref 13, .int a0] [.ref (rx_sf j1)] (rx_hp L t hi hl v) Q
  refine rx_aw_s 1 (pc := 9) rfl ?_
  show rx_aw 40 10 [.ref 13, .int a0] [.int a0, .ref (rx_sf j1)] (rx_hp L t hi hl v) Q
  refine rx_w_sp hj1 (pc := 10) rfl ?_
  show rx_aw 40 13 [.ref 13, .int a0] [] (rx_hp L t (rx_u hi (rx_sf j1) 1 a0) hl v) Q
  refine rx_aw_s 7 (pc := 13) rfl ?_
  show rx_aw 40 24 [.ref 13, .int a0] [.ref 13] (rx_hp L t (rx_u (rx_u hi (rx_sf j1) 1 a0) 13 4 (((rx_u hi (rx_sf j1) 1 a0) 13 4) + (1 : Int32))) hl v) Q
  refine rx_w_callV (j := 41) (pc := 24) rfl rfl rfl rfl rfl ?_
  refine rx_aw.mono k (fun r h2 k => ?_)
  obtain ⟨rfl, hi2, hl2, v2, rfl, k⟩ := k
  refine ⟨rfl, ?_⟩
  show rx_aw 40 27 [.ref 13, .int a0] [] (rx_hp L t hi2 hl2 v2) Q
  refine rx_aw_s 4 (pc := 27) rfl ?_
  show rx_aw 40 33 [.ref 13, .int a0] [.int ((hi2 13 4) - (1 : Int32))] (rx_hp L t hi2 hl2 v2) Q
  exact rx_aw_ret (pc := 33) rfl k
/-- CartFloor$Traffic.replay()V -/
theorem w41_replay {L : Nat} {t : List (Nat × Nat)} {hi : Nat → Nat → Int32} {hl : Nat → Nat → Int64} {v : Nat → Nat → Option Nat} {Q : Option Value → rx_H → Prop}  (k : rx_me 36 [.ref 13, .null] (rx_hp L t hi hl v) (fun r h2 => ∃ z1 : Int32, r = some (.int z1) ∧ rx_ok2 L t h2 (fun hi1 hl1 v1 => rx_aw 41 13 [.ref 13, .int (0 : Int32), rx_no] [] (rx_hp L t (rx_u hi1 13 5 (z1 + (1 : Int32))) hl1 v1) Q))) : rx_me 41 [.ref 13] (rx_hp L t hi hl v) Q := by
  show rx_aw 41 0 [.ref 13, rx_no, rx_no] [] (rx_hp L t hi hl v) Q
  refine rx_aw_s 3 (pc := 0) rfl ?_
  show rx_aw 41 3 [.ref 13, rx_no, rx_no] [.null, .ref 13, .ref 13] (rx_hp L t hi hl v) Q
  refine rx_w_callI (j := 36) (pc := 3) rfl rfl rfl rfl rfl ?_
  refine rx_aw.mono k (fun r h2 k => ?_)
  obtain ⟨z1, rfl, hi1, hl1, v1, rfl, k⟩ := k
  refine ⟨z1, rfl, ?_⟩
  show rx_aw 41 6 [.ref 13, rx_no, rx_no] [.int z1, .ref 13] (rx_hp L t hi1 hl1 v1) Q
  refine rx_aw_s 5 (pc := 6) rfl ?_
  show rx_aw 41 13 [.ref 13, .int (0 : Int32), rx_no] [] (rx_hp L t (rx_u hi1 13 5 (z1 + (1 : Int32))) hl1 v1) Q
  exact k
theorem w41_replay_13 {L : Nat} {t : List (Nat × Nat)} {hi : Nat → Nat → Int32} {hl : Nat → Nat → Int64} {v : Nat → Nat → Option Nat} {Q : Option Value → rx_H → Prop} {x1 : Int32} (k : (((hi 13 3) ≤ x1 → rx_aw 41 72 [.ref 13, .int (0 : Int32), rx_no] [] (rx_hp L t hi hl v) Q) ∧ (¬ ((hi 13 3) ≤ x1) → (∃ j3 : Nat, x1 = nI j3 ∧ j3 < 6 ∧ (∃ j4 : Nat, (0 : Int32) = nI j4 ∧ j4 < 402 ∧ rx_me 42 [.ref 7, .int ((rx_u (rx_u hi (rx_ct j3) 12 (0 : Int32)) (rx_ct j3 + 3) j4 ((rx_u hi (rx_ct j3) 12 (0 : Int32)) (rx_ct j3) 6)) (rx_ct j3) 5), .int ((rx_u (rx_u hi (rx_ct j3) 12 (0 : Int32)) (rx_ct j3 + 3) j4 ((rx_u hi (rx_ct j3) 12 (0 : Int32)) (rx_ct j3) 6)) (rx_ct j3) 6)] (rx_hp L t (rx_u (rx_u hi (rx_ct j3) 12 (0 : Int32)) (rx_ct j3 + 3) j4 ((rx_u hi (rx_ct j3) 12 (0 : Int32)) (rx_ct j3) 6)) hl v) (fun r h2 => ∃ z5 : Int64, r = some (.long z5) ∧ rx_ok2 L t h2 (fun hi5 hl5 v5 => (∃ j6 : Nat, (0 : Int32) = nI j6 ∧ j6 < 402 ∧ rx_aw 41 13 [.ref 13, .int (x1 + (1 : Int32)), rx_no] [] (rx_hp L t hi5 (rx_u hl5 (rx_ct j3 + 4) j6 z5) v5) Q)))))))) : rx_aw 41 13 [.ref 13, .int x1, rx_no] [] (rx_hp L t hi hl v) Q := by
  refine rx_aw_s 4 (pc := 13) rfl ?_
  refine rx_w_if (c := (hi 13 3) ≤ x1) ⟨fun c2 => ?_, fun c2 => ?_⟩
  · have k := k.1 c2
    show rx_aw 41 70 [.ref 13, .int x1, rx_no] [] (rx_hp L t hi hl v) Q
    refine rx_aw_s 2 (pc := 70) rfl ?_
    show rx_aw 41 72 [.ref 13, .int (0 : Int32), rx_no] [] (rx_hp L t hi hl v) Q
    exact k
  · have k := k.2 c2
    show rx_aw 41 21 [.ref 13, .int x1, rx_no] [] (rx_hp L t hi hl v) Q
    refine rx_aw_s 3 (pc := 21) rfl ?_
    show rx_aw 41 26 [.ref 13, .int x1, rx_no] [.int x1, .ref 14] (rx_hp L t hi hl v) Q
    obtain ⟨j3, ej3, hj3, k⟩ := k
    refine rx_w_carts (pc := 26) rfl ⟨j3, ej3, hj3, ?_⟩
    show rx_aw 41 27 [.ref 13, .int x1, rx_no] [.ref (rx_ct j3)] (rx_hp L t hi hl v) Q
    refine rx_aw_s 3 (pc := 27) rfl ?_
    show rx_aw 41 30 [.ref 13, .int x1, .ref (rx_ct j3)] [.int (0 : Int32), .ref (rx_ct j3)] (rx_hp L t hi hl v) Q
    refine rx_w_cz hj3 (pc := 30) rfl rfl (by decide) ⟨by decide, ?_⟩
    show rx_aw 41 33 [.ref 13, .int x1, .ref (rx_ct j3)] [] (rx_hp L t (rx_u hi (rx_ct j3) 12 (0 : Int32)) hl v) Q
    refine rx_aw_s 1 (pc := 33) rfl ?_
    show rx_aw 41 34 [.ref 13, .int x1, .ref (rx_ct j3)] [.ref (rx_ct j3)] (rx_hp L t (rx_u hi (rx_ct j3) 12 (0 : Int32)) hl v) Q
    refine rx_w_cr hj3 (pc := 34) rfl (by decide) ?_
    show rx_aw 41 37 [.ref 13, .int x1, .ref (rx_ct j3)] [.ref (rx_ct j3 + 3)] (rx_hp L t (rx_u hi (rx_ct j3) 12 (0 : Int32)) hl v) Q
    refine rx_aw_s 2 (pc := 37) rfl ?_
    show rx_aw 41 39 [.ref 13, .int x1, .ref (rx_ct j3)] [.ref (rx_ct j3), .int (0 : Int32), .ref (rx_ct j3 + 3)] (rx_hp L t (rx_u hi (rx_ct j3) 12 (0 : Int32)) hl v) Q
    refine rx_w_cg hj3 (pc := 39) rfl (by decide) (by decide) ?_
    show rx_aw 41 42 [.ref 13, .int x1, .ref (rx_ct j3)] [.int ((rx_u hi (rx_ct j3) 12 (0 : Int32)) (rx_ct j3) 6), .int (0 : Int32), .ref (rx_ct j3 + 3)] (rx_hp L t (rx_u hi (rx_ct j3) 12 (0 : Int32)) hl v) Q
    obtain ⟨j4, ej4, hj4, k⟩ := k
    refine rx_aw_iast (pc := 42) (n := 402) j4 ej4 rfl (rx_ck (rx_cart_s hj3).2.2.2.1) (Nat.lt_of_lt_of_le (rx_ct_pos _) (Nat.le_add_right _ _)) (rx_cle (rx_cart_s hj3).2.2.2.1) hj4 (by decide) ?_
    show rx_aw 41 43 [.ref 13, .int x1, .ref (rx_ct j3)] [] (rx_hp L t (rx_u (rx_u hi (rx_ct j3) 12 (0 : Int32)) (rx_ct j3 + 3) j4 ((rx_u hi (rx_ct j3) 12 (0 : Int32)) (rx_ct j3) 6)) hl v) Q
    refine rx_aw_s 1 (pc := 43) rfl ?_
    show rx_aw 41 44 [.ref 13, .int x1, .ref (rx_ct j3)] [.ref (rx_ct j3)] (rx_hp L t (rx_u (rx_u hi (rx_ct j3) 12 (0 : Int32)) (rx_ct j3 + 3) j4 ((rx_u hi (rx_ct j3) 12 (0 : Int32)) (rx_ct j3) 6)) hl v) Q
    refine rx_w_cr hj3 (pc := 44) rfl (by decide) ?_
    show rx_aw 41 47 [.ref 13, .int x1, .ref (rx_ct j3)] [.ref (rx_ct j3 + 4)] (rx_hp L t (rx_u (rx_u hi (rx_ct j3) 12 (0 : Int32)) (rx_ct j3 + 3) j4 ((rx_u hi (rx_ct j3) 12 (0 : Int32)) (rx_ct j3) 6)) hl v) Q
    refine rx_aw_s 4 (pc := 47) rfl ?_
    show rx_aw 41 53 [.ref 13, .int x1, .ref (rx_ct j3)] [.ref (rx_ct j3), .ref 7, .int (0 : Int32), .ref (rx_ct j3 + 4)] (rx_hp L t (rx_u (rx_u hi (rx_ct j3) 12 (0 : Int32)) (rx_ct j3 + 3) j4 ((rx_u hi (rx_ct j3) 12 (0 : Int32)) (rx_ct j3) 6)) hl v) Q
    refine rx_w_cg hj3 (pc := 53) rfl (by decide) (by decide) ?_
    show rx_aw 41 56 [.ref 13, .int x1, .ref (rx_ct j3)] [.int ((rx_u (rx_u hi (rx_ct j3) 12 (0 : Int32)) (rx_ct j3 + 3) j4 ((rx_u hi (rx_ct j3) 12 (0 : Int32)) (rx_ct j3) 6)) (rx_ct j3) 5), .ref 7, .int (0 : Int32), .ref (rx_ct j3 + 4)] (rx_hp L t (rx_u (rx_u hi (rx_ct j3) 12 (0 : Int32)) (rx_ct j3 + 3) j4 ((rx_u hi (rx_ct j3) 12 (0 : Int32)) (rx_ct j3) 6)) hl v) Q
    refine rx_aw_s 1 (pc := 56) rfl ?_
    show rx_aw 41 57 [.ref 13, .int x1, .ref (rx_ct j3)] [.ref (rx_ct j3), .int ((rx_u (rx_u hi (rx_ct j3) 12 (0 : Int32)) (rx_ct j3 + 3) j4 ((rx_u hi (rx_ct j3) 12 (0 : Int32)) (rx_ct j3) 6)) (rx_ct j3) 5), .ref 7, .int (0 : Int32), .ref (rx_ct j3 + 4)] (rx_hp L t (rx_u (rx_u hi (rx_ct j3) 12 (0 : Int32)) (rx_ct j3 + 3) j4 ((rx_u hi (rx_ct j3) 12 (0 : Int32)) (rx_ct j3) 6)) hl v) Q
    refine rx_w_cg hj3 (pc := 57) rfl (by decide) (by decide) ?_
    show rx_aw 41 60 [.ref 13, .int x1, .ref (rx_ct j3)] [.int ((rx_u (rx_u hi (rx_ct j3) 12 (0 : Int32)) (rx_ct j3 + 3) j4 ((rx_u hi (rx_ct j3) 12 (0 : Int32)) (rx_ct j3) 6)) (rx_ct j3) 6), .int ((rx_u (rx_u hi (rx_ct j3) 12 (0 : Int32)) (rx_ct j3 + 3) j4 ((rx_u hi (rx_ct j3) 12 (0 : Int32)) (rx_ct j3) 6)) (rx_ct j3) 5), .ref 7, .int (0 : Int32), .ref (rx_ct j3 + 4)] (rx_hp L t (rx_u (rx_u hi (rx_ct j3) 12 (0 : Int32)) (rx_ct j3 + 3) j4 ((rx_u hi (rx_ct j3) 12 (0 : Int32)) (rx_ct j3) 6)) hl v) Q
    refine rx_w_callL (j := 42) (pc := 60) rfl rfl rfl rfl rfl ?_
    refine rx_aw.mono k (fun r h2 k => ?_)
    obtain ⟨z5, rfl, hi5, hl5, v5, rfl, k⟩ := k
    refine ⟨z5, rfl, ?_⟩
    show rx_aw 41 63 [.ref 13, .int x1, .ref (rx_ct j3)] [.long z5, .int (0 : Int32), .ref (rx_ct j3 + 4)] (rx_hp L t hi5 hl5 v5) Q
    obtain ⟨j6, ej6, hj6, k⟩ := k
    refine rx_aw_last (pc := 63) (n := 402) j6 ej6 rfl (rx_ck (rx_cart_s hj3).2.2.2.2.1) (Nat.lt_of_lt_of_le (rx_ct_pos _) (Nat.le_add_right _ _)) (rx_cle (rx_cart_s hj3).2.2.2.2.1) hj6 (by decide) ?_
    show rx_aw 41 64 [.ref 13, .int x1, .ref (rx_ct j3)] [] (rx_hp L t hi5 (rx_u hl5 (rx_ct j3 + 4) j6 z5) v5) Q
    refine rx_aw_s 2 (pc := 64) rfl ?_
    show rx_aw 41 13 [.ref 13, .int (x1 + (1 : Int32)), .ref (rx_ct j3)] [] (rx_hp L t hi5 (rx_u hl5 (rx_ct j3 + 4) j6 z5) v5) Q
    exact rx_aw_le (ls := [.ref 13, .int (x1 + (1 : Int32)), rx_no]) ⟨Or.inr rfl, ⟨Or.inr rfl, ⟨Or.inl rfl, trivial⟩⟩⟩ k
theorem w41_replay_72 {L : Nat} {t : List (Nat × Nat)} {hi : Nat → Nat → Int32} {hl : Nat → Nat → Int64} {v : Nat → Nat → Option Nat} {Q : Option Value → rx_H → Prop} {x1 : Int32} (k : (((hi 13 4) ≤ x1 → rx_aw 41 108 [.ref 13, .int (0 : Int32), rx_no] [] (rx_hp L t hi hl v) Q) ∧ (¬ ((hi 13 4) ≤ x1) → (∃ j8 : Nat, x1 = nI j8 ∧ j8 < 12 ∧ (∃ j9 : Nat, x1 = nI j9 ∧ j9 < 12 ∧ (∃ j10 : Nat, (0 : Int32) = nI j10 ∧ j10 < 402 ∧ rx_aw 41 72 [.ref 13, .int (x1 + (1 : Int32)), rx_no] [] (rx_hp L t (rx_u hi (rx_sf j8 + 1) j10 (hi (rx_sf j9) 1)) hl v) Q)))))) : rx_aw 41 72 [.ref 13, .int x1, rx_no] [] (rx_hp L t hi hl v) Q := by
  refine rx_aw_s 4 (pc := 72) rfl ?_
  refine rx_w_if (c := (hi 13 4) ≤ x1) ⟨fun c7 => ?_, fun c7 => ?_⟩
  · have k := k.1 c7
    show rx_aw 41 106 [.ref 13, .int x1, rx_no] [] (rx_hp L t hi hl v) Q
    refine rx_aw_s 2 (pc := 106) rfl ?_
    show rx_aw 41 108 [.ref 13, .int (0 : Int32), rx_no] [] (rx_hp L t hi hl v) Q
    exact k
  · have k := k.2 c7
    show rx_aw 41 80 [.ref 13, .int x1, rx_no] [] (rx_hp L t hi hl v) Q
    refine rx_aw_s 3 (pc := 80) rfl ?_
    show rx_aw 41 85 [.ref 13, .int x1, rx_no] [.int x1, .ref 15] (rx_hp L t hi hl v) Q
    obtain ⟨j8, ej8, hj8, k⟩ := k
    refine rx_w_shelves (pc := 85) rfl ⟨j8, ej8, hj8, ?_⟩
    show rx_aw 41 86 [.ref 13, .int x1, rx_no] [.ref (rx_sf j8)] (rx_hp L t hi hl v) Q
    refine rx_w_sr hj8 (pc := 86) rfl ?_
    show rx_aw 41 89 [.ref 13, .int x1, rx_no] [.ref (rx_sf j8 + 1)] (rx_hp L t hi hl v) Q
    refine rx_aw_s 4 (pc := 89) rfl ?_
    show rx_aw 41 95 [.ref 13, .int x1, rx_no] [.int x1, .ref 15, .int (0 : Int32), .ref (rx_sf j8 + 1)] (rx_hp L t hi hl v) Q
    obtain ⟨j9, ej9, hj9, k⟩ := k
    refine rx_w_shelves (pc := 95) rfl ⟨j9, ej9, hj9, ?_⟩
    show rx_aw 41 96 [.ref 13, .int x1, rx_no] [.ref (rx_sf j9), .int (0 : Int32), .ref (rx_sf j8 + 1)] (rx_hp L t hi hl v) Q
    refine rx_w_sg hj9 (pc := 96) rfl ?_
    show rx_aw 41 99 [.ref 13, .int x1, rx_no] [.int (hi (rx_sf j9) 1), .int (0 : Int32), .ref (rx_sf j8 + 1)] (rx_hp L t hi hl v) Q
    obtain ⟨j10, ej10, hj10, k⟩ := k
    refine rx_aw_iast (pc := 99) (n := 402) j10 ej10 rfl (rx_ck (rx_shelf_s (v := v) hj8).2.1) (Nat.lt_of_lt_of_le (rx_sf_pos _) (Nat.le_add_right _ _)) (rx_cle (rx_shelf_s (v := v) hj8).2.1) hj10 (by decide) ?_
    show rx_aw 41 100 [.ref 13, .int x1, rx_no] [] (rx_hp L t (rx_u hi (rx_sf j8 + 1) j10 (hi (rx_sf j9) 1)) hl v) Q
    refine rx_aw_s 2 (pc := 100) rfl ?_
    show rx_aw 41 72 [.ref 13, .int (x1 + (1 : Int32)), rx_no] [] (rx_hp L t (rx_u hi (rx_sf j8 + 1) j10 (hi (rx_sf j9) 1)) hl v) Q
    exact k
theorem w41_replay_108 {L : Nat} {t : List (Nat × Nat)} {hi : Nat → Nat → Int32} {hl : Nat → Nat → Int64} {v : Nat → Nat → Option Nat} {Q : Option Value → rx_H → Prop} {x1 : Int32} (k : (((hi 13 5) ≤ x1 → rx_aw 41 158 [.ref 13, .int (0 : Int32), rx_no] [] (rx_hp L t hi hl v) Q) ∧ (¬ ((hi 13 5) ≤ x1) → rx_aw 41 118 [.ref 13, .int x1, .int (0 : Int32)] [] (rx_hp L t hi hl v) Q))) : rx_aw 41 108 [.ref 13, .int x1, rx_no] [] (rx_hp L t hi hl v) Q := by
  refine rx_aw_s 4 (pc := 108) rfl ?_
  refine rx_w_if (c := (hi 13 5) ≤ x1) ⟨fun c11 => ?_, fun c11 => ?_⟩
  · have k := k.1 c11
    show rx_aw 41 156 [.ref 13, .int x1, rx_no] [] (rx_hp L t hi hl v) Q
    refine rx_aw_s 2 (pc := 156) rfl ?_
    show rx_aw 41 158 [.ref 13, .int (0 : Int32), rx_no] [] (rx_hp L t hi hl v) Q
    exact k
  · have k := k.2 c11
    show rx_aw 41 116 [.ref 13, .int x1, rx_no] [] (rx_hp L t hi hl v) Q
    refine rx_aw_s 2 (pc := 116) rfl ?_
    show rx_aw 41 118 [.ref 13, .int x1, .int (0 : Int32)] [] (rx_hp L t hi hl v) Q
    exact k
theorem w41_replay_158 {L : Nat} {t : List (Nat × Nat)} {hi : Nat → Nat → Int32} {hl : Nat → Nat → Int64} {v : Nat → Nat → Option Nat} {Q : Option Value → rx_H → Prop} {x1 : Int32} (k : (((hi 13 3) ≤ x1 → Q none (rx_hp L t hi hl v)) ∧ (¬ ((hi 13 3) ≤ x1) → (∃ j13 : Nat, x1 = nI j13 ∧ j13 < 6 ∧ rx_me 52 [.ref 13, .ref (rx_ct j13)] (rx_hp L t hi hl v) (fun r h2 => r = none ∧ rx_ok2 L t h2 (fun hi14 hl14 v14 => rx_aw 41 158 [.ref 13, .int (x1 + (1 : Int32)), rx_no] [] (rx_hp L t hi14 hl14 v14) Q)))))) : rx_aw 41 158 [.ref 13, .int x1, rx_no] [] (rx_hp L t hi hl v) Q := by
  refine rx_aw_s 4 (pc := 158) rfl ?_
  refine rx_w_if (c := (hi 13 3) ≤ x1) ⟨fun c12 => ?_, fun c12 => ?_⟩
  · have k := k.1 c12
    show rx_aw 41 182 [.ref 13, .int x1, rx_no] [] (rx_hp L t hi hl v) Q
    exact rx_aw_ret (pc := 182) rfl k
  · have k := k.2 c12
    show rx_aw 41 166 [.ref 13, .int x1, rx_no] [] (rx_hp L t hi hl v) Q
    refine rx_aw_s 4 (pc := 166) rfl ?_
    show rx_aw 41 172 [.ref 13, .int x1, rx_no] [.int x1, .ref 14, .ref 13] (rx_hp L t hi hl v) Q
    obtain ⟨j13, ej13, hj13, k⟩ := k
    refine rx_w_carts (pc := 172) rfl ⟨j13, ej13, hj13, ?_⟩
    show rx_aw 41 173 [.ref 13, .int x1, rx_no] [.ref (rx_ct j13), .ref 13] (rx_hp L t hi hl v) Q
    refine rx_w_callV (j := 52) (pc := 173) rfl rfl rfl rfl rfl ?_
    refine rx_aw.mono k (fun r h2 k => ?_)
    obtain ⟨rfl, hi14, hl14, v14, rfl, k⟩ := k
    refine ⟨rfl, ?_⟩
    show rx_aw 41 176 [.ref 13, .int x1, rx_no] [] (rx_hp L t hi14 hl14 v14) Q
    refine rx_aw_s 2 (pc := 176) rfl ?_
    show rx_aw 41 158 [.ref 13, .int (x1 + (1 : Int32)), rx_no] [] (rx_hp L t hi14 hl14 v14) Q
    exact k
theorem w41_replay_118 {L : Nat} {t : List (Nat × Nat)} {hi : Nat → Nat → Int32} {hl : Nat → Nat → Int64} {v : Nat → Nat → Option Nat} {Q : Option Value → rx_H → Prop} {x1 : Int32} {x2 : Int32} (k : (((hi 13 3) ≤ x2 → rx_me 51 [.ref 13, .int (x1 + (1 : Int32))] (rx_hp L t hi hl v) (fun r h2 => r = none ∧ rx_ok2 L t h2 (fun hi16 hl16 v16 => rx_aw 41 108 [.ref 13, .int (x1 + (1 : Int32)), rx_no] [] (rx_hp L t hi16 hl16 v16) Q))) ∧ (¬ ((hi 13 3) ≤ x2) → (∃ j17 : Nat, x2 = nI j17 ∧ j17 < 6 ∧ rx_me 43 [.ref 13, .ref (rx_ct j17), .int x1] (rx_hp L t hi hl v) (fun r h2 => r = none ∧ rx_ok2 L t h2 (fun hi18 hl18 v18 => rx_aw 41 118 [.ref 13, .int x1, .int (x2 + (1 : Int32))] [] (rx_hp L t hi18 hl18 v18) Q)))))) : rx_aw 41 118 [.ref 13, .int x1, .int x2] [] (rx_hp L t hi hl v) Q := by
  refine rx_aw_s 4 (pc := 118) rfl ?_
  refine rx_w_if (c := (hi 13 3) ≤ x2) ⟨fun c15 => ?_, fun c15 => ?_⟩
  · have k := k.1 c15
    show rx_aw 41 143 [.ref 13, .int x1, .int x2] [] (rx_hp L t hi hl v) Q
    refine rx_aw_s 4 (pc := 143) rfl ?_
    show rx_aw 41 147 [.ref 13, .int x1, .int x2] [.int (x1 + (1 : Int32)), .ref 13] (rx_hp L t hi hl v) Q
    refine rx_w_callV (j := 51) (pc := 147) rfl rfl rfl rfl rfl ?_
    refine rx_aw.mono k (fun r h2 k => ?_)
    obtain ⟨rfl, hi16, hl16, v16, rfl, k⟩ := k
    refine ⟨rfl, ?_⟩
    show rx_aw 41 150 [.ref 13, .int x1, .int x2] [] (rx_hp L t hi16 hl16 v16) Q
    refine rx_aw_s 2 (pc := 150) rfl ?_
    show rx_aw 41 108 [.ref 13, .int (x1 + (1 : Int32)), .int x2] [] (rx_hp L t hi16 hl16 v16) Q
    exact rx_aw_le (ls := [.ref 13, .int (x1 + (1 : Int32)), rx_no]) ⟨Or.inr rfl, ⟨Or.inr rfl, ⟨Or.inl rfl, trivial⟩⟩⟩ k
  · have k := k.2 c15
    show rx_aw 41 126 [.ref 13, .int x1, .int x2] [] (rx_hp L t hi hl v) Q
    refine rx_aw_s 4 (pc := 126) rfl ?_
    show rx_aw 41 132 [.ref 13, .int x1, .int x2] [.int x2, .ref 14, .ref 13] (rx_hp L t hi hl v) Q
    obtain ⟨j17, ej17, hj17, k⟩ := k
    refine rx_w_carts (pc := 132) rfl ⟨j17, ej17, hj17, ?_⟩
    show rx_aw 41 133 [.ref 13, .int x1, .int x2] [.ref (rx_ct j17), .ref 13] (rx_hp L t hi hl v) Q
    refine rx_aw_s 1 (pc := 133) rfl ?_
    show rx_aw 41 134 [.ref 13, .int x1, .int x2] [.int x1, .ref (rx_ct j17), .ref 13] (rx_hp L t hi hl v) Q
    refine rx_w_callV (j := 43) (pc := 134) rfl rfl rfl rfl rfl ?_
    refine rx_aw.mono k (fun r h2 k => ?_)
    obtain ⟨rfl, hi18, hl18, v18, rfl, k⟩ := k
    refine ⟨rfl, ?_⟩
    show rx_aw 41 137 [.ref 13, .int x1, .int x2] [] (rx_hp L t hi18 hl18 v18) Q
    refine rx_aw_s 2 (pc := 137) rfl ?_
    show rx_aw 41 118 [.ref 13, .int x1, .int (x2 + (1 : Int32))] [] (rx_hp L t hi18 hl18 v18) Q
    exact k
/-- CartFloor$Floor.standing(II)J -/
theorem w42_standing {L : Nat} {t : List (Nat × Nat)} {hi : Nat → Nat → Int32} {hl : Nat → Nat → Int64} {v : Nat → Nat → Option Nat} {Q : Option Value → rx_H → Prop} {a0 : Int32} {a1 : Int32} (k : ((a0 < (2 : Int32) → (∃ j2 : Nat, ((0 : Int32) + (a1 &&& (255 : Int32))) = nI j2 ∧ j2 < 512 ∧ Q (some (.long (hl 11 j2))) (rx_hp L t hi hl v))) ∧ (¬ (a0 < (2 : Int32)) → (∃ j3 : Nat, ((256 : Int32) + (a1 &&& (255 : Int32))) = nI j3 ∧ j3 < 512 ∧ Q (some (.long (hl 11 j3))) (rx_hp L t hi hl v))))) : rx_me 42 [.ref 7, .int a0, .int a1] (rx_hp L t hi hl v) Q := by
  show rx_aw 42 0 [.ref 7, .int a0, .int a1] [] (rx_hp L t hi hl v) Q
  refine rx_aw_s 5 (pc := 0) rfl ?_
  refine rx_w_if (c := a0 < (2 : Int32)) ⟨fun c1 => ?_, fun c1 => ?_⟩
  · have k := k.1 c1
    show rx_aw 42 15 [.ref 7, .int a0, .int a1] [.ref 11] (rx_hp L t hi hl v) Q
    refine rx_aw_s 5 (pc := 15) rfl ?_
    show rx_aw 42 22 [.ref 7, .int a0, .int a1] [.int ((0 : Int32) + (a1 &&& (255 : Int32))), .ref 11] (rx_hp L t hi hl v) Q
    obtain ⟨j2, ej2, hj2, k⟩ := k
    refine rx_aw_lald (pc := 22) (n := 512) j2 ej2 rfl rfl (by decide) rfl hj2 (by decide) ?_
    show rx_aw 42 23 [.ref 7, .int a0, .int a1] [.long (hl 11 j2)] (rx_hp L t hi hl v) Q
    exact rx_aw_ret (pc := 23) rfl k
  · have k := k.2 c1
    show rx_aw 42 9 [.ref 7, .int a0, .int a1] [.ref 11] (rx_hp L t hi hl v) Q
    refine rx_aw_s 6 (pc := 9) rfl ?_
    show rx_aw 42 22 [.ref 7, .int a0, .int a1] [.int ((256 : Int32) + (a1 &&& (255 : Int32))), .ref 11] (rx_hp L t hi hl v) Q
    obtain ⟨j3, ej3, hj3, k⟩ := k
    refine rx_aw_lald (pc := 22) (n := 512) j3 ej3 rfl rfl (by decide) rfl hj3 (by decide) ?_
    show rx_aw 42 23 [.ref 7, .int a0, .int a1] [.long (hl 11 j3)] (rx_hp L t hi hl v) Q
    exact rx_aw_ret (pc := 23) rfl k
/-- CartFloor$Traffic.moveOn(LCartFloor$Cart;I)V -/
theorem w43_moveOn {L : Nat} {t : List (Nat × Nat)} {hi : Nat → Nat → Int32} {hl : Nat → Nat → Int64} {v : Nat → Nat → Option Nat} {Q : Option Value → rx_H → Prop} {c0 : Nat} (hc0 : c0 < 6) {a1 : Int32} (k : (∃ j1 : Nat, a1 = nI j1 ∧ j1 < 402 ∧ rx_me 44 [.ref (rx_ct c0), .int a1] (rx_hp L t hi hl v) (fun r h2 => ∃ z2 : Int32, r = some (.int z2) ∧ rx_ok2 L t h2 (fun hi2 hl2 v2 => ((z2 = (5 : Int32) → rx_me 8 [.int (hi (rx_ct c0 + 3) j1)] (rx_hp L t hi2 hl2 v2) (fun r h2 => ∃ z4 : Int32, r = some (.int z4) ∧ rx_ok2 L t h2 (fun hi4 hl4 v4 => rx_me 45 [.ref 13, .int z4, .int a1] (rx_hp L t hi4 hl4 v4) (fun r h2 => ∃ z5 : Int32, r = some (.int z5) ∧ rx_ok2 L t h2 (fun hi5 hl5 v5 => rx_me 49 [.ref 7, .int (hi5 (rx_ct c0) 5), .int (hi (rx_ct c0 + 3) j1), .int z2, .int z5] (rx_hp L t hi5 hl5 v5) (fun r h2 => ∃ z6 : Int32, r = some (.int z6) ∧ rx_ok2 L t h2 (fun hi6 hl6 v6 => ((0 ≤ z6 → (∃ j8 : Nat, (a1 + (1 : Int32)) = nI j8 ∧ j8 < 402 ∧ rx_me 42 [.ref 7, .int ((rx_u hi6 (rx_ct c0 + 3) j8 z6) (rx_ct c0) 5), .int z6] (rx_hp L t (rx_u hi6 (rx_ct c0 + 3) j8 z6) hl6 v6) (fun r h2 => ∃ z9 : Int64, r = some (.long z9) ∧ rx_ok2 L t h2 (fun hi9 hl9 v9 => (∃ j10 : Nat, (a1 + (1 : Int32)) = nI j10 ∧ j10 < 402 ∧ Q none (rx_hp L t hi9 (rx_u hl9 (rx_ct c0 + 4) j10 z9) v9)))))) ∧ (¬ (0 ≤ z6) → (∃ j11 : Nat, (a1 + (1 : Int32)) = nI j11 ∧ j11 < 402 ∧ rx_me 42 [.ref 7, .int ((rx_u (rx_u hi6 (rx_ct c0) 12 (1 : Int32)) (rx_ct c0 + 3) j11 (hi (rx_ct c0 + 3) j1)) (rx_ct c0) 5), .int (hi (rx_ct c0 + 3) j1)] (rx_hp L t (rx_u (rx_u hi6 (rx_ct c0) 12 (1 : Int32)) (rx_ct c0 + 3) j11 (hi (rx_ct c0 + 3) j1)) hl6 v6) (fun r h2 => ∃ z12 : Int64, r = some (.long z12) ∧ rx_ok2 L t h2 (fun hi12 hl12 v12 => (∃ j13 : Nat, (a1 + (1 : Int32)) = nI j13 ∧ j13 < 402 ∧ Q none (rx_hp L t hi12 (rx_u hl12 (rx_ct c0 + 4) j13 z12) v12)))))))))))))) ∧ (¬ (z2 = (5 : Int32)) → rx_me 49 [.ref 7, .int (hi2 (rx_ct c0) 5), .int (hi (rx_ct c0 + 3) j1), .int z2, .int (-1 : Int32)] (rx_hp L t hi2 hl2 v2) (fun r h2 => ∃ z14 : Int32, r = some (.int z14) ∧ rx_ok2 L t h2 (fun hi14 hl14 v14 => ((0 ≤ z14 → (∃ j16 : Nat, (a1 + (1 : Int32)) = nI j16 ∧ j16 < 402 ∧ rx_me 42 [.ref 7, .int ((rx_u hi14 (rx_ct c0 + 3) j16 z14) (rx_ct c0) 5), .int z14] (rx_hp L t (rx_u hi14 (rx_ct c0 + 3) j16 z14) hl14 v14) (fun r h2 => ∃ z17 : Int64, r = some (.long z17) ∧ rx_ok2 L t h2 (fun hi17 hl17 v17 => (∃ j18 : Nat, (a1 + (1 : Int32)) = nI j18 ∧ j18 < 402 ∧ Q none (rx_hp L t hi17 (rx_u hl17 (rx_ct c0 + 4) j18 z17) v17)))))) ∧ (¬ (0 ≤ z14) → (∃ j19 : Nat, (a1 + (1 : Int32)) = nI j19 ∧ j19 < 402 ∧ rx_me 42 [.ref 7, .int ((rx_u (rx_u hi14 (rx_ct c0) 12 (1 : Int32)) (rx_ct c0 + 3) j19 (hi (rx_ct c0 + 3) j1)) (rx_ct c0) 5), .int (hi (rx_ct c0 + 3) j1)] (rx_hp L t (rx_u (rx_u hi14 (rx_ct c0) 12 (1 : Int32)) (rx_ct c0 + 3) j19 (hi (rx_ct c0 + 3) j1)) hl14 v14) (fun r h2 => ∃ z20 : Int64, r = some (.long z20) ∧ rx_ok2 L t h2 (fun hi20 hl20 v20 => (∃ j21 : Nat, (a1 + (1 : Int32)) = nI j21 ∧ j21 < 402 ∧ Q none (rx_hp L t hi20 (rx_u hl20 (rx_ct c0 + 4) j21 z20) v20))))))))))))))) : rx_me 43 [.ref 13, .ref (rx_ct c0), .int a1] (rx_hp L t hi hl v) Q := by
  show rx_aw 43 0 [.ref 13, .ref (rx_ct c0), .int a1, rx_no, rx_no, rx_no, rx_no] [] (rx_hp L t hi hl v) Q
  refine rx_aw_s 1 (pc := 0) rfl ?_
  show rx_aw 43 1 [.ref 13, .ref (rx_ct c0), .int a1, rx_no, rx_no, rx_no, rx_no] [.ref (rx_ct c0)] (rx_hp L t hi hl v) Q
  refine rx_w_cr hc0 (pc := 1) rfl (by decide) ?_
  show rx_aw 43 4 [.ref 13, .ref (rx_ct c0), .int a1, rx_no, rx_no, rx_no, rx_no] [.ref (rx_ct c0 + 3)] (rx_hp L t hi hl v) Q
  refine rx_aw_s 1 (pc := 4) rfl ?_
  show rx_aw 43 5 [.ref 13, .ref (rx_ct c0), .int a1, rx_no, rx_no, rx_no, rx_no] [.int a1, .ref (rx_ct c0 + 3)] (rx_hp L t hi hl v) Q
  obtain ⟨j1, ej1, hj1, k⟩ := k
  refine rx_aw_iald (pc := 5) (n := 402) j1 ej1 rfl (rx_ck (rx_cart_s hc0).2.2.2.1) (rx_cle (rx_cart_s hc0).2.2.2.1) hj1 (by decide) ?_
  show rx_aw 43 6 [.ref 13, .ref (rx_ct c0), .int a1, rx_no, rx_no, rx_no, rx_no] [.int (hi (rx_ct c0 + 3) j1)] (rx_hp L t hi hl v) Q
  refine rx_aw_s 3 (pc := 6) rfl ?_
  show rx_aw 43 9 [.ref 13, .ref (rx_ct c0), .int a1, .int (hi (rx_ct c0 + 3) j1), rx_no, rx_no, rx_no] [.int a1, .ref (rx_ct c0)] (rx_hp L t hi hl v) Q
  refine rx_w_callI (j := 44) (pc := 9) rfl rfl rfl rfl (rx_mayc rfl rfl rfl rfl (rx_ck (rx_cart_s hc0).1) (rx_ct_pos _)) ?_
  refine rx_aw.mono k (fun r h2 k => ?_)
  obtain ⟨z2, rfl, hi2, hl2, v2, rfl, k⟩ := k
  refine ⟨z2, rfl, ?_⟩
  show rx_aw 43 12 [.ref 13, .ref (rx_ct c0), .int a1, .int (hi (rx_ct c0 + 3) j1), rx_no, rx_no, rx_no] [.int z2] (rx_hp L t hi2 hl2 v2) Q
  refine rx_aw_s 4 (pc := 12) rfl ?_
  refine rx_w_ifn (c := z2 = (5 : Int32)) ⟨fun c3 => ?_, fun c3 => ?_⟩
  · have k := k.1 c3
    show rx_aw 43 20 [.ref 13, .ref (rx_ct c0), .int a1, .int (hi (rx_ct c0 + 3) j1), .int z2, rx_no, rx_no] [] (rx_hp L t hi2 hl2 v2) Q
    refine rx_aw_s 2 (pc := 20) rfl ?_
    show rx_aw 43 22 [.ref 13, .ref (rx_ct c0), .int a1, .int (hi (rx_ct c0 + 3) j1), .int z2, rx_no, rx_no] [.int (hi (rx_ct c0 + 3) j1), .ref 13] (rx_hp L t hi2 hl2 v2) Q
    refine rx_w_callI (j := 8) (pc := 22) rfl rfl rfl rfl rfl ?_
    refine rx_aw.mono k (fun r h2 k => ?_)
    obtain ⟨z4, rfl, hi4, hl4, v4, rfl, k⟩ := k
    refine ⟨z4, rfl, ?_⟩
    show rx_aw 43 25 [.ref 13, .ref (rx_ct c0), .int a1, .int (hi (rx_ct c0 + 3) j1), .int z2, rx_no, rx_no] [.int z4, .ref 13] (rx_hp L t hi4 hl4 v4) Q
    refine rx_aw_s 1 (pc := 25) rfl ?_
    show rx_aw 43 26 [.ref 13, .ref (rx_ct c0), .int a1, .int (hi (rx_ct c0 + 3) j1), .int z2, rx_no, rx_no] [.int a1, .int z4, .ref 13] (rx_hp L t hi4 hl4 v4) Q
    refine rx_w_callI (j := 45) (pc := 26) rfl rfl rfl rfl rfl ?_
    refine rx_aw.mono k (fun r h2 k => ?_)
    obtain ⟨z5, rfl, hi5, hl5, v5, rfl, k⟩ := k
    refine ⟨z5, rfl, ?_⟩
    show rx_aw 43 29 [.ref 13, .ref (rx_ct c0), .int a1, .int (hi (rx_ct c0 + 3) j1), .int z2, rx_no, rx_no] [.int z5] (rx_hp L t hi5 hl5 v5) Q
    refine rx_aw_s 5 (pc := 29) rfl ?_
    show rx_aw 43 40 [.ref 13, .ref (rx_ct c0), .int a1, .int (hi (rx_ct c0 + 3) j1), .int z2, .int z5, rx_no] [.ref (rx_ct c0), .ref 7] (rx_hp L t hi5 hl5 v5) Q
    refine rx_w_cg hc0 (pc := 40) rfl (by decide) (by decide) ?_
    show rx_aw 43 43 [.ref 13, .ref (rx_ct c0), .int a1, .int (hi (rx_ct c0 + 3) j1), .int z2, .int z5, rx_no] [.int (hi5 (rx_ct c0) 5), .ref 7] (rx_hp L t hi5 hl5 v5) Q
    refine rx_aw_s 3 (pc := 43) rfl ?_
    show rx_aw 43 48 [.ref 13, .ref (rx_ct c0), .int a1, .int (hi (rx_ct c0 + 3) j1), .int z2, .int z5, rx_no] [.int z5, .int z2, .int (hi (rx_ct c0 + 3) j1), .int (hi5 (rx_ct c0) 5), .ref 7] (rx_hp L t hi5 hl5 v5) Q
    refine rx_w_callI (j := 49) (pc := 48) rfl rfl rfl rfl rfl ?_
    refine rx_aw.mono k (fun r h2 k => ?_)
    obtain ⟨z6, rfl, hi6, hl6, v6, rfl, k⟩ := k
    refine ⟨z6, rfl, ?_⟩
    show rx_aw 43 51 [.ref 13, .ref (rx_ct c0), .int a1, .int (hi (rx_ct c0 + 3) j1), .int z2, .int z5, rx_no] [.int z6] (rx_hp L t hi6 hl6 v6) Q
    refine rx_aw_s 3 (pc := 51) rfl ?_
    refine rx_w_if (c := 0 ≤ z6) ⟨fun c7 => ?_, fun c7 => ?_⟩
    · have k := k.1 c7
      show rx_aw 43 66 [.ref 13, .ref (rx_ct c0), .int a1, .int (hi (rx_ct c0 + 3) j1), .int z2, .int z5, .int z6] [] (rx_hp L t hi6 hl6 v6) Q
      refine rx_aw_s 1 (pc := 66) rfl ?_
      show rx_aw 43 67 [.ref 13, .ref (rx_ct c0), .int a1, .int (hi (rx_ct c0 + 3) j1), .int z2, .int z5, .int z6] [.ref (rx_ct c0)] (rx_hp L t hi6 hl6 v6) Q
      refine rx_w_cr hc0 (pc := 67) rfl (by decide) ?_
      show rx_aw 43 70 [.ref 13, .ref (rx_ct c0), .int a1, .int (hi (rx_ct c0 + 3) j1), .int z2, .int z5, .int z6] [.ref (rx_ct c0 + 3)] (rx_hp L t hi6 hl6 v6) Q
      refine rx_aw_s 4 (pc := 70) rfl ?_
      show rx_aw 43 75 [.ref 13, .ref (rx_ct c0), .int a1, .int (hi (rx_ct c0 + 3) j1), .int z2, .int z5, .int z6] [.int z6, .int (a1 + (1 : Int32)), .ref (rx_ct c0 + 3)] (rx_hp L t hi6 hl6 v6) Q
      obtain ⟨j8, ej8, hj8, k⟩ := k
      refine rx_aw_iast (pc := 75) (n := 402) j8 ej8 rfl (rx_ck (rx_cart_s hc0).2.2.2.1) (Nat.lt_of_lt_of_le (rx_ct_pos _) (Nat.le_add_right _ _)) (rx_cle (rx_cart_s hc0).2.2.2.1) hj8 (by decide) ?_
      show rx_aw 43 76 [.ref 13, .ref (rx_ct c0), .int a1, .int (hi (rx_ct c0 + 3) j1), .int z2, .int z5, .int z6] [] (rx_hp L t (rx_u hi6 (rx_ct c0 + 3) j8 z6) hl6 v6) Q
      refine rx_aw_s 1 (pc := 76) rfl ?_
      show rx_aw 43 77 [.ref 13, .ref (rx_ct c0), .int a1, .int (hi (rx_ct c0 + 3) j1), .int z2, .int z5, .int z6] [.ref (rx_ct c0)] (rx_hp L t (rx_u hi6 (rx_ct c0 + 3) j8 z6) hl6 v6) Q
      refine rx_w_cr hc0 (pc := 77) rfl (by decide) ?_
      show rx_aw 43 80 [.ref 13, .ref (rx_ct c0), .int a1, .int (hi (rx_ct c0 + 3) j1), .int z2, .int z5, .int z6] [.ref (rx_ct c0 + 4)] (rx_hp L t (rx_u hi6 (rx_ct c0 + 3) j8 z6) hl6 v6) Q
      refine rx_aw_s 6 (pc := 80) rfl ?_
      show rx_aw 43 88 [.ref 13, .ref (rx_ct c0), .int a1, .int (hi (rx_ct c0 + 3) j1), .int z2, .int z5, .int z6] [.ref (rx_ct c0), .ref 7, .int (a1 + (1 : Int32)), .ref (rx_ct c0 + 4)] (rx_hp L t (rx_u hi6 (rx_ct c0 + 3) j8 z6) hl6 v6) Q
      refine rx_w_cg hc0 (pc := 88) rfl (by decide) (by decide) ?_
      show rx_aw 43 91 [.ref 13, .ref (rx_ct c0), .int a1, .int (hi (rx_ct c0 + 3) j1), .int z2, .int z5, .int z6] [.int ((rx_u hi6 (rx_ct c0 + 3) j8 z6) (rx_ct c0) 5), .ref 7, .int (a1 + (1 : Int32)), .ref (rx_ct c0 + 4)] (rx_hp L t (rx_u hi6 (rx_ct c0 + 3) j8 z6) hl6 v6) Q
      refine rx_aw_s 1 (pc := 91) rfl ?_
      show rx_aw 43 93 [.ref 13, .ref (rx_ct c0), .int a1, .int (hi (rx_ct c0 + 3) j1), .int z2, .int z5, .int z6] [.int z6, .int ((rx_u hi6 (rx_ct c0 + 3) j8 z6) (rx_ct c0) 5), .ref 7, .int (a1 + (1 : Int32)), .ref (rx_ct c0 + 4)] (rx_hp L t (rx_u hi6 (rx_ct c0 + 3) j8 z6) hl6 v6) Q
      refine rx_w_callL (j := 42) (pc := 93) rfl rfl rfl rfl rfl ?_
      refine rx_aw.mono k (fun r h2 k => ?_)
      obtain ⟨z9, rfl, hi9, hl9, v9, rfl, k⟩ := k
      refine ⟨z9, rfl, ?_⟩
      show rx_aw 43 96 [.ref 13, .ref (rx_ct c0), .int a1, .int (hi (rx_ct c0 + 3) j1), .int z2, .int z5, .int z6] [.long z9, .int (a1 + (1 : Int32)), .ref (rx_ct c0 + 4)] (rx_hp L t hi9 hl9 v9) Q
      obtain ⟨j10, ej10, hj10, k⟩ := k
      refine rx_aw_last (pc := 96) (n := 402) j10 ej10 rfl (rx_ck (rx_cart_s hc0).2.2.2.2.1) (Nat.lt_of_lt_of_le (rx_ct_pos _) (Nat.le_add_right _ _)) (rx_cle (rx_cart_s hc0).2.2.2.2.1) hj10 (by decide) ?_
      show rx_aw 43 97 [.ref 13, .ref (rx_ct c0), .int a1, .int (hi (rx_ct c0 + 3) j1), .int z2, .int z5, .int z6] [] (rx_hp L t hi9 (rx_u hl9 (rx_ct c0 + 4) j10 z9) v9) Q
      exact rx_aw_ret (pc := 97) rfl k
    · have k := k.2 c7
      show rx_aw 43 58 [.ref 13, .ref (rx_ct c0), .int a1, .int (hi (rx_ct c0 + 3) j1), .int z2, .int z5, .int z6] [] (rx_hp L t hi6 hl6 v6) Q
      refine rx_aw_s 2 (pc := 58) rfl ?_
      show rx_aw 43 60 [.ref 13, .ref (rx_ct c0), .int a1, .int (hi (rx_ct c0 + 3) j1), .int z2, .int z5, .int z6] [.int (1 : Int32), .ref (rx_ct c0)] (rx_hp L t hi6 hl6 v6) Q
      refine rx_w_cz hc0 (pc := 60) rfl rfl (by decide) ⟨by decide, ?_⟩
      show rx_aw 43 63 [.ref 13, .ref (rx_ct c0), .int a1, .int (hi (rx_ct c0 + 3) j1), .int z2, .int z5, .int z6] [] (rx_hp L t (rx_u hi6 (rx_ct c0) 12 (1 : Int32)) hl6 v6) Q
      refine rx_aw_s 3 (pc := 63) rfl ?_
      show rx_aw 43 67 [.ref 13, .ref (rx_ct c0), .int a1, .int (hi (rx_ct c0 + 3) j1), .int z2, .int z5, .int (hi (rx_ct c0 + 3) j1)] [.ref (rx_ct c0)] (rx_hp L t (rx_u hi6 (rx_ct c0) 12 (1 : Int32)) hl6 v6) Q
      refine rx_w_cr hc0 (pc := 67) rfl (by decide) ?_
      show rx_aw 43 70 [.ref 13, .ref (rx_ct c0), .int a1, .int (hi (rx_ct c0 + 3) j1), .int z2, .int z5, .int (hi (rx_ct c0 + 3) j1)] [.ref (rx_ct c0 + 3)] (rx_hp L t (rx_u hi6 (rx_ct c0) 12 (1 : Int32)) hl6 v6) Q
      refine rx_aw_s 4 (pc := 70) rfl ?_
      show rx_aw 43 75 [.ref 13, .ref (rx_ct c0), .int a1, .int (hi (rx_ct c0 + 3) j1), .int z2, .int z5, .int (hi (rx_ct c0 + 3) j1)] [.int (hi (rx_ct c0 + 3) j1), .int (a1 + (1 : Int32)), .ref (rx_ct c0 + 3)] (rx_hp L t (rx_u hi6 (rx_ct c0) 12 (1 : Int32)) hl6 v6) Q
      obtain ⟨j11, ej11, hj11, k⟩ := k
      refine rx_aw_iast (pc := 75) (n := 402) j11 ej11 rfl (rx_ck (rx_cart_s hc0).2.2.2.1) (Nat.lt_of_lt_of_le (rx_ct_pos _) (Nat.le_add_right _ _)) (rx_cle (rx_cart_s hc0).2.2.2.1) hj11 (by decide) ?_
      show rx_aw 43 76 [.ref 13, .ref (rx_ct c0), .int a1, .int (hi (rx_ct c0 + 3) j1), .int z2, .int z5, .int (hi (rx_ct c0 + 3) j1)] [] (rx_hp L t (rx_u (rx_u hi6 (rx_ct c0) 12 (1 : Int32)) (rx_ct c0 + 3) j11 (hi (rx_ct c0 + 3) j1)) hl6 v6) Q
      refine rx_aw_s 1 (pc := 76) rfl ?_
      show rx_aw 43 77 [.ref 13, .ref (rx_ct c0), .int a1, .int (hi (rx_ct c0 + 3) j1), .int z2, .int z5, .int (hi (rx_ct c0 + 3) j1)] [.ref (rx_ct c0)] (rx_hp L t (rx_u (rx_u hi6 (rx_ct c0) 12 (1 : Int32)) (rx_ct c0 + 3) j11 (hi (rx_ct c0 + 3) j1)) hl6 v6) Q
      refine rx_w_cr hc0 (pc := 77) rfl (by decide) ?_
      show rx_aw 43 80 [.ref 13, .ref (rx_ct c0), .int a1, .int (hi (rx_ct c0 + 3) j1), .int z2, .int z5, .int (hi (rx_ct c0 + 3) j1)] [.ref (rx_ct c0 + 4)] (rx_hp L t (rx_u (rx_u hi6 (rx_ct c0) 12 (1 : Int32)) (rx_ct c0 + 3) j11 (hi (rx_ct c0 + 3) j1)) hl6 v6) Q
      refine rx_aw_s 6 (pc := 80) rfl ?_
      show rx_aw 43 88 [.ref 13, .ref (rx_ct c0), .int a1, .int (hi (rx_ct c0 + 3) j1), .int z2, .int z5, .int (hi (rx_ct c0 + 3) j1)] [.ref (rx_ct c0), .ref 7, .int (a1 + (1 : Int32)), .ref (rx_ct c0 + 4)] (rx_hp L t (rx_u (rx_u hi6 (rx_ct c0) 12 (1 : Int32)) (rx_ct c0 + 3) j11 (hi (rx_ct c0 + 3) j1)) hl6 v6) Q
      refine rx_w_cg hc0 (pc := 88) rfl (by decide) (by decide) ?_
      show rx_aw 43 91 [.ref 13, .ref (rx_ct c0), .int a1, .int (hi (rx_ct c0 + 3) j1), .int z2, .int z5, .int (hi (rx_ct c0 + 3) j1)] [.int ((rx_u (rx_u hi6 (rx_ct c0) 12 (1 : Int32)) (rx_ct c0 + 3) j11 (hi (rx_ct c0 + 3) j1)) (rx_ct c0) 5), .ref 7, .int (a1 + (1 : Int32)), .ref (rx_ct c0 + 4)] (rx_hp L t (rx_u (rx_u hi6 (rx_ct c0) 12 (1 : Int32)) (rx_ct c0 + 3) j11 (hi (rx_ct c0 + 3) j1)) hl6 v6) Q
      refine rx_aw_s 1 (pc := 91) rfl ?_
      show rx_aw 43 93 [.ref 13, .ref (rx_ct c0), .int a1, .int (hi (rx_ct c0 + 3) j1), .int z2, .int z5, .int (hi (rx_ct c0 + 3) j1)] [.int (hi (rx_ct c0 + 3) j1), .int ((rx_u (rx_u hi6 (rx_ct c0) 12 (1 : Int32)) (rx_ct c0 + 3) j11 (hi (rx_ct c0 + 3) j1)) (rx_ct c0) 5), .ref 7, .int (a1 + (1 : Int32)), .ref (rx_ct c0 + 4)] (rx_hp L t (rx_u (rx_u hi6 (rx_ct c0) 12 (1 : Int32)) (rx_ct c0 + 3) j11 (hi (rx_ct c0 + 3) j1)) hl6 v6) Q
      refine rx_w_callL (j := 42) (pc := 93) rfl rfl rfl rfl rfl ?_
      refine rx_aw.mono k (fun r h2 k => ?_)
      obtain ⟨z12, rfl, hi12, hl12, v12, rfl, k⟩ := k
      refine ⟨z12, rfl, ?_⟩
      show rx_aw 43 96 [.ref 13, .ref (rx_ct c0), .int a1, .int (hi (rx_ct c0 + 3) j1), .int z2, .int z5, .int (hi (rx_ct c0 + 3) j1)] [.long z12, .int (a1 + (1 : Int32)), .ref (rx_ct c0 + 4)] (rx_hp L t hi12 hl12 v12) Q
      obtain ⟨j13, ej13, hj13, k⟩ := k
      refine rx_aw_last (pc := 96) (n := 402) j13 ej13 rfl (rx_ck (rx_cart_s hc0).2.2.2.2.1) (Nat.lt_of_lt_of_le (rx_ct_pos _) (Nat.le_add_right _ _)) (rx_cle (rx_cart_s hc0).2.2.2.2.1) hj13 (by decide) ?_
      show rx_aw 43 97 [.ref 13, .ref (rx_ct c0), .int a1, .int (hi (rx_ct c0 + 3) j1), .int z2, .int z5, .int (hi (rx_ct c0 + 3) j1)] [] (rx_hp L t hi12 (rx_u hl12 (rx_ct c0 + 4) j13 z12) v12) Q
      exact rx_aw_ret (pc := 97) rfl k
  · have k := k.2 c3
    show rx_aw 43 32 [.ref 13, .ref (rx_ct c0), .int a1, .int (hi (rx_ct c0 + 3) j1), .int z2, rx_no, rx_no] [] (rx_hp L t hi2 hl2 v2) Q
    refine rx_aw_s 5 (pc := 32) rfl ?_
    show rx_aw 43 40 [.ref 13, .ref (rx_ct c0), .int a1, .int (hi (rx_ct c0 + 3) j1), .int z2, .int (-1 : Int32), rx_no] [.ref (rx_ct c0), .ref 7] (rx_hp L t hi2 hl2 v2) Q
    refine rx_w_cg hc0 (pc := 40) rfl (by decide) (by decide) ?_
    show rx_aw 43 43 [.ref 13, .ref (rx_ct c0), .int a1, .int (hi (rx_ct c0 + 3) j1), .int z2, .int (-1 : Int32), rx_no] [.int (hi2 (rx_ct c0) 5), .ref 7] (rx_hp L t hi2 hl2 v2) Q
    refine rx_aw_s 3 (pc := 43) rfl ?_
    show rx_aw 43 48 [.ref 13, .ref (rx_ct c0), .int a1, .int (hi (rx_ct c0 + 3) j1), .int z2, .int (-1 : Int32), rx_no] [.int (-1 : Int32), .int z2, .int (hi (rx_ct c0 + 3) j1), .int (hi2 (rx_ct c0) 5), .ref 7] (rx_hp L t hi2 hl2 v2) Q
    refine rx_w_callI (j := 49) (pc := 48) rfl rfl rfl rfl rfl ?_
    refine rx_aw.mono k (fun r h2 k => ?_)
    obtain ⟨z14, rfl, hi14, hl14, v14, rfl, k⟩ := k
    refine ⟨z14, rfl, ?_⟩
    show rx_aw 43 51 [.ref 13, .ref (rx_ct c0), .int a1, .int (hi (rx_ct c0 + 3) j1), .int z2, .int (-1 : Int32), rx_no] [.int z14] (rx_hp L t hi14 hl14 v14) Q
    refine rx_aw_s 3 (pc := 51) rfl ?_
    refine rx_w_if (c := 0 ≤ z14) ⟨fun c15 => ?_, fun c15 => ?_⟩
    · have k := k.1 c15
      show rx_aw 43 66 [.ref 13, .ref (rx_ct c0), .int a1, .int (hi (rx_ct c0 + 3) j1), .int z2, .int (-1 : Int32), .int z14] [] (rx_hp L t hi14 hl14 v14) Q
      refine rx_aw_s 1 (pc := 66) rfl ?_
      show rx_aw 43 67 [.ref 13, .ref (rx_ct c0), .int a1, .int (hi (rx_ct c0 + 3) j1), .int z2, .int (-1 : Int32), .int z14] [.ref (rx_ct c0)] (rx_hp L t hi14 hl14 v14) Q
      refine rx_w_cr hc0 (pc := 67) rfl (by decide) ?_
      show rx_aw 43 70 [.ref 13, .ref (rx_ct c0), .int a1, .int (hi (rx_ct c0 + 3) j1), .int z2, .int (-1 : Int32), .int z14] [.ref (rx_ct c0 + 3)] (rx_hp L t hi14 hl14 v14) Q
      refine rx_aw_s 4 (pc := 70) rfl ?_
      show rx_aw 43 75 [.ref 13, .ref (rx_ct c0), .int a1, .int (hi (rx_ct c0 + 3) j1), .int z2, .int (-1 : Int32), .int z14] [.int z14, .int (a1 + (1 : Int32)), .ref (rx_ct c0 + 3)] (rx_hp L t hi14 hl14 v14) Q
      obtain ⟨j16, ej16, hj16, k⟩ := k
      refine rx_aw_iast (pc := 75) (n := 402) j16 ej16 rfl (rx_ck (rx_cart_s hc0).2.2.2.1) (Nat.lt_of_lt_of_le (rx_ct_pos _) (Nat.le_add_right _ _)) (rx_cle (rx_cart_s hc0).2.2.2.1) hj16 (by decide) ?_
      show rx_aw 43 76 [.ref 13, .ref (rx_ct c0), .int a1, .int (hi (rx_ct c0 + 3) j1), .int z2, .int (-1 : Int32), .int z14] [] (rx_hp L t (rx_u hi14 (rx_ct c0 + 3) j16 z14) hl14 v14) Q
      refine rx_aw_s 1 (pc := 76) rfl ?_
      show rx_aw 43 77 [.ref 13, .ref (rx_ct c0), .int a1, .int (hi (rx_ct c0 + 3) j1), .int z2, .int (-1 : Int32), .int z14] [.ref (rx_ct c0)] (rx_hp L t (rx_u hi14 (rx_ct c0 + 3) j16 z14) hl14 v14) Q
      refine rx_w_cr hc0 (pc := 77) rfl (by decide) ?_
      show rx_aw 43 80 [.ref 13, .ref (rx_ct c0), .int a1, .int (hi (rx_ct c0 + 3) j1), .int z2, .int (-1 : Int32), .int z14] [.ref (rx_ct c0 + 4)] (rx_hp L t (rx_u hi14 (rx_ct c0 + 3) j16 z14) hl14 v14) Q
      refine rx_aw_s 6 (pc := 80) rfl ?_
      show rx_aw 43 88 [.ref 13, .ref (rx_ct c0), .int a1, .int (hi (rx_ct c0 + 3) j1), .int z2, .int (-1 : Int32), .int z14] [.ref (rx_ct c0), .ref 7, .int (a1 + (1 : Int32)), .ref (rx_ct c0 + 4)] (rx_hp L t (rx_u hi14 (rx_ct c0 + 3) j16 z14) hl14 v14) Q
      refine rx_w_cg hc0 (pc := 88) rfl (by decide) (by decide) ?_
      show rx_aw 43 91 [.ref 13, .ref (rx_ct c0), .int a1, .int (hi (rx_ct c0 + 3) j1), .int z2, .int (-1 : Int32), .int z14] [.int ((rx_u hi14 (rx_ct c0 + 3) j16 z14) (rx_ct c0) 5), .ref 7, .int (a1 + (1 : Int32)), .ref (rx_ct c0 + 4)] (rx_hp L t (rx_u hi14 (rx_ct c0 + 3) j16 z14) hl14 v14) Q
      refine rx_aw_s 1 (pc := 91) rfl ?_
      show rx_aw 43 93 [.ref 13, .ref (rx_ct c0), .int a1, .int (hi (rx_ct c0 + 3) j1), .int z2, .int (-1 : Int32), .int z14] [.int z14, .int ((rx_u hi14 (rx_ct c0 + 3) j16 z14) (rx_ct c0) 5), .ref 7, .int (a1 + (1 : Int32)), .ref (rx_ct c0 + 4)] (rx_hp L t (rx_u hi14 (rx_ct c0 + 3) j16 z14) hl14 v14) Q
      refine rx_w_callL (j := 42) (pc := 93) rfl rfl rfl rfl rfl ?_
      refine rx_aw.mono k (fun r h2 k => ?_)
      obtain ⟨z17, rfl, hi17, hl17, v17, rfl, k⟩ := k
      refine ⟨z17, rfl, ?_⟩
      show rx_aw 43 96 [.ref 13, .ref (rx_ct c0), .int a1, .int (hi (rx_ct c0 + 3) j1), .int z2, .int (-1 : Int32), .int z14] [.long z17, .int (a1 + (1 : Int32)), .ref (rx_ct c0 + 4)] (rx_hp L t hi17 hl17 v17) Q
      obtain ⟨j18, ej18, hj18, k⟩ := k
      refine rx_aw_last (pc := 96) (n := 402) j18 ej18 rfl (rx_ck (rx_cart_s hc0).2.2.2.2.1) (Nat.lt_of_lt_of_le (rx_ct_pos _) (Nat.le_add_right _ _)) (rx_cle (rx_cart_s hc0).2.2.2.2.1) hj18 (by decide) ?_
      show rx_aw 43 97 [.ref 13, .ref (rx_ct c0), .int a1, .int (hi (rx_ct c0 + 3) j1), .int z2, .int (-1 : Int32), .int z14] [] (rx_hp L t hi17 (rx_u hl17 (rx_ct c0 + 4) j18 z17) v17) Q
      exact rx_aw_ret (pc := 97) rfl k
    · have k := k.2 c15
      show rx_aw 43 58 [.ref 13, .ref (rx_ct c0), .int a1, .int (hi (rx_ct c0 + 3) j1), .int z2, .int (-1 : Int32), .int z14] [] (rx_hp L t hi14 hl14 v14) Q
      refine rx_aw_s 2 (pc := 58) rfl ?_
      show rx_aw 43 60 [.ref 13, .ref (rx_ct c0), .int a1, .int (hi (rx_ct c0 + 3) j1), .int z2, .int (-1 : Int32), .int z14] [.int (1 : Int32), .ref (rx_ct c0)] (rx_hp L t hi14 hl14 v14) Q
      refine rx_w_cz hc0 (pc := 60) rfl rfl (by decide) ⟨by decide, ?_⟩
      show rx_aw 43 63 [.ref 13, .ref (rx_ct c0), .int a1, .int (hi (rx_ct c0 + 3) j1), .int z2, .int (-1 : Int32), .int z14] [] (rx_hp L t (rx_u hi14 (rx_ct c0) 12 (1 : Int32)) hl14 v14) Q
      refine rx_aw_s 3 (pc := 63) rfl ?_
      show rx_aw 43 67 [.ref 13, .ref (rx_ct c0), .int a1, .int (hi (rx_ct c0 + 3) j1), .int z2, .int (-1 : Int32), .int (hi (rx_ct c0 + 3) j1)] [.ref (rx_ct c0)] (rx_hp L t (rx_u hi14 (rx_ct c0) 12 (1 : Int32)) hl14 v14) Q
      refine rx_w_cr hc0 (pc := 67) rfl (by decide) ?_
      show rx_aw 43 70 [.ref 13, .ref (rx_ct c0), .int a1, .int (hi (rx_ct c0 + 3) j1), .int z2, .int (-1 : Int32), .int (hi (rx_ct c0 + 3) j1)] [.ref (rx_ct c0 + 3)] (rx_hp L t (rx_u hi14 (rx_ct c0) 12 (1 : Int32)) hl14 v14) Q
      refine rx_aw_s 4 (pc := 70) rfl ?_
      show rx_aw 43 75 [.ref 13, .ref (rx_ct c0), .int a1, .int (hi (rx_ct c0 + 3) j1), .int z2, .int (-1 : Int32), .int (hi (rx_ct c0 + 3) j1)] [.int (hi (rx_ct c0 + 3) j1), .int (a1 + (1 : Int32)), .ref (rx_ct c0 + 3)] (rx_hp L t (rx_u hi14 (rx_ct c0) 12 (1 : Int32)) hl14 v14) Q
      obtain ⟨j19, ej19, hj19, k⟩ := k
      refine rx_aw_iast (pc := 75) (n := 402) j19 ej19 rfl (rx_ck (rx_cart_s hc0).2.2.2.1) (Nat.lt_of_lt_of_le (rx_ct_pos _) (Nat.le_add_right _ _)) (rx_cle (rx_cart_s hc0).2.2.2.1) hj19 (by decide) ?_
      show rx_aw 43 76 [.ref 13, .ref (rx_ct c0), .int a1, .int (hi (rx_ct c0 + 3) j1), .int z2, .int (-1 : Int32), .int (hi (rx_ct c0 + 3) j1)] [] (rx_hp L t (rx_u (rx_u hi14 (rx_ct c0) 12 (1 : Int32)) (rx_ct c0 + 3) j19 (hi (rx_ct c0 + 3) j1)) hl14 v14) Q
      refine rx_aw_s 1 (pc := 76) rfl ?_
      show rx_aw 43 77 [.ref 13, .ref (rx_ct c0), .int a1, .int (hi (rx_ct c0 + 3) j1), .int z2, .int (-1 : Int32), .int (hi (rx_ct c0 + 3) j1)] [.ref (rx_ct c0)] (rx_hp L t (rx_u (rx_u hi14 (rx_ct c0) 12 (1 : Int32)) (rx_ct c0 + 3) j19 (hi (rx_ct c0 + 3) j1)) hl14 v14) Q
      refine rx_w_cr hc0 (pc := 77) rfl (by decide) ?_
      show rx_aw 43 80 [.ref 13, .ref (rx_ct c0), .int a1, .int (hi (rx_ct c0 + 3) j1), .int z2, .int (-1 : Int32), .int (hi (rx_ct c0 + 3) j1)] [.ref (rx_ct c0 + 4)] (rx_hp L t (rx_u (rx_u hi14 (rx_ct c0) 12 (1 : Int32)) (rx_ct c0 + 3) j19 (hi (rx_ct c0 + 3) j1)) hl14 v14) Q
      refine rx_aw_s 6 (pc := 80) rfl ?_
      show rx_aw 43 88 [.ref 13, .ref (rx_ct c0), .int a1, .int (hi (rx_ct c0 + 3) j1), .int z2, .int (-1 : Int32), .int (hi (rx_ct c0 + 3) j1)] [.ref (rx_ct c0), .ref 7, .int (a1 + (1 : Int32)), .ref (rx_ct c0 + 4)] (rx_hp L t (rx_u (rx_u hi14 (rx_ct c0) 12 (1 : Int32)) (rx_ct c0 + 3) j19 (hi (rx_ct c0 + 3) j1)) hl14 v14) Q
      refine rx_w_cg hc0 (pc := 88) rfl (by decide) (by decide) ?_
      show rx_aw 43 91 [.ref 13, .ref (rx_ct c0), .int a1, .int (hi (rx_ct c0 + 3) j1), .int z2, .int (-1 : Int32), .int (hi (rx_ct c0 + 3) j1)] [.int ((rx_u (rx_u hi14 (rx_ct c0) 12 (1 : Int32)) (rx_ct c0 + 3) j19 (hi (rx_ct c0 + 3) j1)) (rx_ct c0) 5), .ref 7, .int (a1 + (1 : Int32)), .ref (rx_ct c0 + 4)] (rx_hp L t (rx_u (rx_u hi14 (rx_ct c0) 12 (1 : Int32)) (rx_ct c0 + 3) j19 (hi (rx_ct c0 + 3) j1)) hl14 v14) Q
      refine rx_aw_s 1 (pc := 91) rfl ?_
      show rx_aw 43 93 [.ref 13, .ref (rx_ct c0), .int a1, .int (hi (rx_ct c0 + 3) j1), .int z2, .int (-1 : Int32), .int (hi (rx_ct c0 + 3) j1)] [.int (hi (rx_ct c0 + 3) j1), .int ((rx_u (rx_u hi14 (rx_ct c0) 12 (1 : Int32)) (rx_ct c0 + 3) j19 (hi (rx_ct c0 + 3) j1)) (rx_ct c0) 5), .ref 7, .int (a1 + (1 : Int32)), .ref (rx_ct c0 + 4)] (rx_hp L t (rx_u (rx_u hi14 (rx_ct c0) 12 (1 : Int32)) (rx_ct c0 + 3) j19 (hi (rx_ct c0 + 3) j1)) hl14 v14) Q
      refine rx_w_callL (j := 42) (pc := 93) rfl rfl rfl rfl rfl ?_
      refine rx_aw.mono k (fun r h2 k => ?_)
      obtain ⟨z20, rfl, hi20, hl20, v20, rfl, k⟩ := k
      refine ⟨z20, rfl, ?_⟩
      show rx_aw 43 96 [.ref 13, .ref (rx_ct c0), .int a1, .int (hi (rx_ct c0 + 3) j1), .int z2, .int (-1 : Int32), .int (hi (rx_ct c0 + 3) j1)] [.long z20, .int (a1 + (1 : Int32)), .ref (rx_ct c0 + 4)] (rx_hp L t hi20 hl20 v20) Q
      obtain ⟨j21, ej21, hj21, k⟩ := k
      refine rx_aw_last (pc := 96) (n := 402) j21 ej21 rfl (rx_ck (rx_cart_s hc0).2.2.2.2.1) (Nat.lt_of_lt_of_le (rx_ct_pos _) (Nat.le_add_right _ _)) (rx_cle (rx_cart_s hc0).2.2.2.2.1) hj21 (by decide) ?_
      show rx_aw 43 97 [.ref 13, .ref (rx_ct c0), .int a1, .int (hi (rx_ct c0 + 3) j1), .int z2, .int (-1 : Int32), .int (hi (rx_ct c0 + 3) j1)] [] (rx_hp L t hi20 (rx_u hl20 (rx_ct c0 + 4) j21 z20) v20) Q
      exact rx_aw_ret (pc := 97) rfl k
/-- CartFloor$Cart.moveFrom(I)I -/
theorem w44_moveFrom {L : Nat} {t : List (Nat × Nat)} {hi : Nat → Nat → Int32} {hl : Nat → Nat → Int64} {v : Nat → Nat → Option Nat} {Q : Option Value → rx_H → Prop} {c : Nat} (hc : c < 6) {a0 : Int32} (k : ((a0 < 0 → Q (some (.int (0 : Int32))) (rx_hp L t hi hl v)) ∧ (¬ (a0 < 0) → (((hi (rx_ct c) 7) ≤ a0 → Q (some (.int (0 : Int32))) (rx_hp L t hi hl v)) ∧ (¬ ((hi (rx_ct c) 7) ≤ a0) → (∃ j3 : Nat, a0 = nI j3 ∧ j3 < 400 ∧ Q (some (.int (hi (rx_ct c + 1) j3))) (rx_hp L t hi hl v))))))) : rx_me 44 [.ref (rx_ct c), .int a0] (rx_hp L t hi hl v) Q := by
  show rx_aw 44 0 [.ref (rx_ct c), .int a0] [] (rx_hp L t hi hl v) Q
  refine rx_aw_s 2 (pc := 0) rfl ?_
  refine rx_w_if (c := a0 < 0) ⟨fun c1 => ?_, fun c1 => ?_⟩
  · have k := k.1 c1
    show rx_aw 44 21 [.ref (rx_ct c), .int a0] [] (rx_hp L t hi hl v) Q
    refine rx_aw_s 1 (pc := 21) rfl ?_
    show rx_aw 44 22 [.ref (rx_ct c), .int a0] [.int (0 : Int32)] (rx_hp L t hi hl v) Q
    exact rx_aw_ret (pc := 22) rfl k
  · have k := k.2 c1
    show rx_aw 44 4 [.ref (rx_ct c), .int a0] [] (rx_hp L t hi hl v) Q
    refine rx_aw_s 2 (pc := 4) rfl ?_
    show rx_aw 44 6 [.ref (rx_ct c), .int a0] [.ref (rx_ct c), .int a0] (rx_hp L t hi hl v) Q
    refine rx_w_cg hc (pc := 6) rfl (by decide) (by decide) ?_
    show rx_aw 44 9 [.ref (rx_ct c), .int a0] [.int (hi (rx_ct c) 7), .int a0] (rx_hp L t hi hl v) Q
    refine rx_aw_s 1 (pc := 9) rfl ?_
    refine rx_w_if (c := (hi (rx_ct c) 7) ≤ a0) ⟨fun c2 => ?_, fun c2 => ?_⟩
    · have k := k.1 c2
      show rx_aw 44 21 [.ref (rx_ct c), .int a0] [] (rx_hp L t hi hl v) Q
      refine rx_aw_s 1 (pc := 21) rfl ?_
      show rx_aw 44 22 [.ref (rx_ct c), .int a0] [.int (0 : Int32)] (rx_hp L t hi hl v) Q
      exact rx_aw_ret (pc := 22) rfl k
    · have k := k.2 c2
      show rx_aw 44 12 [.ref (rx_ct c), .int a0] [] (rx_hp L t hi hl v) Q
      refine rx_aw_s 1 (pc := 12) rfl ?_
      show rx_aw 44 13 [.ref (rx_ct c), .int a0] [.ref (rx_ct c)] (rx_hp L t hi hl v) Q
      refine rx_w_cr hc (pc := 13) rfl (by decide) ?_
      show rx_aw 44 16 [.ref (rx_ct c), .int a0] [.ref (rx_ct c + 1)] (rx_hp L t hi hl v) Q
      refine rx_aw_s 1 (pc := 16) rfl ?_
      show rx_aw 44 17 [.ref (rx_ct c), .int a0] [.int a0, .ref (rx_ct c + 1)] (rx_hp L t hi hl v) Q
      obtain ⟨j3, ej3, hj3, k⟩ := k
      refine rx_aw_bald (pc := 17) (n := 400) j3 ej3 rfl (Or.inl (rx_ck (rx_cart_s hc).2.1)) (Nat.lt_of_lt_of_le (rx_ct_pos _) (Nat.le_add_right _ _)) (rx_cle (rx_cart_s hc).2.1) hj3 (by decide) ?_
      show rx_aw 44 18 [.ref (rx_ct c), .int a0] [.int (hi (rx_ct c + 1) j3)] (rx_hp L t hi hl v) Q
      refine rx_aw_s 1 (pc := 18) rfl ?_
      show rx_aw 44 22 [.ref (rx_ct c), .int a0] [.int (hi (rx_ct c + 1) j3)] (rx_hp L t hi hl v) Q
      exact rx_aw_ret (pc := 22) rfl k
/-- CartFloor$Traffic.lyingOn(II)I -/
theorem w45_lyingOn {L : Nat} {t : List (Nat × Nat)} {hi : Nat → Nat → Int32} {hl : Nat → Nat → Int64} {v : Nat → Nat → Option Nat} {Q : Option Value → rx_H → Prop} {a0 : Int32} {a1 : Int32} (k : rx_aw 45 2 [.ref 13, .int a0, .int a1, .int (0 : Int32)] [] (rx_hp L t hi hl v) Q) : rx_me 45 [.ref 13, .int a0, .int a1] (rx_hp L t hi hl v) Q := by
  show rx_aw 45 0 [.ref 13, .int a0, .int a1, rx_no] [] (rx_hp L t hi hl v) Q
  refine rx_aw_s 2 (pc := 0) rfl ?_
  show rx_aw 45 2 [.ref 13, .int a0, .int a1, .int (0 : Int32)] [] (rx_hp L t hi hl v) Q
  exact k
theorem w45_lyingOn_2 {L : Nat} {t : List (Nat × Nat)} {hi : Nat → Nat → Int32} {hl : Nat → Nat → Int64} {v : Nat → Nat → Option Nat} {Q : Option Value → rx_H → Prop} {x1 : Int32} {x2 : Int32} {x3 : Int32} (k : (((hi 13 4) ≤ x3 → Q (some (.int (-1 : Int32))) (rx_hp L t hi hl v)) ∧ (¬ ((hi 13 4) ≤ x3) → rx_me 46 [.ref 13, .int x3, .int x1, .int x2] (rx_hp L t hi hl v) (fun r h2 => ∃ z2 : Int32, r = some (.int z2) ∧ rx_ok2 L t h2 (fun hi2 hl2 v2 => ((z2 = 0 → rx_aw 45 2 [.ref 13, .int x1, .int x2, .int (x3 + (1 : Int32))] [] (rx_hp L t hi2 hl2 v2) Q) ∧ (¬ (z2 = 0) → Q (some (.int x3)) (rx_hp L t hi2 hl2 v2)))))))) : rx_aw 45 2 [.ref 13, .int x1, .int x2, .int x3] [] (rx_hp L t hi hl v) Q := by
  refine rx_aw_s 4 (pc := 2) rfl ?_
  refine rx_w_if (c := (hi 13 4) ≤ x3) ⟨fun c1 => ?_, fun c1 => ?_⟩
  · have k := k.1 c1
    show rx_aw 45 28 [.ref 13, .int x1, .int x2, .int x3] [] (rx_hp L t hi hl v) Q
    refine rx_aw_s 1 (pc := 28) rfl ?_
    show rx_aw 45 29 [.ref 13, .int x1, .int x2, .int x3] [.int (-1 : Int32)] (rx_hp L t hi hl v) Q
    exact rx_aw_ret (pc := 29) rfl k
  · have k := k.2 c1
    show rx_aw 45 10 [.ref 13, .int x1, .int x2, .int x3] [] (rx_hp L t hi hl v) Q
    refine rx_aw_s 4 (pc := 10) rfl ?_
    show rx_aw 45 14 [.ref 13, .int x1, .int x2, .int x3] [.int x2, .int x1, .int x3, .ref 13] (rx_hp L t hi hl v) Q
    refine rx_w_callI (j := 46) (pc := 14) rfl rfl rfl rfl rfl ?_
    refine rx_aw.mono k (fun r h2 k => ?_)
    obtain ⟨z2, rfl, hi2, hl2, v2, rfl, k⟩ := k
    refine ⟨z2, rfl, ?_⟩
    show rx_aw 45 17 [.ref 13, .int x1, .int x2, .int x3] [.int z2] (rx_hp L t hi2 hl2 v2) Q
    refine rx_aw_s 1 (pc := 17) rfl ?_
    refine rx_w_if (c := z2 = 0) ⟨fun c3 => ?_, fun c3 => ?_⟩
    · have k := k.1 c3
      show rx_aw 45 22 [.ref 13, .int x1, .int x2, .int x3] [] (rx_hp L t hi2 hl2 v2) Q
      refine rx_aw_s 2 (pc := 22) rfl ?_
      show rx_aw 45 2 [.ref 13, .int x1, .int x2, .int (x3 + (1 : Int32))] [] (rx_hp L t hi2 hl2 v2) Q
      exact k
    · have k := k.2 c3
      show rx_aw 45 20 [.ref 13, .int x1, .int x2, .int x3] [] (rx_hp L t hi2 hl2 v2) Q
      refine rx_aw_s 1 (pc := 20) rfl ?_
      show rx_aw 45 21 [.ref 13, .int x1, .int x2, .int x3] [.int x3] (rx_hp L t hi2 hl2 v2) Q
      exact rx_aw_ret (pc := 21) rfl k
/-- CartFloor$Traffic.liesOn(III)Z -/
theorem w46_liesOn {L : Nat} {t : List (Nat × Nat)} {hi : Nat → Nat → Int32} {hl : Nat → Nat → Int64} {v : Nat → Nat → Option Nat} {Q : Option Value → rx_H → Prop} {a0 : Int32} {a1 : Int32} {a2 : Int32} (k : rx_me 38 [.ref 13, .int a0, .int a2] (rx_hp L t hi hl v) (fun r h2 => ∃ z1 : Int32, r = some (.int z1) ∧ rx_ok2 L t h2 (fun hi1 hl1 v1 => ((z1 = a1 → rx_aw 46 15 [.ref 13, .int a0, .int a1, .int a2, .int (0 : Int32)] [] (rx_hp L t hi1 hl1 v1) Q) ∧ (¬ (z1 = a1) → Q (some (.int (0 : Int32))) (rx_hp L t hi1 hl1 v1)))))) : rx_me 46 [.ref 13, .int a0, .int a1, .int a2] (rx_hp L t hi hl v) Q := by
  show rx_aw 46 0 [.ref 13, .int a0, .int a1, .int a2, rx_no] [] (rx_hp L t hi hl v) Q
  refine rx_aw_s 3 (pc := 0) rfl ?_
  show rx_aw 46 3 [.ref 13, .int a0, .int a1, .int a2, rx_no] [.int a2, .int a0, .ref 13] (rx_hp L t hi hl v) Q
  refine rx_w_callI (j := 38) (pc := 3) rfl rfl rfl rfl rfl ?_
  refine rx_aw.mono k (fun r h2 k => ?_)
  obtain ⟨z1, rfl, hi1, hl1, v1, rfl, k⟩ := k
  refine ⟨z1, rfl, ?_⟩
  show rx_aw 46 6 [.ref 13, .int a0, .int a1, .int a2, rx_no] [.int z1] (rx_hp L t hi1 hl1 v1) Q
  refine rx_aw_s 2 (pc := 6) rfl ?_
  refine rx_w_if (c := z1 = a1) ⟨fun c2 => ?_, fun c2 => ?_⟩
  · have k := k.1 c2
    show rx_aw 46 12 [.ref 13, .int a0, .int a1, .int a2, rx_no] [] (rx_hp L t hi1 hl1 v1) Q
    refine rx_aw_s 2 (pc := 12) rfl ?_
    show rx_aw 46 15 [.ref 13, .int a0, .int a1, .int a2, .int (0 : Int32)] [] (rx_hp L t hi1 hl1 v1) Q
    exact k
  · have k := k.2 c2
    show rx_aw 46 10 [.ref 13, .int a0, .int a1, .int a2, rx_no] [] (rx_hp L t hi1 hl1 v1) Q
    refine rx_aw_s 1 (pc := 10) rfl ?_
    show rx_aw 46 11 [.ref 13, .int a0, .int a1, .int a2, rx_no] [.int (0 : Int32)] (rx_hp L t hi1 hl1 v1) Q
    exact rx_aw_ret (pc := 11) rfl k
theorem w46_liesOn_15 {L : Nat} {t : List (Nat × Nat)} {hi : Nat → Nat → Int32} {hl : Nat → Nat → Int64} {v : Nat → Nat → Option Nat} {Q : Option Value → rx_H → Prop} {x1 : Int32} {x2 : Int32} {x3 : Int32} {x4 : Int32} (k : (((hi 13 3) ≤ x4 → Q (some (.int (1 : Int32))) (rx_hp L t hi hl v)) ∧ (¬ ((hi 13 3) ≤ x4) → rx_me 47 [.ref 13, .int x4, .int x3] (rx_hp L t hi hl v) (fun r h2 => ∃ z4 : Int32, r = some (.int z4) ∧ rx_ok2 L t h2 (fun hi4 hl4 v4 => rx_me 48 [.int z4] (rx_hp L t hi4 hl4 v4) (fun r h2 => ∃ z5 : Int32, r = some (.int z5) ∧ rx_ok2 L t h2 (fun hi5 hl5 v5 => ((z5 = x1 → Q (some (.int (0 : Int32))) (rx_hp L t hi5 hl5 v5)) ∧ (¬ (z5 = x1) → rx_aw 46 15 [.ref 13, .int x1, .int x2, .int x3, .int (x4 + (1 : Int32))] [] (rx_hp L t hi5 hl5 v5) Q))))))))) : rx_aw 46 15 [.ref 13, .int x1, .int x2, .int x3, .int x4] [] (rx_hp L t hi hl v) Q := by
  refine rx_aw_s 4 (pc := 15) rfl ?_
  refine rx_w_if (c := (hi 13 3) ≤ x4) ⟨fun c3 => ?_, fun c3 => ?_⟩
  · have k := k.1 c3
    show rx_aw 46 46 [.ref 13, .int x1, .int x2, .int x3, .int x4] [] (rx_hp L t hi hl v) Q
    refine rx_aw_s 1 (pc := 46) rfl ?_
    show rx_aw 46 47 [.ref 13, .int x1, .int x2, .int x3, .int x4] [.int (1 : Int32)] (rx_hp L t hi hl v) Q
    exact rx_aw_ret (pc := 47) rfl k
  · have k := k.2 c3
    show rx_aw 46 24 [.ref 13, .int x1, .int x2, .int x3, .int x4] [] (rx_hp L t hi hl v) Q
    refine rx_aw_s 3 (pc := 24) rfl ?_
    show rx_aw 46 28 [.ref 13, .int x1, .int x2, .int x3, .int x4] [.int x3, .int x4, .ref 13] (rx_hp L t hi hl v) Q
    refine rx_w_callI (j := 47) (pc := 28) rfl rfl rfl rfl rfl ?_
    refine rx_aw.mono k (fun r h2 k => ?_)
    obtain ⟨z4, rfl, hi4, hl4, v4, rfl, k⟩ := k
    refine ⟨z4, rfl, ?_⟩
    show rx_aw 46 31 [.ref 13, .int x1, .int x2, .int x3, .int x4] [.int z4] (rx_hp L t hi4 hl4 v4) Q
    refine rx_w_callI (j := 48) (pc := 31) rfl rfl rfl rfl rfl ?_
    refine rx_aw.mono k (fun r h2 k => ?_)
    obtain ⟨z5, rfl, hi5, hl5, v5, rfl, k⟩ := k
    refine ⟨z5, rfl, ?_⟩
    show rx_aw 46 34 [.ref 13, .int x1, .int x2, .int x3, .int x4] [.int z5] (rx_hp L t hi5 hl5 v5) Q
    refine rx_aw_s 2 (pc := 34) rfl ?_
    refine rx_w_ifn (c := z5 = x1) ⟨fun c6 => ?_, fun c6 => ?_⟩
    · have k := k.1 c6
      show rx_aw 46 38 [.ref 13, .int x1, .int x2, .int x3, .int x4] [] (rx_hp L t hi5 hl5 v5) Q
      refine rx_aw_s 1 (pc := 38) rfl ?_
      show rx_aw 46 39 [.ref 13, .int x1, .int x2, .int x3, .int x4] [.int (0 : Int32)] (rx_hp L t hi5 hl5 v5) Q
      exact rx_aw_ret (pc := 39) rfl k
    · have k := k.2 c6
      show rx_aw 46 40 [.ref 13, .int x1, .int x2, .int x3, .int x4] [] (rx_hp L t hi5 hl5 v5) Q
      refine rx_aw_s 2 (pc := 40) rfl ?_
      show rx_aw 46 15 [.ref 13, .int x1, .int x2, .int x3, .int (x4 + (1 : Int32))] [] (rx_hp L t hi5 hl5 v5) Q
      exact k
/-- CartFloor$Traffic.stanceAt(II)I -/
theorem w47_stanceAt {L : Nat} {t : List (Nat × Nat)} {hi : Nat → Nat → Int32} {hl : Nat → Nat → Int64} {v : Nat → Nat → Option Nat} {Q : Option Value → rx_H → Prop} {a0 : Int32} {a1 : Int32} (k : (∃ j1 : Nat, a0 = nI j1 ∧ j1 < 6 ∧ (∃ j2 : Nat, (if (hi 13 5) < a1 then (hi 13 5) else a1) = nI j2 ∧ j2 < 402 ∧ Q (some (.int (hi (rx_ct j1 + 3) j2))) (rx_hp L t hi hl v)))) : rx_me 47 [.ref 13, .int a0, .int a1] (rx_hp L t hi hl v) Q := by
  show rx_aw 47 0 [.ref 13, .int a0, .int a1] [] (rx_hp L t hi hl v) Q
  refine rx_aw_s 3 (pc := 0) rfl ?_
  show rx_aw 47 5 [.ref 13, .int a0, .int a1] [.int a0, .ref 14] (rx_hp L t hi hl v) Q
  obtain ⟨j1, ej1, hj1, k⟩ := k
  refine rx_w_carts (pc := 5) rfl ⟨j1, ej1, hj1, ?_⟩
  show rx_aw 47 6 [.ref 13, .int a0, .int a1] [.ref (rx_ct j1)] (rx_hp L t hi hl v) Q
  refine rx_w_cr hj1 (pc := 6) rfl (by decide) ?_
  show rx_aw 47 9 [.ref 13, .int a0, .int a1] [.ref (rx_ct j1 + 3)] (rx_hp L t hi hl v) Q
  refine rx_aw_s 4 (pc := 9) rfl ?_
  show rx_aw 47 17 [.ref 13, .int a0, .int a1] [.int (if (hi 13 5) < a1 then (hi 13 5) else a1), .ref (rx_ct j1 + 3)] (rx_hp L t hi hl v) Q
  obtain ⟨j2, ej2, hj2, k⟩ := k
  refine rx_aw_iald (pc := 17) (n := 402) j2 ej2 rfl (rx_ck (rx_cart_s hj1).2.2.2.1) (rx_cle (rx_cart_s hj1).2.2.2.1) hj2 (by decide) ?_
  show rx_aw 47 18 [.ref 13, .int a0, .int a1] [.int (hi (rx_ct j1 + 3) j2)] (rx_hp L t hi hl v) Q
  exact rx_aw_ret (pc := 18) rfl k
/-- CartFloor.loadOf(I)I -/
theorem w48_loadOf {L : Nat} {t : List (Nat × Nat)} {hi : Nat → Nat → Int32} {hl : Nat → Nat → Int64} {v : Nat → Nat → Option Nat} {Q : Option Value → rx_H → Prop} {a0 : Int32} (k : Q (some (.int ((a0 >>> ((8 : Int32) &&& 31)) - (1 : Int32)))) (rx_hp L t hi hl v)) : rx_me 48 [.int a0] (rx_hp L t hi hl v) Q := by
  show rx_aw 48 0 [.int a0] [] (rx_hp L t hi hl v) Q
  refine rx_aw_s 5 (pc := 0) rfl ?_
  show rx_aw 48 6 [.int a0] [.int ((a0 >>> ((8 : Int32) &&& 31)) - (1 : Int32))] (rx_hp L t hi hl v) Q
  exact rx_aw_ret (pc := 6) rfl k
/-- CartFloor$Floor.after(IIII)I -/
theorem w49_after {L : Nat} {t : List (Nat × Nat)} {hi : Nat → Nat → Int32} {hl : Nat → Nat → Int64} {v : Nat → Nat → Option Nat} {Q : Option Value → rx_H → Prop} {a0 : Int32} {a1 : Int32} {a2 : Int32} {a3 : Int32} (k : (((4 : Int32) < a2 → ((a0 = (1 : Int32) → rx_me 48 [.int a1] (rx_hp L t hi hl v) (fun r h2 => ∃ z3 : Int32, r = some (.int z3) ∧ rx_ok2 L t h2 (fun hi3 hl3 v3 => ((a2 = (5 : Int32) → ((0 ≤ z3 → Q (some (.int (-1 : Int32))) (rx_hp L t hi3 hl3 v3)) ∧ (¬ (0 ≤ z3) → ((a3 < 0 → Q (some (.int (-1 : Int32))) (rx_hp L t hi3 hl3 v3)) ∧ (¬ (a3 < 0) → rx_me 50 [.int a1, .int a3] (rx_hp L t hi3 hl3 v3) (fun r h2 => ∃ z7 : Int32, r = some (.int z7) ∧ rx_ok2 L t h2 (fun hi7 hl7 v7 => Q (some (.int z7)) (rx_hp L t hi7 hl7 v7)))))))) ∧ (¬ (a2 = (5 : Int32)) → rx_me 8 [.int a1] (rx_hp L t hi3 hl3 v3) (fun r h2 => ∃ z8 : Int32, r = some (.int z8) ∧ rx_ok2 L t h2 (fun hi8 hl8 v8 => (∃ j9 : Nat, z8 = nI j9 ∧ j9 < 64 ∧ (((hi8 8 j9) = (2 : Int32) → ((z3 < 0 → Q (some (.int (-1 : Int32))) (rx_hp L t hi8 hl8 v8)) ∧ (¬ (z3 < 0) → rx_me 50 [.int a1, .int (-1 : Int32)] (rx_hp L t hi8 hl8 v8) (fun r h2 => ∃ z12 : Int32, r = some (.int z12) ∧ rx_ok2 L t h2 (fun hi12 hl12 v12 => Q (some (.int z12)) (rx_hp L t hi12 hl12 v12)))))) ∧ (¬ ((hi8 8 j9) = (2 : Int32)) → ((z3 < 0 → Q (some (.int (-1 : Int32))) (rx_hp L t hi8 hl8 v8)) ∧ (¬ (z3 < 0) → Q (some (.int (-1 : Int32))) (rx_hp L t hi8 hl8 v8))))))))))))) ∧ (¬ (a0 = (1 : Int32)) → Q (some (.int (-1 : Int32))) (rx_hp L t hi hl v)))) ∧ (¬ ((4 : Int32) < a2) → ((a0 < (2 : Int32) → (∃ j15 : Nat, (((0 : Int32) + (a2 * (256 : Int32))) + (a1 &&& (255 : Int32))) = nI j15 ∧ j15 < 2560 ∧ ((0 ≤ (hi 10 j15) → Q (some (.int ((a1 &&& (-256 : Int32)) ||| (hi 10 j15)))) (rx_hp L t hi hl v)) ∧ (¬ (0 ≤ (hi 10 j15)) → Q (some (.int (-1 : Int32))) (rx_hp L t hi hl v))))) ∧ (¬ (a0 < (2 : Int32)) → (∃ j17 : Nat, (((1280 : Int32) + (a2 * (256 : Int32))) + (a1 &&& (255 : Int32))) = nI j17 ∧ j17 < 2560 ∧ ((0 ≤ (hi 10 j17) → Q (some (.int ((a1 &&& (-256 : Int32)) ||| (hi 10 j17)))) (rx_hp L t hi hl v)) ∧ (¬ (0 ≤ (hi 10 j17)) → Q (some (.int (-1 : Int32))) (rx_hp L t hi hl v))))))))) : rx_me 49 [.ref 7, .int a0, .int a1, .int a2, .int a3] (rx_hp L t hi hl v) Q := by
  show rx_aw 49 0 [.ref 7, .int a0, .int a1, .int a2, .int a3, rx_no, rx_no] [] (rx_hp L t hi hl v) Q
  refine rx_aw_s 3 (pc := 0) rfl ?_
  refine rx_w_if (c := (4 : Int32) < a2) ⟨fun c1 => ?_, fun c1 => ?_⟩
  · have k := k.1 c1
    show rx_aw 49 54 [.ref 7, .int a0, .int a1, .int a2, .int a3, rx_no, rx_no] [] (rx_hp L t hi hl v) Q
    refine rx_aw_s 3 (pc := 54) rfl ?_
    refine rx_w_if (c := a0 = (1 : Int32)) ⟨fun c2 => ?_, fun c2 => ?_⟩
    · have k := k.1 c2
      show rx_aw 49 61 [.ref 7, .int a0, .int a1, .int a2, .int a3, rx_no, rx_no] [] (rx_hp L t hi hl v) Q
      refine rx_aw_s 1 (pc := 61) rfl ?_
      show rx_aw 49 62 [.ref 7, .int a0, .int a1, .int a2, .int a3, rx_no, rx_no] [.int a1] (rx_hp L t hi hl v) Q
      refine rx_w_callI (j := 48) (pc := 62) rfl rfl rfl rfl rfl ?_
      refine rx_aw.mono k (fun r h2 k => ?_)
      obtain ⟨z3, rfl, hi3, hl3, v3, rfl, k⟩ := k
      refine ⟨z3, rfl, ?_⟩
      show rx_aw 49 65 [.ref 7, .int a0, .int a1, .int a2, .int a3, rx_no, rx_no] [.int z3] (rx_hp L t hi3 hl3 v3) Q
      refine rx_aw_s 4 (pc := 65) rfl ?_
      refine rx_w_ifn (c := a2 = (5 : Int32)) ⟨fun c4 => ?_, fun c4 => ?_⟩
      · have k := k.1 c4
        show rx_aw 49 72 [.ref 7, .int a0, .int a1, .int a2, .int a3, .int z3, rx_no] [] (rx_hp L t hi3 hl3 v3) Q
        refine rx_aw_s 2 (pc := 72) rfl ?_
        refine rx_w_if (c := 0 ≤ z3) ⟨fun c5 => ?_, fun c5 => ?_⟩
        · have k := k.1 c5
          show rx_aw 49 91 [.ref 7, .int a0, .int a1, .int a2, .int a3, .int z3, rx_no] [] (rx_hp L t hi3 hl3 v3) Q
          refine rx_aw_s 1 (pc := 91) rfl ?_
          show rx_aw 49 92 [.ref 7, .int a0, .int a1, .int a2, .int a3, .int z3, rx_no] [.int (-1 : Int32)] (rx_hp L t hi3 hl3 v3) Q
          exact rx_aw_ret (pc := 92) rfl k
        · have k := k.2 c5
          show rx_aw 49 77 [.ref 7, .int a0, .int a1, .int a2, .int a3, .int z3, rx_no] [] (rx_hp L t hi3 hl3 v3) Q
          refine rx_aw_s 2 (pc := 77) rfl ?_
          refine rx_w_if (c := a3 < 0) ⟨fun c6 => ?_, fun c6 => ?_⟩
          · have k := k.1 c6
            show rx_aw 49 91 [.ref 7, .int a0, .int a1, .int a2, .int a3, .int z3, rx_no] [] (rx_hp L t hi3 hl3 v3) Q
            refine rx_aw_s 1 (pc := 91) rfl ?_
            show rx_aw 49 92 [.ref 7, .int a0, .int a1, .int a2, .int a3, .int z3, rx_no] [.int (-1 : Int32)] (rx_hp L t hi3 hl3 v3) Q
            exact rx_aw_ret (pc := 92) rfl k
          · have k := k.2 c6
            show rx_aw 49 82 [.ref 7, .int a0, .int a1, .int a2, .int a3, .int z3, rx_no] [] (rx_hp L t hi3 hl3 v3) Q
            refine rx_aw_s 2 (pc := 82) rfl ?_
            show rx_aw 49 85 [.ref 7, .int a0, .int a1, .int a2, .int a3, .int z3, rx_no] [.int a3, .int a1] (rx_hp L t hi3 hl3 v3) Q
            refine rx_w_callI (j := 50) (pc := 85) rfl rfl rfl rfl rfl ?_
            refine rx_aw.mono k (fun r h2 k => ?_)
            obtain ⟨z7, rfl, hi7, hl7, v7, rfl, k⟩ := k
            refine ⟨z7, rfl, ?_⟩
            show rx_aw 49 88 [.ref 7, .int a0, .int a1, .int a2, .int a3, .int z3, rx_no] [.int z7] (rx_hp L t hi7 hl7 v7) Q
            refine rx_aw_s 1 (pc := 88) rfl ?_
            show rx_aw 49 92 [.ref 7, .int a0, .int a1, .int a2, .int a3, .int z3, rx_no] [.int z7] (rx_hp L t hi7 hl7 v7) Q
            exact rx_aw_ret (pc := 92) rfl k
      · have k := k.2 c4
        show rx_aw 49 93 [.ref 7, .int a0, .int a1, .int a2, .int a3, .int z3, rx_no] [] (rx_hp L t hi3 hl3 v3) Q
        refine rx_aw_s 3 (pc := 93) rfl ?_
        show rx_aw 49 98 [.ref 7, .int a0, .int a1, .int a2, .int a3, .int z3, rx_no] [.int a1, .ref 8] (rx_hp L t hi3 hl3 v3) Q
        refine rx_w_callI (j := 8) (pc := 98) rfl rfl rfl rfl rfl ?_
        refine rx_aw.mono k (fun r h2 k => ?_)
        obtain ⟨z8, rfl, hi8, hl8, v8, rfl, k⟩ := k
        refine ⟨z8, rfl, ?_⟩
        show rx_aw 49 101 [.ref 7, .int a0, .int a1, .int a2, .int a3, .int z3, rx_no] [.int z8, .ref 8] (rx_hp L t hi8 hl8 v8) Q
        obtain ⟨j9, ej9, hj9, k⟩ := k
        refine rx_aw_iald (pc := 101) (n := 64) j9 ej9 rfl rfl rfl hj9 (by decide) ?_
        show rx_aw 49 102 [.ref 7, .int a0, .int a1, .int a2, .int a3, .int z3, rx_no] [.int (hi8 8 j9)] (rx_hp L t hi8 hl8 v8) Q
        refine rx_aw_s 2 (pc := 102) rfl ?_
        refine rx_w_ifn (c := (hi8 8 j9) = (2 : Int32)) ⟨fun c10 => ?_, fun c10 => ?_⟩
        · have k := k.1 c10
          show rx_aw 49 106 [.ref 7, .int a0, .int a1, .int a2, .int a3, .int z3, rx_no] [] (rx_hp L t hi8 hl8 v8) Q
          refine rx_aw_s 5 (pc := 106) rfl ?_
          refine rx_w_if (c := z3 < 0) ⟨fun c11 => ?_, fun c11 => ?_⟩
          · have k := k.1 c11
            show rx_aw 49 131 [.ref 7, .int a0, .int a1, .int a2, .int a3, .int z3, .int (1 : Int32)] [] (rx_hp L t hi8 hl8 v8) Q
            refine rx_aw_s 1 (pc := 131) rfl ?_
            show rx_aw 49 132 [.ref 7, .int a0, .int a1, .int a2, .int a3, .int z3, .int (1 : Int32)] [.int (-1 : Int32)] (rx_hp L t hi8 hl8 v8) Q
            exact rx_aw_ret (pc := 132) rfl k
          · have k := k.2 c11
            show rx_aw 49 118 [.ref 7, .int a0, .int a1, .int a2, .int a3, .int z3, .int (1 : Int32)] [] (rx_hp L t hi8 hl8 v8) Q
            refine rx_aw_s 4 (pc := 118) rfl ?_
            show rx_aw 49 125 [.ref 7, .int a0, .int a1, .int a2, .int a3, .int z3, .int (1 : Int32)] [.int (-1 : Int32), .int a1] (rx_hp L t hi8 hl8 v8) Q
            refine rx_w_callI (j := 50) (pc := 125) rfl rfl rfl rfl rfl ?_
            refine rx_aw.mono k (fun r h2 k => ?_)
            obtain ⟨z12, rfl, hi12, hl12, v12, rfl, k⟩ := k
            refine ⟨z12, rfl, ?_⟩
            show rx_aw 49 128 [.ref 7, .int a0, .int a1, .int a2, .int a3, .int z3, .int (1 : Int32)] [.int z12] (rx_hp L t hi12 hl12 v12) Q
            refine rx_aw_s 1 (pc := 128) rfl ?_
            show rx_aw 49 132 [.ref 7, .int a0, .int a1, .int a2, .int a3, .int z3, .int (1 : Int32)] [.int z12] (rx_hp L t hi12 hl12 v12) Q
            exact rx_aw_ret (pc := 132) rfl k
        · have k := k.2 c10
          show rx_aw 49 110 [.ref 7, .int a0, .int a1, .int a2, .int a3, .int z3, rx_no] [] (rx_hp L t hi8 hl8 v8) Q
          refine rx_aw_s 4 (pc := 110) rfl ?_
          refine rx_w_if (c := z3 < 0) ⟨fun c13 => ?_, fun c13 => ?_⟩
          · have k := k.1 c13
            show rx_aw 49 131 [.ref 7, .int a0, .int a1, .int a2, .int a3, .int z3, .int (0 : Int32)] [] (rx_hp L t hi8 hl8 v8) Q
            refine rx_aw_s 1 (pc := 131) rfl ?_
            show rx_aw 49 132 [.ref 7, .int a0, .int a1, .int a2, .int a3, .int z3, .int (0 : Int32)] [.int (-1 : Int32)] (rx_hp L t hi8 hl8 v8) Q
            exact rx_aw_ret (pc := 132) rfl k
          · have k := k.2 c13
            show rx_aw 49 118 [.ref 7, .int a0, .int a1, .int a2, .int a3, .int z3, .int (0 : Int32)] [] (rx_hp L t hi8 hl8 v8) Q
            refine rx_aw_s 3 (pc := 118) rfl ?_
            show rx_aw 49 132 [.ref 7, .int a0, .int a1, .int a2, .int a3, .int z3, .int (0 : Int32)] [.int (-1 : Int32)] (rx_hp L t hi8 hl8 v8) Q
            exact rx_aw_ret (pc := 132) rfl k
    · have k := k.2 c2
      show rx_aw 49 59 [.ref 7, .int a0, .int a1, .int a2, .int a3, rx_no, rx_no] [] (rx_hp L t hi hl v) Q
      refine rx_aw_s 1 (pc := 59) rfl ?_
      show rx_aw 49 60 [.ref 7, .int a0, .int a1, .int a2, .int a3, rx_no, rx_no] [.int (-1 : Int32)] (rx_hp L t hi hl v) Q
      exact rx_aw_ret (pc := 60) rfl k
  · have k := k.2 c1
    show rx_aw 49 5 [.ref 7, .int a0, .int a1, .int a2, .int a3, rx_no, rx_no] [] (rx_hp L t hi hl v) Q
    refine rx_aw_s 5 (pc := 5) rfl ?_
    refine rx_w_if (c := a0 < (2 : Int32)) ⟨fun c14 => ?_, fun c14 => ?_⟩
    · have k := k.1 c14
      show rx_aw 49 20 [.ref 7, .int a0, .int a1, .int a2, .int a3, rx_no, rx_no] [.ref 10] (rx_hp L t hi hl v) Q
      refine rx_aw_s 9 (pc := 20) rfl ?_
      show rx_aw 49 33 [.ref 7, .int a0, .int a1, .int a2, .int a3, rx_no, rx_no] [.int (((0 : Int32) + (a2 * (256 : Int32))) + (a1 &&& (255 : Int32))), .ref 10] (rx_hp L t hi hl v) Q
      obtain ⟨j15, ej15, hj15, k⟩ := k
      refine rx_aw_iald (pc := 33) (n := 2560) j15 ej15 rfl rfl rfl hj15 (by decide) ?_
      show rx_aw 49 34 [.ref 7, .int a0, .int a1, .int a2, .int a3, rx_no, rx_no] [.int (hi 10 j15)] (rx_hp L t hi hl v) Q
      refine rx_aw_s 3 (pc := 34) rfl ?_
      refine rx_w_if (c := 0 ≤ (hi 10 j15)) ⟨fun c16 => ?_, fun c16 => ?_⟩
      · have k := k.1 c16
        show rx_aw 49 45 [.ref 7, .int a0, .int a1, .int a2, .int a3, .int (hi 10 j15), rx_no] [] (rx_hp L t hi hl v) Q
        refine rx_aw_s 5 (pc := 45) rfl ?_
        show rx_aw 49 53 [.ref 7, .int a0, .int a1, .int a2, .int a3, .int (hi 10 j15), rx_no] [.int ((a1 &&& (-256 : Int32)) ||| (hi 10 j15))] (rx_hp L t hi hl v) Q
        exact rx_aw_ret (pc := 53) rfl k
      · have k := k.2 c16
        show rx_aw 49 41 [.ref 7, .int a0, .int a1, .int a2, .int a3, .int (hi 10 j15), rx_no] [] (rx_hp L t hi hl v) Q
        refine rx_aw_s 2 (pc := 41) rfl ?_
        show rx_aw 49 53 [.ref 7, .int a0, .int a1, .int a2, .int a3, .int (hi 10 j15), rx_no] [.int (-1 : Int32)] (rx_hp L t hi hl v) Q
        exact rx_aw_ret (pc := 53) rfl k
    · have k := k.2 c14
      show rx_aw 49 14 [.ref 7, .int a0, .int a1, .int a2, .int a3, rx_no, rx_no] [.ref 10] (rx_hp L t hi hl v) Q
      refine rx_aw_s 10 (pc := 14) rfl ?_
      show rx_aw 49 33 [.ref 7, .int a0, .int a1, .int a2, .int a3, rx_no, rx_no] [.int (((1280 : Int32) + (a2 * (256 : Int32))) + (a1 &&& (255 : Int32))), .ref 10] (rx_hp L t hi hl v) Q
      obtain ⟨j17, ej17, hj17, k⟩ := k
      refine rx_aw_iald (pc := 33) (n := 2560) j17 ej17 rfl rfl rfl hj17 (by decide) ?_
      show rx_aw 49 34 [.ref 7, .int a0, .int a1, .int a2, .int a3, rx_no, rx_no] [.int (hi 10 j17)] (rx_hp L t hi hl v) Q
      refine rx_aw_s 3 (pc := 34) rfl ?_
      refine rx_w_if (c := 0 ≤ (hi 10 j17)) ⟨fun c18 => ?_, fun c18 => ?_⟩
      · have k := k.1 c18
        show rx_aw 49 45 [.ref 7, .int a0, .int a1, .int a2, .int a3, .int (hi 10 j17), rx_no] [] (rx_hp L t hi hl v) Q
        refine rx_aw_s 5 (pc := 45) rfl ?_
        show rx_aw 49 53 [.ref 7, .int a0, .int a1, .int a2, .int a3, .int (hi 10 j17), rx_no] [.int ((a1 &&& (-256 : Int32)) ||| (hi 10 j17))] (rx_hp L t hi hl v) Q
        exact rx_aw_ret (pc := 53) rfl k
      · have k := k.2 c18
        show rx_aw 49 41 [.ref 7, .int a0, .int a1, .int a2, .int a3, .int (hi 10 j17), rx_no] [] (rx_hp L t hi hl v) Q
        refine rx_aw_s 2 (pc := 41) rfl ?_
        show rx_aw 49 53 [.ref 7, .int a0, .int a1, .int a2, .int a3, .int (hi 10 j17), rx_no] [.int (-1 : Int32)] (rx_hp L t hi hl v) Q
        exact rx_aw_ret (pc := 53) rfl k
/-- CartFloor.loaded(II)I -/
theorem w50_loaded {L : Nat} {t : List (Nat × Nat)} {hi : Nat → Nat → Int32} {hl : Nat → Nat → Int64} {v : Nat → Nat → Option Nat} {Q : Option Value → rx_H → Prop} {a0 : Int32} {a1 : Int32} (k : Q (some (.int ((a0 &&& (255 : Int32)) ||| ((a1 + (1 : Int32)) <<< ((8 : Int32) &&& 31))))) (rx_hp L t hi hl v)) : rx_me 50 [.int a0, .int a1] (rx_hp L t hi hl v) Q := by
  show rx_aw 50 0 [.int a0, .int a1] [] (rx_hp L t hi hl v) Q
  refine rx_aw_s 9 (pc := 0) rfl ?_
  show rx_aw 50 12 [.int a0, .int a1] [.int ((a0 &&& (255 : Int32)) ||| ((a1 + (1 : Int32)) <<< ((8 : Int32) &&& 31)))] (rx_hp L t hi hl v) Q
  exact rx_aw_ret (pc := 12) rfl k
/-- CartFloor$Traffic.bringShelves(I)V -/
theorem w51_bringShelves {L : Nat} {t : List (Nat × Nat)} {hi : Nat → Nat → Int32} {hl : Nat → Nat → Int64} {v : Nat → Nat → Option Nat} {Q : Option Value → rx_H → Prop} {a0 : Int32} (k : rx_aw 51 2 [.ref 13, .int a0, .int (0 : Int32), rx_no] [] (rx_hp L t hi hl v) Q) : rx_me 51 [.ref 13, .int a0] (rx_hp L t hi hl v) Q := by
  show rx_aw 51 0 [.ref 13, .int a0, rx_no, rx_no] [] (rx_hp L t hi hl v) Q
  refine rx_aw_s 2 (pc := 0) rfl ?_
  show rx_aw 51 2 [.ref 13, .int a0, .int (0 : Int32), rx_no] [] (rx_hp L t hi hl v) Q
  exact k
theorem w51_bringShelves_2 {L : Nat} {t : List (Nat × Nat)} {hi : Nat → Nat → Int32} {hl : Nat → Nat → Int64} {v : Nat → Nat → Option Nat} {Q : Option Value → rx_H → Prop} {x1 : Int32} {x2 : Int32} (k : (((hi 13 4) ≤ x2 → rx_aw 51 42 [.ref 13, .int x1, .int (0 : Int32), rx_no] [] (rx_hp L t hi hl v) Q) ∧ (¬ ((hi 13 4) ≤ x2) → (∃ j2 : Nat, x2 = nI j2 ∧ j2 < 12 ∧ (∃ j3 : Nat, x2 = nI j3 ∧ j3 < 12 ∧ (∃ j4 : Nat, (x1 - (1 : Int32)) = nI j4 ∧ j4 < 402 ∧ (∃ j5 : Nat, x1 = nI j5 ∧ j5 < 402 ∧ rx_aw 51 2 [.ref 13, .int x1, .int (x2 + (1 : Int32)), rx_no] [] (rx_hp L t (rx_u hi (rx_sf j2 + 1) j5 (hi (rx_sf j3 + 1) j4)) hl v) Q))))))) : rx_aw 51 2 [.ref 13, .int x1, .int x2, rx_no] [] (rx_hp L t hi hl v) Q := by
  refine rx_aw_s 4 (pc := 2) rfl ?_
  refine rx_w_if (c := (hi 13 4) ≤ x2) ⟨fun c1 => ?_, fun c1 => ?_⟩
  · have k := k.1 c1
    show rx_aw 51 40 [.ref 13, .int x1, .int x2, rx_no] [] (rx_hp L t hi hl v) Q
    refine rx_aw_s 2 (pc := 40) rfl ?_
    show rx_aw 51 42 [.ref 13, .int x1, .int (0 : Int32), rx_no] [] (rx_hp L t hi hl v) Q
    exact k
  · have k := k.2 c1
    show rx_aw 51 10 [.ref 13, .int x1, .int x2, rx_no] [] (rx_hp L t hi hl v) Q
    refine rx_aw_s 3 (pc := 10) rfl ?_
    show rx_aw 51 15 [.ref 13, .int x1, .int x2, rx_no] [.int x2, .ref 15] (rx_hp L t hi hl v) Q
    obtain ⟨j2, ej2, hj2, k⟩ := k
    refine rx_w_shelves (pc := 15) rfl ⟨j2, ej2, hj2, ?_⟩
    show rx_aw 51 16 [.ref 13, .int x1, .int x2, rx_no] [.ref (rx_sf j2)] (rx_hp L t hi hl v) Q
    refine rx_w_sr hj2 (pc := 16) rfl ?_
    show rx_aw 51 19 [.ref 13, .int x1, .int x2, rx_no] [.ref (rx_sf j2 + 1)] (rx_hp L t hi hl v) Q
    refine rx_aw_s 4 (pc := 19) rfl ?_
    show rx_aw 51 25 [.ref 13, .int x1, .int x2, rx_no] [.int x2, .ref 15, .int x1, .ref (rx_sf j2 + 1)] (rx_hp L t hi hl v) Q
    obtain ⟨j3, ej3, hj3, k⟩ := k
    refine rx_w_shelves (pc := 25) rfl ⟨j3, ej3, hj3, ?_⟩
    show rx_aw 51 26 [.ref 13, .int x1, .int x2, rx_no] [.ref (rx_sf j3), .int x1, .ref (rx_sf j2 + 1)] (rx_hp L t hi hl v) Q
    refine rx_w_sr hj3 (pc := 26) rfl ?_
    show rx_aw 51 29 [.ref 13, .int x1, .int x2, rx_no] [.ref (rx_sf j3 + 1), .int x1, .ref (rx_sf j2 + 1)] (rx_hp L t hi hl v) Q
    refine rx_aw_s 3 (pc := 29) rfl ?_
    show rx_aw 51 32 [.ref 13, .int x1, .int x2, rx_no] [.int (x1 - (1 : Int32)), .ref (rx_sf j3 + 1), .int x1, .ref (rx_sf j2 + 1)] (rx_hp L t hi hl v) Q
    obtain ⟨j4, ej4, hj4, k⟩ := k
    refine rx_aw_iald (pc := 32) (n := 402) j4 ej4 rfl (rx_ck (rx_shelf_s (v := v) hj3).2.1) (rx_cle (rx_shelf_s (v := v) hj3).2.1) hj4 (by decide) ?_
    show rx_aw 51 33 [.ref 13, .int x1, .int x2, rx_no] [.int (hi (rx_sf j3 + 1) j4), .int x1, .ref (rx_sf j2 + 1)] (rx_hp L t hi hl v) Q
    obtain ⟨j5, ej5, hj5, k⟩ := k
    refine rx_aw_iast (pc := 33) (n := 402) j5 ej5 rfl (rx_ck (rx_shelf_s (v := v) hj2).2.1) (Nat.lt_of_lt_of_le (rx_sf_pos _) (Nat.le_add_right _ _)) (rx_cle (rx_shelf_s (v := v) hj2).2.1) hj5 (by decide) ?_
    show rx_aw 51 34 [.ref 13, .int x1, .int x2, rx_no] [] (rx_hp L t (rx_u hi (rx_sf j2 + 1) j5 (hi (rx_sf j3 + 1) j4)) hl v) Q
    refine rx_aw_s 2 (pc := 34) rfl ?_
    show rx_aw 51 2 [.ref 13, .int x1, .int (x2 + (1 : Int32)), rx_no] [] (rx_hp L t (rx_u hi (rx_sf j2 + 1) j5 (hi (rx_sf j3 + 1) j4)) hl v) Q
    exact k
theorem w51_bringShelves_42 {L : Nat} {t : List (Nat × Nat)} {hi : Nat → Nat → Int32} {hl : Nat → Nat → Int64} {v : Nat → Nat → Option Nat} {Q : Option Value → rx_H → Prop} {x1 : Int32} {x2 : Int32} (k : (((hi 13 3) ≤ x2 → Q none (rx_hp L t hi hl v)) ∧ (¬ ((hi 13 3) ≤ x2) → (∃ j7 : Nat, x2 = nI j7 ∧ j7 < 6 ∧ (∃ j8 : Nat, x1 = nI j8 ∧ j8 < 402 ∧ rx_me 48 [.int (hi (rx_ct j7 + 3) j8)] (rx_hp L t hi hl v) (fun r h2 => ∃ z9 : Int32, r = some (.int z9) ∧ rx_ok2 L t h2 (fun hi9 hl9 v9 => ((z9 < 0 → rx_aw 51 42 [.ref 13, .int x1, .int (x2 + (1 : Int32)), rx_no] [] (rx_hp L t hi9 hl9 v9) Q) ∧ (¬ (z9 < 0) → (((hi9 13 4) ≤ z9 → rx_aw 51 42 [.ref 13, .int x1, .int (x2 + (1 : Int32)), rx_no] [] (rx_hp L t hi9 hl9 v9) Q) ∧ (¬ ((hi9 13 4) ≤ z9) → (∃ j12 : Nat, z9 = nI j12 ∧ j12 < 12 ∧ (∃ j13 : Nat, x2 = nI j13 ∧ j13 < 6 ∧ (∃ j14 : Nat, x1 = nI j14 ∧ j14 < 402 ∧ rx_me 8 [.int (hi9 (rx_ct j13 + 3) j14)] (rx_hp L t hi9 hl9 v9) (fun r h2 => ∃ z15 : Int32, r = some (.int z15) ∧ rx_ok2 L t h2 (fun hi15 hl15 v15 => (∃ j16 : Nat, x1 = nI j16 ∧ j16 < 402 ∧ rx_aw 51 42 [.ref 13, .int x1, .int (x2 + (1 : Int32)), rx_no] [] (rx_hp L t (rx_u hi15 (rx_sf j12 + 1) j16 z15) hl15 v15) Q))))))))))))))))) : rx_aw 51 42 [.ref 13, .int x1, .int x2, rx_no] [] (rx_hp L t hi hl v) Q := by
  refine rx_aw_s 4 (pc := 42) rfl ?_
  refine rx_w_if (c := (hi 13 3) ≤ x2) ⟨fun c6 => ?_, fun c6 => ?_⟩
  · have k := k.1 c6
    show rx_aw 51 108 [.ref 13, .int x1, .int x2, rx_no] [] (rx_hp L t hi hl v) Q
    exact rx_aw_ret (pc := 108) rfl k
  · have k := k.2 c6
    show rx_aw 51 50 [.ref 13, .int x1, .int x2, rx_no] [] (rx_hp L t hi hl v) Q
    refine rx_aw_s 3 (pc := 50) rfl ?_
    show rx_aw 51 55 [.ref 13, .int x1, .int x2, rx_no] [.int x2, .ref 14] (rx_hp L t hi hl v) Q
    obtain ⟨j7, ej7, hj7, k⟩ := k
    refine rx_w_carts (pc := 55) rfl ⟨j7, ej7, hj7, ?_⟩
    show rx_aw 51 56 [.ref 13, .int x1, .int x2, rx_no] [.ref (rx_ct j7)] (rx_hp L t hi hl v) Q
    refine rx_w_cr hj7 (pc := 56) rfl (by decide) ?_
    show rx_aw 51 59 [.ref 13, .int x1, .int x2, rx_no] [.ref (rx_ct j7 + 3)] (rx_hp L t hi hl v) Q
    refine rx_aw_s 1 (pc := 59) rfl ?_
    show rx_aw 51 60 [.ref 13, .int x1, .int x2, rx_no] [.int x1, .ref (rx_ct j7 + 3)] (rx_hp L t hi hl v) Q
    obtain ⟨j8, ej8, hj8, k⟩ := k
    refine rx_aw_iald (pc := 60) (n := 402) j8 ej8 rfl (rx_ck (rx_cart_s hj7).2.2.2.1) (rx_cle (rx_cart_s hj7).2.2.2.1) hj8 (by decide) ?_
    show rx_aw 51 61 [.ref 13, .int x1, .int x2, rx_no] [.int (hi (rx_ct j7 + 3) j8)] (rx_hp L t hi hl v) Q
    refine rx_w_callI (j := 48) (pc := 61) rfl rfl rfl rfl rfl ?_
    refine rx_aw.mono k (fun r h2 k => ?_)
    obtain ⟨z9, rfl, hi9, hl9, v9, rfl, k⟩ := k
    refine ⟨z9, rfl, ?_⟩
    show rx_aw 51 64 [.ref 13, .int x1, .int x2, rx_no] [.int z9] (rx_hp L t hi9 hl9 v9) Q
    refine rx_aw_s 3 (pc := 64) rfl ?_
    refine rx_w_if (c := z9 < 0) ⟨fun c10 => ?_, fun c10 => ?_⟩
    · have k := k.1 c10
      show rx_aw 51 102 [.ref 13, .int x1, .int x2, .int z9] [] (rx_hp L t hi9 hl9 v9) Q
      refine rx_aw_s 2 (pc := 102) rfl ?_
      show rx_aw 51 42 [.ref 13, .int x1, .int (x2 + (1 : Int32)), .int z9] [] (rx_hp L t hi9 hl9 v9) Q
      exact rx_aw_le (ls := [.ref 13, .int x1, .int (x2 + (1 : Int32)), rx_no]) ⟨Or.inr rfl, ⟨Or.inr rfl, ⟨Or.inr rfl, ⟨Or.inl rfl, trivial⟩⟩⟩⟩ k
    · have k := k.2 c10
      show rx_aw 51 69 [.ref 13, .int x1, .int x2, .int z9] [] (rx_hp L t hi9 hl9 v9) Q
      refine rx_aw_s 4 (pc := 69) rfl ?_
      refine rx_w_if (c := (hi9 13 4) ≤ z9) ⟨fun c11 => ?_, fun c11 => ?_⟩
      · have k := k.1 c11
        show rx_aw 51 102 [.ref 13, .int x1, .int x2, .int z9] [] (rx_hp L t hi9 hl9 v9) Q
        refine rx_aw_s 2 (pc := 102) rfl ?_
        show rx_aw 51 42 [.ref 13, .int x1, .int (x2 + (1 : Int32)), .int z9] [] (rx_hp L t hi9 hl9 v9) Q
        exact rx_aw_le (ls := [.ref 13, .int x1, .int (x2 + (1 : Int32)), rx_no]) ⟨Or.inr rfl, ⟨Or.inr rfl, ⟨Or.inr rfl, ⟨Or.inl rfl, trivial⟩⟩⟩⟩ k
      · have k := k.2 c11
        show rx_aw 51 77 [.ref 13, .int x1, .int x2, .int z9] [] (rx_hp L t hi9 hl9 v9) Q
        refine rx_aw_s 3 (pc := 77) rfl ?_
        show rx_aw 51 82 [.ref 13, .int x1, .int x2, .int z9] [.int z9, .ref 15] (rx_hp L t hi9 hl9 v9) Q
        obtain ⟨j12, ej12, hj12, k⟩ := k
        refine rx_w_shelves (pc := 82) rfl ⟨j12, ej12, hj12, ?_⟩
        show rx_aw 51 83 [.ref 13, .int x1, .int x2, .int z9] [.ref (rx_sf j12)] (rx_hp L t hi9 hl9 v9) Q
        refine rx_w_sr hj12 (pc := 83) rfl ?_
        show rx_aw 51 86 [.ref 13, .int x1, .int x2, .int z9] [.ref (rx_sf j12 + 1)] (rx_hp L t hi9 hl9 v9) Q
        refine rx_aw_s 4 (pc := 86) rfl ?_
        show rx_aw 51 92 [.ref 13, .int x1, .int x2, .int z9] [.int x2, .ref 14, .int x1, .ref (rx_sf j12 + 1)] (rx_hp L t hi9 hl9 v9) Q
        obtain ⟨j13, ej13, hj13, k⟩ := k
        refine rx_w_carts (pc := 92) rfl ⟨j13, ej13, hj13, ?_⟩
        show rx_aw 51 93 [.ref 13, .int x1, .int x2, .int z9] [.ref (rx_ct j13), .int x1, .ref (rx_sf j12 + 1)] (rx_hp L t hi9 hl9 v9) Q
        refine rx_w_cr hj13 (pc := 93) rfl (by decide) ?_
        show rx_aw 51 96 [.ref 13, .int x1, .int x2, .int z9] [.ref (rx_ct j13 + 3), .int x1, .ref (rx_sf j12 + 1)] (rx_hp L t hi9 hl9 v9) Q
        refine rx_aw_s 1 (pc := 96) rfl ?_
        show rx_aw 51 97 [.ref 13, .int x1, .int x2, .int z9] [.int x1, .ref (rx_ct j13 + 3), .int x1, .ref (rx_sf j12 + 1)] (rx_hp L t hi9 hl9 v9) Q
        obtain ⟨j14, ej14, hj14, k⟩ := k
        refine rx_aw_iald (pc := 97) (n := 402) j14 ej14 rfl (rx_ck (rx_cart_s hj13).2.2.2.1) (rx_cle (rx_cart_s hj13).2.2.2.1) hj14 (by decide) ?_
        show rx_aw 51 98 [.ref 13, .int x1, .int x2, .int z9] [.int (hi9 (rx_ct j13 + 3) j14), .int x1, .ref (rx_sf j12 + 1)] (rx_hp L t hi9 hl9 v9) Q
        refine rx_w_callI (j := 8) (pc := 98) rfl rfl rfl rfl rfl ?_
        refine rx_aw.mono k (fun r h2 k => ?_)
        obtain ⟨z15, rfl, hi15, hl15, v15, rfl, k⟩ := k
        refine ⟨z15, rfl, ?_⟩
        show rx_aw 51 101 [.ref 13, .int x1, .int x2, .int z9] [.int z15, .int x1, .ref (rx_sf j12 + 1)] (rx_hp L t hi15 hl15 v15) Q
        obtain ⟨j16, ej16, hj16, k⟩ := k
        refine rx_aw_iast (pc := 101) (n := 402) j16 ej16 rfl (rx_ck (rx_shelf_s (v := v) hj12).2.1) (Nat.lt_of_lt_of_le (rx_sf_pos _) (Nat.le_add_right _ _)) (rx_cle (rx_shelf_s (v := v) hj12).2.1) hj16 (by decide) ?_
        show rx_aw 51 102 [.ref 13, .int x1, .int x2, .int z9] [] (rx_hp L t (rx_u hi15 (rx_sf j12 + 1) j16 z15) hl15 v15) Q
        refine rx_aw_s 2 (pc := 102) rfl ?_
        show rx_aw 51 42 [.ref 13, .int x1, .int (x2 + (1 : Int32)), .int z9] [] (rx_hp L t (rx_u hi15 (rx_sf j12 + 1) j16 z15) hl15 v15) Q
        exact rx_aw_le (ls := [.ref 13, .int x1, .int (x2 + (1 : Int32)), rx_no]) ⟨Or.inr rfl, ⟨Or.inr rfl, ⟨Or.inr rfl, ⟨Or.inl rfl, trivial⟩⟩⟩⟩ k
