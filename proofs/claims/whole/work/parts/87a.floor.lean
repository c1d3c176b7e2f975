/-! The Floor, while it is made: its small methods over the cells 0 to 12. -/
def rx_sF (L : Nat) : List (Nat × Nat) := (14, L) :: rx_s1.take 12
def rx_hr7 (v : Nat → Nat → Option Nat) : Nat → Nat → Option Nat := fun i k => match (match i with
    | 7 => rx_fx7.getD k none
    | _ => none) with
  | some q => some q
  | none => v i k
def rx_hF (L : Nat) (hi : Nat → Nat → Int32) (hl : Nat → Nat → Int64) (v : Nat → Nat → Option Nat) : rx_H := (rx_sF L, hi, hl, rx_hr7 v)
def rx_okF (L : Nat) (h : rx_H) (P : (Nat → Nat → Int32) → (Nat → Nat → Int64) → (Nat → Nat → Option Nat) → Prop) : Prop := ∃ hi hl v, h = rx_hF L hi hl v ∧ P hi hl v
abbrev rx_CIF (L : Nat) (j : Nat) (as : List Value) (hi : Nat → Nat → Int32) (hl : Nat → Nat → Int64) (v : Nat → Nat → Option Nat) (R : Int32 → (Nat → Nat → Int32) → (Nat → Nat → Int64) → (Nat → Nat → Option Nat) → Prop) : Prop :=
  rx_me j as (rx_hF L hi hl v) (fun r h2 => ∃ z : Int32, r = some (.int z) ∧ rx_okF L h2 (R z))
abbrev rx_CLF (L : Nat) (j : Nat) (as : List Value) (hi : Nat → Nat → Int32) (hl : Nat → Nat → Int64) (v : Nat → Nat → Option Nat) (R : Int64 → (Nat → Nat → Int32) → (Nat → Nat → Int64) → (Nat → Nat → Option Nat) → Prop) : Prop :=
  rx_me j as (rx_hF L hi hl v) (fun r h2 => ∃ z : Int64, r = some (.long z) ∧ rx_okF L h2 (R z))
abbrev rx_CVF (L : Nat) (j : Nat) (as : List Value) (hi : Nat → Nat → Int32) (hl : Nat → Nat → Int64) (v : Nat → Nat → Option Nat) (R : (Nat → Nat → Int32) → (Nat → Nat → Int64) → (Nat → Nat → Option Nat) → Prop) : Prop :=
  rx_me j as (rx_hF L hi hl v) (fun r h2 => r = none ∧ rx_okF L h2 R)
theorem w8_squareOfF {L : Nat} {hi : Nat → Nat → Int32} {hl : Nat → Nat → Int64} {v : Nat → Nat → Option Nat} {Q : Option Value → rx_H → Prop} {a0 : Int32} (k : Q (some (.int (a0 &&& (63 : Int32)))) (rx_hF L hi hl v)) : rx_me 8 [.int a0] (rx_hF L hi hl v) Q := by
  show rx_aw 8 0 [.int a0] [] (rx_hF L hi hl v) Q
  refine rx_aw_s 3 (pc := 0) rfl ?_
  show rx_aw 8 4 [.int a0] [.int (a0 &&& (63 : Int32))] (rx_hF L hi hl v) Q
  exact rx_aw_ret (pc := 4) rfl k
theorem w9_bitF {L : Nat} {hi : Nat → Nat → Int32} {hl : Nat → Nat → Int64} {v : Nat → Nat → Option Nat} {Q : Option Value → rx_H → Prop} {a0 : Int32} (k : ((0 ≤ a0 → Q (some (.long ((1 : Int64) <<< (Int32.toInt64 a0 &&& 63)))) (rx_hF L hi hl v)) ∧ (¬ (0 ≤ a0) → Q (some (.long (0 : Int64))) (rx_hF L hi hl v)))) : rx_me 9 [.int a0] (rx_hF L hi hl v) Q := by
  show rx_aw 9 0 [.int a0] [] (rx_hF L hi hl v) Q
  refine rx_aw_s 2 (pc := 0) rfl ?_
  refine rx_w_if (c := 0 ≤ a0) ⟨fun c1 => ?_, fun c1 => ?_⟩
  · have k := k.1 c1
    show rx_aw 9 8 [.int a0] [] (rx_hF L hi hl v) Q
    refine rx_aw_s 3 (pc := 8) rfl ?_
    show rx_aw 9 11 [.int a0] [.long ((1 : Int64) <<< (Int32.toInt64 a0 &&& 63))] (rx_hF L hi hl v) Q
    exact rx_aw_ret (pc := 11) rfl k
  · have k := k.2 c1
    show rx_aw 9 4 [.int a0] [] (rx_hF L hi hl v) Q
    refine rx_aw_s 2 (pc := 4) rfl ?_
    show rx_aw 9 11 [.int a0] [.long (0 : Int64)] (rx_hF L hi hl v) Q
    exact rx_aw_ret (pc := 11) rfl k
theorem w10_findStepsF {L : Nat} {hi : Nat → Nat → Int32} {hl : Nat → Nat → Int64} {v : Nat → Nat → Option Nat} {Q : Option Value → rx_H → Prop} {a0 : Int32} (k : rx_me 8 [.int a0] (rx_hF L hi hl v) (fun r h2 => ∃ z1 : Int32, r = some (.int z1) ∧ rx_okF L h2 (fun hi1 hl1 v1 => rx_me 9 [.int z1] (rx_hF L hi1 hl1 v1) (fun r h2 => ∃ z2 : Int64, r = some (.long z2) ∧ rx_okF L h2 (fun hi2 hl2 v2 => (∃ j3 : Nat, a0 = nI j3 ∧ j3 < 512 ∧ (∃ j4 : Nat, a0 = nI j4 ∧ j4 < 2560 ∧ rx_aw 10 24 [.ref 7, .int a0, .int z1, .int (0 : Int32)] [] (rx_hF L (rx_u hi2 10 j4 a0) (rx_u hl2 11 j3 z2) v2) Q))))))) : rx_me 10 [.ref 7, .int a0] (rx_hF L hi hl v) Q := by
  show rx_aw 10 0 [.ref 7, .int a0, rx_no, rx_no] [] (rx_hF L hi hl v) Q
  refine rx_aw_s 1 (pc := 0) rfl ?_
  show rx_aw 10 1 [.ref 7, .int a0, rx_no, rx_no] [.int a0] (rx_hF L hi hl v) Q
  refine rx_w_callI (j := 8) (pc := 1) rfl rfl rfl rfl rfl ?_
  refine rx_aw.mono k (fun r h2 k => ?_)
  obtain ⟨z1, rfl, hi1, hl1, v1, rfl, k⟩ := k
  refine ⟨z1, rfl, ?_⟩
  show rx_aw 10 4 [.ref 7, .int a0, rx_no, rx_no] [.int z1] (rx_hF L hi1 hl1 v1) Q
  refine rx_aw_s 5 (pc := 4) rfl ?_
  show rx_aw 10 11 [.ref 7, .int a0, .int z1, rx_no] [.int z1, .int a0, .ref 11] (rx_hF L hi1 hl1 v1) Q
  refine rx_w_callL (j := 9) (pc := 11) rfl rfl rfl rfl rfl ?_
  refine rx_aw.mono k (fun r h2 k => ?_)
  obtain ⟨z2, rfl, hi2, hl2, v2, rfl, k⟩ := k
  refine ⟨z2, rfl, ?_⟩
  show rx_aw 10 14 [.ref 7, .int a0, .int z1, rx_no] [.long z2, .int a0, .ref 11] (rx_hF L hi2 hl2 v2) Q
  obtain ⟨j3, ej3, hj3, k⟩ := k
  refine rx_aw_last (pc := 14) (n := 512) j3 ej3 rfl rfl (by decide) rfl hj3 (by decide) ?_
  show rx_aw 10 15 [.ref 7, .int a0, .int z1, rx_no] [] (rx_hF L hi2 (rx_u hl2 11 j3 z2) v2) Q
  refine rx_aw_s 4 (pc := 15) rfl ?_
  show rx_aw 10 21 [.ref 7, .int a0, .int z1, rx_no] [.int a0, .int a0, .ref 10] (rx_hF L hi2 (rx_u hl2 11 j3 z2) v2) Q
  obtain ⟨j4, ej4, hj4, k⟩ := k
  refine rx_aw_iast (pc := 21) (n := 2560) j4 ej4 rfl rfl (by decide) rfl hj4 (by decide) ?_
  show rx_aw 10 22 [.ref 7, .int a0, .int z1, rx_no] [] (rx_hF L (rx_u hi2 10 j4 a0) (rx_u hl2 11 j3 z2) v2) Q
  refine rx_aw_s 2 (pc := 22) rfl ?_
  show rx_aw 10 24 [.ref 7, .int a0, .int z1, .int (0 : Int32)] [] (rx_hF L (rx_u hi2 10 j4 a0) (rx_u hl2 11 j3 z2) v2) Q
  exact k
theorem w10_findSteps_24F {L : Nat} {hi : Nat → Nat → Int32} {hl : Nat → Nat → Int64} {v : Nat → Nat → Option Nat} {Q : Option Value → rx_H → Prop} {x1 : Int32} {x2 : Int32} {x3 : Int32} (k : (((4 : Int32) ≤ x3 → Q none (rx_hF L hi hl v)) ∧ (¬ ((4 : Int32) ≤ x3) → rx_me 11 [.ref 7, .int x2, .int x3] (rx_hF L hi hl v) (fun r h2 => ∃ z6 : Int32, r = some (.int z6) ∧ rx_okF L h2 (fun hi6 hl6 v6 => rx_me 14 [.ref 7, .int z6, .int x3] (rx_hF L hi6 hl6 v6) (fun r h2 => ∃ z7 : Int32, r = some (.int z7) ∧ rx_okF L h2 (fun hi7 hl7 v7 => (∃ j8 : Nat, (((x3 + (1 : Int32)) * (256 : Int32)) + x1) = nI j8 ∧ j8 < 2560 ∧ rx_aw 10 24 [.ref 7, .int x1, .int x2, .int (x3 + (1 : Int32))] [] (rx_hF L (rx_u hi7 10 j8 z7) hl7 v7) Q)))))))) : rx_aw 10 24 [.ref 7, .int x1, .int x2, .int x3] [] (rx_hF L hi hl v) Q := by
  refine rx_aw_s 3 (pc := 24) rfl ?_
  refine rx_w_if (c := (4 : Int32) ≤ x3) ⟨fun c5 => ?_, fun c5 => ?_⟩
  · have k := k.1 c5
    show rx_aw 10 60 [.ref 7, .int x1, .int x2, .int x3] [] (rx_hF L hi hl v) Q
    exact rx_aw_ret (pc := 60) rfl k
  · have k := k.2 c5
    show rx_aw 10 29 [.ref 7, .int x1, .int x2, .int x3] [] (rx_hF L hi hl v) Q
    refine rx_aw_s 13 (pc := 29) rfl ?_
    show rx_aw 10 46 [.ref 7, .int x1, .int x2, .int x3] [.int x3, .int x2, .ref 7, .ref 7, .int (((x3 + (1 : Int32)) * (256 : Int32)) + x1), .ref 10] (rx_hF L hi hl v) Q
    refine rx_w_callI (j := 11) (pc := 46) rfl rfl rfl rfl rfl ?_
    refine rx_aw.mono k (fun r h2 k => ?_)
    obtain ⟨z6, rfl, hi6, hl6, v6, rfl, k⟩ := k
    refine ⟨z6, rfl, ?_⟩
    show rx_aw 10 49 [.ref 7, .int x1, .int x2, .int x3] [.int z6, .ref 7, .int (((x3 + (1 : Int32)) * (256 : Int32)) + x1), .ref 10] (rx_hF L hi6 hl6 v6) Q
    refine rx_aw_s 1 (pc := 49) rfl ?_
    show rx_aw 10 50 [.ref 7, .int x1, .int x2, .int x3] [.int x3, .int z6, .ref 7, .int (((x3 + (1 : Int32)) * (256 : Int32)) + x1), .ref 10] (rx_hF L hi6 hl6 v6) Q
    refine rx_w_callI (j := 14) (pc := 50) rfl rfl rfl rfl rfl ?_
    refine rx_aw.mono k (fun r h2 k => ?_)
    obtain ⟨z7, rfl, hi7, hl7, v7, rfl, k⟩ := k
    refine ⟨z7, rfl, ?_⟩
    show rx_aw 10 53 [.ref 7, .int x1, .int x2, .int x3] [.int z7, .int (((x3 + (1 : Int32)) * (256 : Int32)) + x1), .ref 10] (rx_hF L hi7 hl7 v7) Q
    obtain ⟨j8, ej8, hj8, k⟩ := k
    refine rx_aw_iast (pc := 53) (n := 2560) j8 ej8 rfl rfl (by decide) rfl hj8 (by decide) ?_
    show rx_aw 10 54 [.ref 7, .int x1, .int x2, .int x3] [] (rx_hF L (rx_u hi7 10 j8 z7) hl7 v7) Q
    refine rx_aw_s 2 (pc := 54) rfl ?_
    show rx_aw 10 24 [.ref 7, .int x1, .int x2, .int (x3 + (1 : Int32))] [] (rx_hF L (rx_u hi7 10 j8 z7) hl7 v7) Q
    exact k
theorem w11_nextF {L : Nat} {hi : Nat → Nat → Int32} {hl : Nat → Nat → Int64} {v : Nat → Nat → Option Nat} {Q : Option Value → rx_H → Prop} {a0 : Int32} {a1 : Int32} (k : rx_me 9 [.int a0] (rx_hF L hi hl v) (fun r h2 => ∃ z1 : Int64, r = some (.long z1) ∧ rx_okF L h2 (fun hi1 hl1 v1 => rx_me 12 [.ref 7, .long z1, .int a1] (rx_hF L hi1 hl1 v1) (fun r h2 => ∃ z2 : Int64, r = some (.long z2) ∧ rx_okF L h2 (fun hi2 hl2 v2 => (((lg_cmp z2 (0 : Int64)) = 0 → Q (some (.int (-1 : Int32))) (rx_hF L hi2 hl2 v2)) ∧ (¬ ((lg_cmp z2 (0 : Int64)) = 0) → rx_me 13 [.long (z2 - (1 : Int64))] (rx_hF L hi2 hl2 v2) (fun r h2 => ∃ z4 : Int32, r = some (.int z4) ∧ rx_okF L h2 (fun hi4 hl4 v4 => Q (some (.int z4)) (rx_hF L hi4 hl4 v4)))))))))) : rx_me 11 [.ref 7, .int a0, .int a1] (rx_hF L hi hl v) Q := by
  show rx_aw 11 0 [.ref 7, .int a0, .int a1, rx_no, rx_no] [] (rx_hF L hi hl v) Q
  refine rx_aw_s 2 (pc := 0) rfl ?_
  show rx_aw 11 2 [.ref 7, .int a0, .int a1, rx_no, rx_no] [.int a0, .ref 7] (rx_hF L hi hl v) Q
  refine rx_w_callL (j := 9) (pc := 2) rfl rfl rfl rfl rfl ?_
  refine rx_aw.mono k (fun r h2 k => ?_)
  obtain ⟨z1, rfl, hi1, hl1, v1, rfl, k⟩ := k
  refine ⟨z1, rfl, ?_⟩
  show rx_aw 11 5 [.ref 7, .int a0, .int a1, rx_no, rx_no] [.long z1, .ref 7] (rx_hF L hi1 hl1 v1) Q
  refine rx_aw_s 1 (pc := 5) rfl ?_
  show rx_aw 11 6 [.ref 7, .int a0, .int a1, rx_no, rx_no] [.int a1, .long z1, .ref 7] (rx_hF L hi1 hl1 v1) Q
  refine rx_w_callL (j := 12) (pc := 6) rfl rfl rfl rfl rfl ?_
  refine rx_aw.mono k (fun r h2 k => ?_)
  obtain ⟨z2, rfl, hi2, hl2, v2, rfl, k⟩ := k
  refine ⟨z2, rfl, ?_⟩
  show rx_aw 11 9 [.ref 7, .int a0, .int a1, rx_no, rx_no] [.long z2] (rx_hF L hi2 hl2 v2) Q
  refine rx_aw_s 5 (pc := 9) rfl ?_
  refine rx_w_ifn (c := (lg_cmp z2 (0 : Int64)) = 0) ⟨fun c3 => ?_, fun c3 => ?_⟩
  · have k := k.1 c3
    show rx_aw 11 16 [.ref 7, .int a0, .int a1, .long z2, rx_no] [] (rx_hF L hi2 hl2 v2) Q
    refine rx_aw_s 2 (pc := 16) rfl ?_
    show rx_aw 11 26 [.ref 7, .int a0, .int a1, .long z2, rx_no] [.int (-1 : Int32)] (rx_hF L hi2 hl2 v2) Q
    exact rx_aw_ret (pc := 26) rfl k
  · have k := k.2 c3
    show rx_aw 11 20 [.ref 7, .int a0, .int a1, .long z2, rx_no] [] (rx_hF L hi2 hl2 v2) Q
    refine rx_aw_s 3 (pc := 20) rfl ?_
    show rx_aw 11 23 [.ref 7, .int a0, .int a1, .long z2, rx_no] [.long (z2 - (1 : Int64))] (rx_hF L hi2 hl2 v2) Q
    refine rx_w_callI (j := 13) (pc := 23) rfl rfl rfl rfl rfl ?_
    refine rx_aw.mono k (fun r h2 k => ?_)
    obtain ⟨z4, rfl, hi4, hl4, v4, rfl, k⟩ := k
    refine ⟨z4, rfl, ?_⟩
    show rx_aw 11 26 [.ref 7, .int a0, .int a1, .long z2, rx_no] [.int z4] (rx_hF L hi4 hl4 v4) Q
    exact rx_aw_ret (pc := 26) rfl k
theorem w12_shiftF {L : Nat} {hi : Nat → Nat → Int32} {hl : Nat → Nat → Int64} {v : Nat → Nat → Option Nat} {Q : Option Value → rx_H → Prop} {a0 : Int64} {a1 : Int32} (k : ((a1 = (0 : Int32) → Q (some (.long (((Int64.toUInt64 a0) >>> ((Int32.toInt64 (hi 7 0)).toUInt64 &&& Int64.toUInt64 63)).toInt64))) (rx_hF L hi hl v)) ∧ (¬ (a1 = (0 : Int32)) → ((a1 = (1 : Int32) → Q (some (.long ((a0 &&& (hl 7 4)) <<< (Int32.toInt64 (1 : Int32) &&& 63)))) (rx_hF L hi hl v)) ∧ (¬ (a1 = (1 : Int32)) → ((a1 = (2 : Int32) → Q (some (.long ((a0 <<< (Int32.toInt64 (hi 7 0) &&& 63)) &&& (hl 7 2)))) (rx_hF L hi hl v)) ∧ (¬ (a1 = (2 : Int32)) → Q (some (.long (((Int64.toUInt64 (a0 &&& (hl 7 3))) >>> ((Int32.toInt64 (1 : Int32)).toUInt64 &&& Int64.toUInt64 63)).toInt64))) (rx_hF L hi hl v)))))))) : rx_me 12 [.ref 7, .long a0, .int a1] (rx_hF L hi hl v) Q := by
  show rx_aw 12 0 [.ref 7, .long a0, rx_no, .int a1] [] (rx_hF L hi hl v) Q
  refine rx_aw_s 1 (pc := 0) rfl ?_
  show rx_aw 12 1 [.ref 7, .long a0, rx_no, .int a1] [.int a1] (rx_hF L hi hl v) Q
  by_cases s1_0 : a1 = (0 : Int32)
  · have k := k.1 s1_0
    refine rx_aw_tsw (pc := 1) (p2 := 28) rfl (by rw [s1_0]; rfl) ?_
    show rx_aw 12 28 [.ref 7, .long a0, rx_no, .int a1] [] (rx_hF L hi hl v) Q
    refine rx_aw_s 4 (pc := 28) rfl ?_
    show rx_aw 12 34 [.ref 7, .long a0, rx_no, .int a1] [.long (((Int64.toUInt64 a0) >>> ((Int32.toInt64 (hi 7 0)).toUInt64 &&& Int64.toUInt64 63)).toInt64)] (rx_hF L hi hl v) Q
    exact rx_aw_ret (pc := 34) rfl k
  · have k := k.2 s1_0
    by_cases s1_1 : a1 = (1 : Int32)
    · have k := k.1 s1_1
      refine rx_aw_tsw (pc := 1) (p2 := 35) rfl (by rw [s1_1]; rfl) ?_
      show rx_aw 12 35 [.ref 7, .long a0, rx_no, .int a1] [] (rx_hF L hi hl v) Q
      refine rx_aw_s 6 (pc := 35) rfl ?_
      show rx_aw 12 43 [.ref 7, .long a0, rx_no, .int a1] [.long ((a0 &&& (hl 7 4)) <<< (Int32.toInt64 (1 : Int32) &&& 63))] (rx_hF L hi hl v) Q
      exact rx_aw_ret (pc := 43) rfl k
    · have k := k.2 s1_1
      by_cases s1_2 : a1 = (2 : Int32)
      · have k := k.1 s1_2
        refine rx_aw_tsw (pc := 1) (p2 := 44) rfl (by rw [s1_2]; rfl) ?_
        show rx_aw 12 44 [.ref 7, .long a0, rx_no, .int a1] [] (rx_hF L hi hl v) Q
        refine rx_aw_s 7 (pc := 44) rfl ?_
        show rx_aw 12 55 [.ref 7, .long a0, rx_no, .int a1] [.long ((a0 <<< (Int32.toInt64 (hi 7 0) &&& 63)) &&& (hl 7 2))] (rx_hF L hi hl v) Q
        exact rx_aw_ret (pc := 55) rfl k
      · have k := k.2 s1_2
        have hds1 : ∀ i : Nat, i < 3 → ¬ a1.toInt = 0 + i := by
          intro i hi e
          have := rx_ne_toInt (c := (0 : Int32)) (z := 0) (by decide) s1_0
          have := rx_ne_toInt (c := (1 : Int32)) (z := 1) (by decide) s1_1
          have := rx_ne_toInt (c := (2 : Int32)) (z := 2) (by decide) s1_2
          omega
        refine rx_aw_tsw (pc := 1) (p2 := 56) rfl (rx_tsw_d hds1 (by decide)) ?_
        show rx_aw 12 56 [.ref 7, .long a0, rx_no, .int a1] [] (rx_hF L hi hl v) Q
        refine rx_aw_s 6 (pc := 56) rfl ?_
        show rx_aw 12 64 [.ref 7, .long a0, rx_no, .int a1] [.long (((Int64.toUInt64 (a0 &&& (hl 7 3))) >>> ((Int32.toInt64 (1 : Int32)).toUInt64 &&& Int64.toUInt64 63)).toInt64)] (rx_hF L hi hl v) Q
        exact rx_aw_ret (pc := 64) rfl k
theorem w13_bitCountF {L : Nat} {hi : Nat → Nat → Int32} {hl : Nat → Nat → Int64} {v : Nat → Nat → Option Nat} {Q : Option Value → rx_H → Prop} {a0 : Int64} (k : Q (some (.int ((Int64.toInt32 ((((((((a0 - ((((Int64.toUInt64 a0) >>> ((Int32.toInt64 (1 : Int32)).toUInt64 &&& Int64.toUInt64 63)).toInt64) &&& (6148914691236517205 : Int64))) &&& (3689348814741910323 : Int64)) + ((((Int64.toUInt64 (a0 - ((((Int64.toUInt64 a0) >>> ((Int32.toInt64 (1 : Int32)).toUInt64 &&& Int64.toUInt64 63)).toInt64) &&& (6148914691236517205 : Int64)))) >>> ((Int32.toInt64 (2 : Int32)).toUInt64 &&& Int64.toUInt64 63)).toInt64) &&& (3689348814741910323 : Int64))) + (((Int64.toUInt64 (((a0 - ((((Int64.toUInt64 a0) >>> ((Int32.toInt64 (1 : Int32)).toUInt64 &&& Int64.toUInt64 63)).toInt64) &&& (6148914691236517205 : Int64))) &&& (3689348814741910323 : Int64)) + ((((Int64.toUInt64 (a0 - ((((Int64.toUInt64 a0) >>> ((Int32.toInt64 (1 : Int32)).toUInt64 &&& Int64.toUInt64 63)).toInt64) &&& (6148914691236517205 : Int64)))) >>> ((Int32.toInt64 (2 : Int32)).toUInt64 &&& Int64.toUInt64 63)).toInt64) &&& (3689348814741910323 : Int64)))) >>> ((Int32.toInt64 (4 : Int32)).toUInt64 &&& Int64.toUInt64 63)).toInt64)) &&& (1085102592571150095 : Int64)) + (((Int64.toUInt64 (((((a0 - ((((Int64.toUInt64 a0) >>> ((Int32.toInt64 (1 : Int32)).toUInt64 &&& Int64.toUInt64 63)).toInt64) &&& (6148914691236517205 : Int64))) &&& (3689348814741910323 : Int64)) + ((((Int64.toUInt64 (a0 - ((((Int64.toUInt64 a0) >>> ((Int32.toInt64 (1 : Int32)).toUInt64 &&& Int64.toUInt64 63)).toInt64) &&& (6148914691236517205 : Int64)))) >>> ((Int32.toInt64 (2 : Int32)).toUInt64 &&& Int64.toUInt64 63)).toInt64) &&& (3689348814741910323 : Int64))) + (((Int64.toUInt64 (((a0 - ((((Int64.toUInt64 a0) >>> ((Int32.toInt64 (1 : Int32)).toUInt64 &&& Int64.toUInt64 63)).toInt64) &&& (6148914691236517205 : Int64))) &&& (3689348814741910323 : Int64)) + ((((Int64.toUInt64 (a0 - ((((Int64.toUInt64 a0) >>> ((Int32.toInt64 (1 : Int32)).toUInt64 &&& Int64.toUInt64 63)).toInt64) &&& (6148914691236517205 : Int64)))) >>> ((Int32.toInt64 (2 : Int32)).toUInt64 &&& Int64.toUInt64 63)).toInt64) &&& (3689348814741910323 : Int64)))) >>> ((Int32.toInt64 (4 : Int32)).toUInt64 &&& Int64.toUInt64 63)).toInt64)) &&& (1085102592571150095 : Int64))) >>> ((Int32.toInt64 (8 : Int32)).toUInt64 &&& Int64.toUInt64 63)).toInt64)) + (((Int64.toUInt64 ((((((a0 - ((((Int64.toUInt64 a0) >>> ((Int32.toInt64 (1 : Int32)).toUInt64 &&& Int64.toUInt64 63)).toInt64) &&& (6148914691236517205 : Int64))) &&& (3689348814741910323 : Int64)) + ((((Int64.toUInt64 (a0 - ((((Int64.toUInt64 a0) >>> ((Int32.toInt64 (1 : Int32)).toUInt64 &&& Int64.toUInt64 63)).toInt64) &&& (6148914691236517205 : Int64)))) >>> ((Int32.toInt64 (2 : Int32)).toUInt64 &&& Int64.toUInt64 63)).toInt64) &&& (3689348814741910323 : Int64))) + (((Int64.toUInt64 (((a0 - ((((Int64.toUInt64 a0) >>> ((Int32.toInt64 (1 : Int32)).toUInt64 &&& Int64.toUInt64 63)).toInt64) &&& (6148914691236517205 : Int64))) &&& (3689348814741910323 : Int64)) + ((((Int64.toUInt64 (a0 - ((((Int64.toUInt64 a0) >>> ((Int32.toInt64 (1 : Int32)).toUInt64 &&& Int64.toUInt64 63)).toInt64) &&& (6148914691236517205 : Int64)))) >>> ((Int32.toInt64 (2 : Int32)).toUInt64 &&& Int64.toUInt64 63)).toInt64) &&& (3689348814741910323 : Int64)))) >>> ((Int32.toInt64 (4 : Int32)).toUInt64 &&& Int64.toUInt64 63)).toInt64)) &&& (1085102592571150095 : Int64)) + (((Int64.toUInt64 (((((a0 - ((((Int64.toUInt64 a0) >>> ((Int32.toInt64 (1 : Int32)).toUInt64 &&& Int64.toUInt64 63)).toInt64) &&& (6148914691236517205 : Int64))) &&& (3689348814741910323 : Int64)) + ((((Int64.toUInt64 (a0 - ((((Int64.toUInt64 a0) >>> ((Int32.toInt64 (1 : Int32)).toUInt64 &&& Int64.toUInt64 63)).toInt64) &&& (6148914691236517205 : Int64)))) >>> ((Int32.toInt64 (2 : Int32)).toUInt64 &&& Int64.toUInt64 63)).toInt64) &&& (3689348814741910323 : Int64))) + (((Int64.toUInt64 (((a0 - ((((Int64.toUInt64 a0) >>> ((Int32.toInt64 (1 : Int32)).toUInt64 &&& Int64.toUInt64 63)).toInt64) &&& (6148914691236517205 : Int64))) &&& (3689348814741910323 : Int64)) + ((((Int64.toUInt64 (a0 - ((((Int64.toUInt64 a0) >>> ((Int32.toInt64 (1 : Int32)).toUInt64 &&& Int64.toUInt64 63)).toInt64) &&& (6148914691236517205 : Int64)))) >>> ((Int32.toInt64 (2 : Int32)).toUInt64 &&& Int64.toUInt64 63)).toInt64) &&& (3689348814741910323 : Int64)))) >>> ((Int32.toInt64 (4 : Int32)).toUInt64 &&& Int64.toUInt64 63)).toInt64)) &&& (1085102592571150095 : Int64))) >>> ((Int32.toInt64 (8 : Int32)).toUInt64 &&& Int64.toUInt64 63)).toInt64))) >>> ((Int32.toInt64 (16 : Int32)).toUInt64 &&& Int64.toUInt64 63)).toInt64)) + (((Int64.toUInt64 (((((((a0 - ((((Int64.toUInt64 a0) >>> ((Int32.toInt64 (1 : Int32)).toUInt64 &&& Int64.toUInt64 63)).toInt64) &&& (6148914691236517205 : Int64))) &&& (3689348814741910323 : Int64)) + ((((Int64.toUInt64 (a0 - ((((Int64.toUInt64 a0) >>> ((Int32.toInt64 (1 : Int32)).toUInt64 &&& Int64.toUInt64 63)).toInt64) &&& (6148914691236517205 : Int64)))) >>> ((Int32.toInt64 (2 : Int32)).toUInt64 &&& Int64.toUInt64 63)).toInt64) &&& (3689348814741910323 : Int64))) + (((Int64.toUInt64 (((a0 - ((((Int64.toUInt64 a0) >>> ((Int32.toInt64 (1 : Int32)).toUInt64 &&& Int64.toUInt64 63)).toInt64) &&& (6148914691236517205 : Int64))) &&& (3689348814741910323 : Int64)) + ((((Int64.toUInt64 (a0 - ((((Int64.toUInt64 a0) >>> ((Int32.toInt64 (1 : Int32)).toUInt64 &&& Int64.toUInt64 63)).toInt64) &&& (6148914691236517205 : Int64)))) >>> ((Int32.toInt64 (2 : Int32)).toUInt64 &&& Int64.toUInt64 63)).toInt64) &&& (3689348814741910323 : Int64)))) >>> ((Int32.toInt64 (4 : Int32)).toUInt64 &&& Int64.toUInt64 63)).toInt64)) &&& (1085102592571150095 : Int64)) + (((Int64.toUInt64 (((((a0 - ((((Int64.toUInt64 a0) >>> ((Int32.toInt64 (1 : Int32)).toUInt64 &&& Int64.toUInt64 63)).toInt64) &&& (6148914691236517205 : Int64))) &&& (3689348814741910323 : Int64)) + ((((Int64.toUInt64 (a0 - ((((Int64.toUInt64 a0) >>> ((Int32.toInt64 (1 : Int32)).toUInt64 &&& Int64.toUInt64 63)).toInt64) &&& (6148914691236517205 : Int64)))) >>> ((Int32.toInt64 (2 : Int32)).toUInt64 &&& Int64.toUInt64 63)).toInt64) &&& (3689348814741910323 : Int64))) + (((Int64.toUInt64 (((a0 - ((((Int64.toUInt64 a0) >>> ((Int32.toInt64 (1 : Int32)).toUInt64 &&& Int64.toUInt64 63)).toInt64) &&& (6148914691236517205 : Int64))) &&& (3689348814741910323 : Int64)) + ((((Int64.toUInt64 (a0 - ((((Int64.toUInt64 a0) >>> ((Int32.toInt64 (1 : Int32)).toUInt64 &&& Int64.toUInt64 63)).toInt64) &&& (6148914691236517205 : Int64)))) >>> ((Int32.toInt64 (2 : Int32)).toUInt64 &&& Int64.toUInt64 63)).toInt64) &&& (3689348814741910323 : Int64)))) >>> ((Int32.toInt64 (4 : Int32)).toUInt64 &&& Int64.toUInt64 63)).toInt64)) &&& (1085102592571150095 : Int64))) >>> ((Int32.toInt64 (8 : Int32)).toUInt64 &&& Int64.toUInt64 63)).toInt64)) + (((Int64.toUInt64 ((((((a0 - ((((Int64.toUInt64 a0) >>> ((Int32.toInt64 (1 : Int32)).toUInt64 &&& Int64.toUInt64 63)).toInt64) &&& (6148914691236517205 : Int64))) &&& (3689348814741910323 : Int64)) + ((((Int64.toUInt64 (a0 - ((((Int64.toUInt64 a0) >>> ((Int32.toInt64 (1 : Int32)).toUInt64 &&& Int64.toUInt64 63)).toInt64) &&& (6148914691236517205 : Int64)))) >>> ((Int32.toInt64 (2 : Int32)).toUInt64 &&& Int64.toUInt64 63)).toInt64) &&& (3689348814741910323 : Int64))) + (((Int64.toUInt64 (((a0 - ((((Int64.toUInt64 a0) >>> ((Int32.toInt64 (1 : Int32)).toUInt64 &&& Int64.toUInt64 63)).toInt64) &&& (6148914691236517205 : Int64))) &&& (3689348814741910323 : Int64)) + ((((Int64.toUInt64 (a0 - ((((Int64.toUInt64 a0) >>> ((Int32.toInt64 (1 : Int32)).toUInt64 &&& Int64.toUInt64 63)).toInt64) &&& (6148914691236517205 : Int64)))) >>> ((Int32.toInt64 (2 : Int32)).toUInt64 &&& Int64.toUInt64 63)).toInt64) &&& (3689348814741910323 : Int64)))) >>> ((Int32.toInt64 (4 : Int32)).toUInt64 &&& Int64.toUInt64 63)).toInt64)) &&& (1085102592571150095 : Int64)) + (((Int64.toUInt64 (((((a0 - ((((Int64.toUInt64 a0) >>> ((Int32.toInt64 (1 : Int32)).toUInt64 &&& Int64.toUInt64 63)).toInt64) &&& (6148914691236517205 : Int64))) &&& (3689348814741910323 : Int64)) + ((((Int64.toUInt64 (a0 - ((((Int64.toUInt64 a0) >>> ((Int32.toInt64 (1 : Int32)).toUInt64 &&& Int64.toUInt64 63)).toInt64) &&& (6148914691236517205 : Int64)))) >>> ((Int32.toInt64 (2 : Int32)).toUInt64 &&& Int64.toUInt64 63)).toInt64) &&& (3689348814741910323 : Int64))) + (((Int64.toUInt64 (((a0 - ((((Int64.toUInt64 a0) >>> ((Int32.toInt64 (1 : Int32)).toUInt64 &&& Int64.toUInt64 63)).toInt64) &&& (6148914691236517205 : Int64))) &&& (3689348814741910323 : Int64)) + ((((Int64.toUInt64 (a0 - ((((Int64.toUInt64 a0) >>> ((Int32.toInt64 (1 : Int32)).toUInt64 &&& Int64.toUInt64 63)).toInt64) &&& (6148914691236517205 : Int64)))) >>> ((Int32.toInt64 (2 : Int32)).toUInt64 &&& Int64.toUInt64 63)).toInt64) &&& (3689348814741910323 : Int64)))) >>> ((Int32.toInt64 (4 : Int32)).toUInt64 &&& Int64.toUInt64 63)).toInt64)) &&& (1085102592571150095 : Int64))) >>> ((Int32.toInt64 (8 : Int32)).toUInt64 &&& Int64.toUInt64 63)).toInt64))) >>> ((Int32.toInt64 (16 : Int32)).toUInt64 &&& Int64.toUInt64 63)).toInt64))) >>> ((Int32.toInt64 (32 : Int32)).toUInt64 &&& Int64.toUInt64 63)).toInt64))) &&& (127 : Int32)))) (rx_hF L hi hl v)) : rx_me 13 [.long a0] (rx_hF L hi hl v) Q := by
  show rx_aw 13 0 [.long a0, rx_no] [] (rx_hF L hi hl v) Q
  refine rx_aw_s 48 (pc := 0) rfl ?_
  show rx_aw 13 60 [.long ((((((((a0 - ((((Int64.toUInt64 a0) >>> ((Int32.toInt64 (1 : Int32)).toUInt64 &&& Int64.toUInt64 63)).toInt64) &&& (6148914691236517205 : Int64))) &&& (3689348814741910323 : Int64)) + ((((Int64.toUInt64 (a0 - ((((Int64.toUInt64 a0) >>> ((Int32.toInt64 (1 : Int32)).toUInt64 &&& Int64.toUInt64 63)).toInt64) &&& (6148914691236517205 : Int64)))) >>> ((Int32.toInt64 (2 : Int32)).toUInt64 &&& Int64.toUInt64 63)).toInt64) &&& (3689348814741910323 : Int64))) + (((Int64.toUInt64 (((a0 - ((((Int64.toUInt64 a0) >>> ((Int32.toInt64 (1 : Int32)).toUInt64 &&& Int64.toUInt64 63)).toInt64) &&& (6148914691236517205 : Int64))) &&& (3689348814741910323 : Int64)) + ((((Int64.toUInt64 (a0 - ((((Int64.toUInt64 a0) >>> ((Int32.toInt64 (1 : Int32)).toUInt64 &&& Int64.toUInt64 63)).toInt64) &&& (6148914691236517205 : Int64)))) >>> ((Int32.toInt64 (2 : Int32)).toUInt64 &&& Int64.toUInt64 63)).toInt64) &&& (3689348814741910323 : Int64)))) >>> ((Int32.toInt64 (4 : Int32)).toUInt64 &&& Int64.toUInt64 63)).toInt64)) &&& (1085102592571150095 : Int64)) + (((Int64.toUInt64 (((((a0 - ((((Int64.toUInt64 a0) >>> ((Int32.toInt64 (1 : Int32)).toUInt64 &&& Int64.toUInt64 63)).toInt64) &&& (6148914691236517205 : Int64))) &&& (3689348814741910323 : Int64)) + ((((Int64.toUInt64 (a0 - ((((Int64.toUInt64 a0) >>> ((Int32.toInt64 (1 : Int32)).toUInt64 &&& Int64.toUInt64 63)).toInt64) &&& (6148914691236517205 : Int64)))) >>> ((Int32.toInt64 (2 : Int32)).toUInt64 &&& Int64.toUInt64 63)).toInt64) &&& (3689348814741910323 : Int64))) + (((Int64.toUInt64 (((a0 - ((((Int64.toUInt64 a0) >>> ((Int32.toInt64 (1 : Int32)).toUInt64 &&& Int64.toUInt64 63)).toInt64) &&& (6148914691236517205 : Int64))) &&& (3689348814741910323 : Int64)) + ((((Int64.toUInt64 (a0 - ((((Int64.toUInt64 a0) >>> ((Int32.toInt64 (1 : Int32)).toUInt64 &&& Int64.toUInt64 63)).toInt64) &&& (6148914691236517205 : Int64)))) >>> ((Int32.toInt64 (2 : Int32)).toUInt64 &&& Int64.toUInt64 63)).toInt64) &&& (3689348814741910323 : Int64)))) >>> ((Int32.toInt64 (4 : Int32)).toUInt64 &&& Int64.toUInt64 63)).toInt64)) &&& (1085102592571150095 : Int64))) >>> ((Int32.toInt64 (8 : Int32)).toUInt64 &&& Int64.toUInt64 63)).toInt64)) + (((Int64.toUInt64 ((((((a0 - ((((Int64.toUInt64 a0) >>> ((Int32.toInt64 (1 : Int32)).toUInt64 &&& Int64.toUInt64 63)).toInt64) &&& (6148914691236517205 : Int64))) &&& (3689348814741910323 : Int64)) + ((((Int64.toUInt64 (a0 - ((((Int64.toUInt64 a0) >>> ((Int32.toInt64 (1 : Int32)).toUInt64 &&& Int64.toUInt64 63)).toInt64) &&& (6148914691236517205 : Int64)))) >>> ((Int32.toInt64 (2 : Int32)).toUInt64 &&& Int64.toUInt64 63)).toInt64) &&& (3689348814741910323 : Int64))) + (((Int64.toUInt64 (((a0 - ((((Int64.toUInt64 a0) >>> ((Int32.toInt64 (1 : Int32)).toUInt64 &&& Int64.toUInt64 63)).toInt64) &&& (6148914691236517205 : Int64))) &&& (3689348814741910323 : Int64)) + ((((Int64.toUInt64 (a0 - ((((Int64.toUInt64 a0) >>> ((Int32.toInt64 (1 : Int32)).toUInt64 &&& Int64.toUInt64 63)).toInt64) &&& (6148914691236517205 : Int64)))) >>> ((Int32.toInt64 (2 : Int32)).toUInt64 &&& Int64.toUInt64 63)).toInt64) &&& (3689348814741910323 : Int64)))) >>> ((Int32.toInt64 (4 : Int32)).toUInt64 &&& Int64.toUInt64 63)).toInt64)) &&& (1085102592571150095 : Int64)) + (((Int64.toUInt64 (((((a0 - ((((Int64.toUInt64 a0) >>> ((Int32.toInt64 (1 : Int32)).toUInt64 &&& Int64.toUInt64 63)).toInt64) &&& (6148914691236517205 : Int64))) &&& (3689348814741910323 : Int64)) + ((((Int64.toUInt64 (a0 - ((((Int64.toUInt64 a0) >>> ((Int32.toInt64 (1 : Int32)).toUInt64 &&& Int64.toUInt64 63)).toInt64) &&& (6148914691236517205 : Int64)))) >>> ((Int32.toInt64 (2 : Int32)).toUInt64 &&& Int64.toUInt64 63)).toInt64) &&& (3689348814741910323 : Int64))) + (((Int64.toUInt64 (((a0 - ((((Int64.toUInt64 a0) >>> ((Int32.toInt64 (1 : Int32)).toUInt64 &&& Int64.toUInt64 63)).toInt64) &&& (6148914691236517205 : Int64))) &&& (3689348814741910323 : Int64)) + ((((Int64.toUInt64 (a0 - ((((Int64.toUInt64 a0) >>> ((Int32.toInt64 (1 : Int32)).toUInt64 &&& Int64.toUInt64 63)).toInt64) &&& (6148914691236517205 : Int64)))) >>> ((Int32.toInt64 (2 : Int32)).toUInt64 &&& Int64.toUInt64 63)).toInt64) &&& (3689348814741910323 : Int64)))) >>> ((Int32.toInt64 (4 : Int32)).toUInt64 &&& Int64.toUInt64 63)).toInt64)) &&& (1085102592571150095 : Int64))) >>> ((Int32.toInt64 (8 : Int32)).toUInt64 &&& Int64.toUInt64 63)).toInt64))) >>> ((Int32.toInt64 (16 : Int32)).toUInt64 &&& Int64.toUInt64 63)).toInt64)) + (((Int64.toUInt64 (((((((a0 - ((((Int64.toUInt64 a0) >>> ((Int32.toInt64 (1 : Int32)).toUInt64 &&& Int64.toUInt64 63)).toInt64) &&& (6148914691236517205 : Int64))) &&& (3689348814741910323 : Int64)) + ((((Int64.toUInt64 (a0 - ((((Int64.toUInt64 a0) >>> ((Int32.toInt64 (1 : Int32)).toUInt64 &&& Int64.toUInt64 63)).toInt64) &&& (6148914691236517205 : Int64)))) >>> ((Int32.toInt64 (2 : Int32)).toUInt64 &&& Int64.toUInt64 63)).toInt64) &&& (3689348814741910323 : Int64))) + (((Int64.toUInt64 (((a0 - ((((Int64.toUInt64 a0) >>> ((Int32.toInt64 (1 : Int32)).toUInt64 &&& Int64.toUInt64 63)).toInt64) &&& (6148914691236517205 : Int64))) &&& (3689348814741910323 : Int64)) + ((((Int64.toUInt64 (a0 - ((((Int64.toUInt64 a0) >>> ((Int32.toInt64 (1 : Int32)).toUInt64 &&& Int64.toUInt64 63)).toInt64) &&& (6148914691236517205 : Int64)))) >>> ((Int32.toInt64 (2 : Int32)).toUInt64 &&& Int64.toUInt64 63)).toInt64) &&& (3689348814741910323 : Int64)))) >>> ((Int32.toInt64 (4 : Int32)).toUInt64 &&& Int64.toUInt64 63)).toInt64)) &&& (1085102592571150095 : Int64)) + (((Int64.toUInt64 (((((a0 - ((((Int64.toUInt64 a0) >>> ((Int32.toInt64 (1 : Int32)).toUInt64 &&& Int64.toUInt64 63)).toInt64) &&& (6148914691236517205 : Int64))) &&& (3689348814741910323 : Int64)) + ((((Int64.toUInt64 (a0 - ((((Int64.toUInt64 a0) >>> ((Int32.toInt64 (1 : Int32)).toUInt64 &&& Int64.toUInt64 63)).toInt64) &&& (6148914691236517205 : Int64)))) >>> ((Int32.toInt64 (2 : Int32)).toUInt64 &&& Int64.toUInt64 63)).toInt64) &&& (3689348814741910323 : Int64))) + (((Int64.toUInt64 (((a0 - ((((Int64.toUInt64 a0) >>> ((Int32.toInt64 (1 : Int32)).toUInt64 &&& Int64.toUInt64 63)).toInt64) &&& (6148914691236517205 : Int64))) &&& (3689348814741910323 : Int64)) + ((((Int64.toUInt64 (a0 - ((((Int64.toUInt64 a0) >>> ((Int32.toInt64 (1 : Int32)).toUInt64 &&& Int64.toUInt64 63)).toInt64) &&& (6148914691236517205 : Int64)))) >>> ((Int32.toInt64 (2 : Int32)).toUInt64 &&& Int64.toUInt64 63)).toInt64) &&& (3689348814741910323 : Int64)))) >>> ((Int32.toInt64 (4 : Int32)).toUInt64 &&& Int64.toUInt64 63)).toInt64)) &&& (1085102592571150095 : Int64))) >>> ((Int32.toInt64 (8 : Int32)).toUInt64 &&& Int64.toUInt64 63)).toInt64)) + (((Int64.toUInt64 ((((((a0 - ((((Int64.toUInt64 a0) >>> ((Int32.toInt64 (1 : Int32)).toUInt64 &&& Int64.toUInt64 63)).toInt64) &&& (6148914691236517205 : Int64))) &&& (3689348814741910323 : Int64)) + ((((Int64.toUInt64 (a0 - ((((Int64.toUInt64 a0) >>> ((Int32.toInt64 (1 : Int32)).toUInt64 &&& Int64.toUInt64 63)).toInt64) &&& (6148914691236517205 : Int64)))) >>> ((Int32.toInt64 (2 : Int32)).toUInt64 &&& Int64.toUInt64 63)).toInt64) &&& (3689348814741910323 : Int64))) + (((Int64.toUInt64 (((a0 - ((((Int64.toUInt64 a0) >>> ((Int32.toInt64 (1 : Int32)).toUInt64 &&& Int64.toUInt64 63)).toInt64) &&& (6148914691236517205 : Int64))) &&& (3689348814741910323 : Int64)) + ((((Int64.toUInt64 (a0 - ((((Int64.toUInt64 a0) >>> ((Int32.toInt64 (1 : Int32)).toUInt64 &&& Int64.toUInt64 63)).toInt64) &&& (6148914691236517205 : Int64)))) >>> ((Int32.toInt64 (2 : Int32)).toUInt64 &&& Int64.toUInt64 63)).toInt64) &&& (3689348814741910323 : Int64)))) >>> ((Int32.toInt64 (4 : Int32)).toUInt64 &&& Int64.toUInt64 63)).toInt64)) &&& (1085102592571150095 : Int64)) + (((Int64.toUInt64 (((((a0 - ((((Int64.toUInt64 a0) >>> ((Int32.toInt64 (1 : Int32)).toUInt64 &&& Int64.toUInt64 63)).toInt64) &&& (6148914691236517205 : Int64))) &&& (3689348814741910323 : Int64)) + ((((Int64.toUInt64 (a0 - ((((Int64.toUInt64 a0) >>> ((Int32.toInt64 (1 : Int32)).toUInt64 &&& Int64.toUInt64 63)).toInt64) &&& (6148914691236517205 : Int64)))) >>> ((Int32.toInt64 (2 : Int32)).toUInt64 &&& Int64.toUInt64 63)).toInt64) &&& (3689348814741910323 : Int64))) + (((Int64.toUInt64 (((a0 - ((((Int64.toUInt64 a0) >>> ((Int32.toInt64 (1 : Int32)).toUInt64 &&& Int64.toUInt64 63)).toInt64) &&& (6148914691236517205 : Int64))) &&& (3689348814741910323 : Int64)) + ((((Int64.toUInt64 (a0 - ((((Int64.toUInt64 a0) >>> ((Int32.toInt64 (1 : Int32)).toUInt64 &&& Int64.toUInt64 63)).toInt64) &&& (6148914691236517205 : Int64)))) >>> ((Int32.toInt64 (2 : Int32)).toUInt64 &&& Int64.toUInt64 63)).toInt64) &&& (3689348814741910323 : Int64)))) >>> ((Int32.toInt64 (4 : Int32)).toUInt64 &&& Int64.toUInt64 63)).toInt64)) &&& (1085102592571150095 : Int64))) >>> ((Int32.toInt64 (8 : Int32)).toUInt64 &&& Int64.toUInt64 63)).toInt64))) >>> ((Int32.toInt64 (16 : Int32)).toUInt64 &&& Int64.toUInt64 63)).toInt64))) >>> ((Int32.toInt64 (32 : Int32)).toUInt64 &&& Int64.toUInt64 63)).toInt64)), rx_no] [.int ((Int64.toInt32 ((((((((a0 - ((((Int64.toUInt64 a0) >>> ((Int32.toInt64 (1 : Int32)).toUInt64 &&& Int64.toUInt64 63)).toInt64) &&& (6148914691236517205 : Int64))) &&& (3689348814741910323 : Int64)) + ((((Int64.toUInt64 (a0 - ((((Int64.toUInt64 a0) >>> ((Int32.toInt64 (1 : Int32)).toUInt64 &&& Int64.toUInt64 63)).toInt64) &&& (6148914691236517205 : Int64)))) >>> ((Int32.toInt64 (2 : Int32)).toUInt64 &&& Int64.toUInt64 63)).toInt64) &&& (3689348814741910323 : Int64))) + (((Int64.toUInt64 (((a0 - ((((Int64.toUInt64 a0) >>> ((Int32.toInt64 (1 : Int32)).toUInt64 &&& Int64.toUInt64 63)).toInt64) &&& (6148914691236517205 : Int64))) &&& (3689348814741910323 : Int64)) + ((((Int64.toUInt64 (a0 - ((((Int64.toUInt64 a0) >>> ((Int32.toInt64 (1 : Int32)).toUInt64 &&& Int64.toUInt64 63)).toInt64) &&& (6148914691236517205 : Int64)))) >>> ((Int32.toInt64 (2 : Int32)).toUInt64 &&& Int64.toUInt64 63)).toInt64) &&& (3689348814741910323 : Int64)))) >>> ((Int32.toInt64 (4 : Int32)).toUInt64 &&& Int64.toUInt64 63)).toInt64)) &&& (1085102592571150095 : Int64)) + (((Int64.toUInt64 (((((a0 - ((((Int64.toUInt64 a0) >>> ((Int32.toInt64 (1 : Int32)).toUInt64 &&& Int64.toUInt64 63)).toInt64) &&& (6148914691236517205 : Int64))) &&& (3689348814741910323 : Int64)) + ((((Int64.toUInt64 (a0 - ((((Int64.toUInt64 a0) >>> ((Int32.toInt64 (1 : Int32)).toUInt64 &&& Int64.toUInt64 63)).toInt64) &&& (6148914691236517205 : Int64)))) >>> ((Int32.toInt64 (2 : Int32)).toUInt64 &&& Int64.toUInt64 63)).toInt64) &&& (3689348814741910323 : Int64))) + (((Int64.toUInt64 (((a0 - ((((Int64.toUInt64 a0) >>> ((Int32.toInt64 (1 : Int32)).toUInt64 &&& Int64.toUInt64 63)).toInt64) &&& (6148914691236517205 : Int64))) &&& (3689348814741910323 : Int64)) + ((((Int64.toUInt64 (a0 - ((((Int64.toUInt64 a0) >>> ((Int32.toInt64 (1 : Int32)).toUInt64 &&& Int64.toUInt64 63)).toInt64) &&& (6148914691236517205 : Int64)))) >>> ((Int32.toInt64 (2 : Int32)).toUInt64 &&& Int64.toUInt64 63)).toInt64) &&& (3689348814741910323 : Int64)))) >>> ((Int32.toInt64 (4 : Int32)).toUInt64 &&& Int64.toUInt64 63)).toInt64)) &&& (1085102592571150095 : Int64))) >>> ((Int32.toInt64 (8 : Int32)).toUInt64 &&& Int64.toUInt64 63)).toInt64)) + (((Int64.toUInt64 ((((((a0 - ((((Int64.toUInt64 a0) >>> ((Int32.toInt64 (1 : Int32)).toUInt64 &&& Int64.toUInt64 63)).toInt64) &&& (6148914691236517205 : Int64))) &&& (3689348814741910323 : Int64)) + ((((Int64.toUInt64 (a0 - ((((Int64.toUInt64 a0) >>> ((Int32.toInt64 (1 : Int32)).toUInt64 &&& Int64.toUInt64 63)).toInt64) &&& (6148914691236517205 : Int64)))) >>> ((Int32.toInt64 (2 : Int32)).toUInt64 &&& Int64.toUInt64 63)).toInt64) &&& (3689348814741910323 : Int64))) + (((Int64.toUInt64 (((a0 - ((((Int64.toUInt64 a0) >>> ((Int32.toInt64 (1 : Int32)).toUInt64 &&& Int64.toUInt64 63)).toInt64) &&& (6148914691236517205 : Int64))) &&& (3689348814741910323 : Int64)) + ((((Int64.toUInt64 (a0 - ((((Int64.toUInt64 a0) >>> ((Int32.toInt64 (1 : Int32)).toUInt64 &&& Int64.toUInt64 63)).toInt64) &&& (6148914691236517205 : Int64)))) >>> ((Int32.toInt64 (2 : Int32)).toUInt64 &&& Int64.toUInt64 63)).toInt64) &&& (3689348814741910323 : Int64)))) >>> ((Int32.toInt64 (4 : Int32)).toUInt64 &&& Int64.toUInt64 63)).toInt64)) &&& (1085102592571150095 : Int64)) + (((Int64.toUInt64 (((((a0 - ((((Int64.toUInt64 a0) >>> ((Int32.toInt64 (1 : Int32)).toUInt64 &&& Int64.toUInt64 63)).toInt64) &&& (6148914691236517205 : Int64))) &&& (3689348814741910323 : Int64)) + ((((Int64.toUInt64 (a0 - ((((Int64.toUInt64 a0) >>> ((Int32.toInt64 (1 : Int32)).toUInt64 &&& Int64.toUInt64 63)).toInt64) &&& (6148914691236517205 : Int64)))) >>> ((Int32.toInt64 (2 : Int32)).toUInt64 &&& Int64.toUInt64 63)).toInt64) &&& (3689348814741910323 : Int64))) + (((Int64.toUInt64 (((a0 - ((((Int64.toUInt64 a0) >>> ((Int32.toInt64 (1 : Int32)).toUInt64 &&& Int64.toUInt64 63)).toInt64) &&& (6148914691236517205 : Int64))) &&& (3689348814741910323 : Int64)) + ((((Int64.toUInt64 (a0 - ((((Int64.toUInt64 a0) >>> ((Int32.toInt64 (1 : Int32)).toUInt64 &&& Int64.toUInt64 63)).toInt64) &&& (6148914691236517205 : Int64)))) >>> ((Int32.toInt64 (2 : Int32)).toUInt64 &&& Int64.toUInt64 63)).toInt64) &&& (3689348814741910323 : Int64)))) >>> ((Int32.toInt64 (4 : Int32)).toUInt64 &&& Int64.toUInt64 63)).toInt64)) &&& (1085102592571150095 : Int64))) >>> ((Int32.toInt64 (8 : Int32)).toUInt64 &&& Int64.toUInt64 63)).toInt64))) >>> ((Int32.toInt64 (16 : Int32)).toUInt64 &&& Int64.toUInt64 63)).toInt64)) + (((Int64.toUInt64 (((((((a0 - ((((Int64.toUInt64 a0) >>> ((Int32.toInt64 (1 : Int32)).toUInt64 &&& Int64.toUInt64 63)).toInt64) &&& (6148914691236517205 : Int64))) &&& (3689348814741910323 : Int64)) + ((((Int64.toUInt64 (a0 - ((((Int64.toUInt64 a0) >>> ((Int32.toInt64 (1 : Int32)).toUInt64 &&& Int64.toUInt64 63)).toInt64) &&& (6148914691236517205 : Int64)))) >>> ((Int32.toInt64 (2 : Int32)).toUInt64 &&& Int64.toUInt64 63)).toInt64) &&& (3689348814741910323 : Int64))) + (((Int64.toUInt64 (((a0 - ((((Int64.toUInt64 a0) >>> ((Int32.toInt64 (1 : Int32)).toUInt64 &&& Int64.toUInt64 63)).toInt64) &&& (6148914691236517205 : Int64))) &&& (3689348814741910323 : Int64)) + ((((Int64.toUInt64 (a0 - ((((Int64.toUInt64 a0) >>> ((Int32.toInt64 (1 : Int32)).toUInt64 &&& Int64.toUInt64 63)).toInt64) &&& (6148914691236517205 : Int64)))) >>> ((Int32.toInt64 (2 : Int32)).toUInt64 &&& Int64.toUInt64 63)).toInt64) &&& (3689348814741910323 : Int64)))) >>> ((Int32.toInt64 (4 : Int32)).toUInt64 &&& Int64.toUInt64 63)).toInt64)) &&& (1085102592571150095 : Int64)) + (((Int64.toUInt64 (((((a0 - ((((Int64.toUInt64 a0) >>> ((Int32.toInt64 (1 : Int32)).toUInt64 &&& Int64.toUInt64 63)).toInt64) &&& (6148914691236517205 : Int64))) &&& (3689348814741910323 : Int64)) + ((((Int64.toUInt64 (a0 - ((((Int64.toUInt64 a0) >>> ((Int32.toInt64 (1 : Int32)).toUInt64 &&& Int64.toUInt64 63)).toInt64) &&& (6148914691236517205 : Int64)))) >>> ((Int32.toInt64 (2 : Int32)).toUInt64 &&& Int64.toUInt64 63)).toInt64) &&& (3689348814741910323 : Int64))) + (((Int64.toUInt64 (((a0 - ((((Int64.toUInt64 a0) >>> ((Int32.toInt64 (1 : Int32)).toUInt64 &&& Int64.toUInt64 63)).toInt64) &&& (6148914691236517205 : Int64))) &&& (3689348814741910323 : Int64)) + ((((Int64.toUInt64 (a0 - ((((Int64.toUInt64 a0) >>> ((Int32.toInt64 (1 : Int32)).toUInt64 &&& Int64.toUInt64 63)).toInt64) &&& (6148914691236517205 : Int64)))) >>> ((Int32.toInt64 (2 : Int32)).toUInt64 &&& Int64.toUInt64 63)).toInt64) &&& (3689348814741910323 : Int64)))) >>> ((Int32.toInt64 (4 : Int32)).toUInt64 &&& Int64.toUInt64 63)).toInt64)) &&& (1085102592571150095 : Int64))) >>> ((Int32.toInt64 (8 : Int32)).toUInt64 &&& Int64.toUInt64 63)).toInt64)) + (((Int64.toUInt64 ((((((a0 - ((((Int64.toUInt64 a0) >>> ((Int32.toInt64 (1 : Int32)).toUInt64 &&& Int64.toUInt64 63)).toInt64) &&& (6148914691236517205 : Int64))) &&& (3689348814741910323 : Int64)) + ((((Int64.toUInt64 (a0 - ((((Int64.toUInt64 a0) >>> ((Int32.toInt64 (1 : Int32)).toUInt64 &&& Int64.toUInt64 63)).toInt64) &&& (6148914691236517205 : Int64)))) >>> ((Int32.toInt64 (2 : Int32)).toUInt64 &&& Int64.toUInt64 63)).toInt64) &&& (3689348814741910323 : Int64))) + (((Int64.toUInt64 (((a0 - ((((Int64.toUInt64 a0) >>> ((Int32.toInt64 (1 : Int32)).toUInt64 &&& Int64.toUInt64 63)).toInt64) &&& (6148914691236517205 : Int64))) &&& (3689348814741910323 : Int64)) + ((((Int64.toUInt64 (a0 - ((((Int64.toUInt64 a0) >>> ((Int32.toInt64 (1 : Int32)).toUInt64 &&& Int64.toUInt64 63)).toInt64) &&& (6148914691236517205 : Int64)))) >>> ((Int32.toInt64 (2 : Int32)).toUInt64 &&& Int64.toUInt64 63)).toInt64) &&& (3689348814741910323 : Int64)))) >>> ((Int32.toInt64 (4 : Int32)).toUInt64 &&& Int64.toUInt64 63)).toInt64)) &&& (1085102592571150095 : Int64)) + (((Int64.toUInt64 (((((a0 - ((((Int64.toUInt64 a0) >>> ((Int32.toInt64 (1 : Int32)).toUInt64 &&& Int64.toUInt64 63)).toInt64) &&& (6148914691236517205 : Int64))) &&& (3689348814741910323 : Int64)) + ((((Int64.toUInt64 (a0 - ((((Int64.toUInt64 a0) >>> ((Int32.toInt64 (1 : Int32)).toUInt64 &&& Int64.toUInt64 63)).toInt64) &&& (6148914691236517205 : Int64)))) >>> ((Int32.toInt64 (2 : Int32)).toUInt64 &&& Int64.toUInt64 63)).toInt64) &&& (3689348814741910323 : Int64))) + (((Int64.toUInt64 (((a0 - ((((Int64.toUInt64 a0) >>> ((Int32.toInt64 (1 : Int32)).toUInt64 &&& Int64.toUInt64 63)).toInt64) &&& (6148914691236517205 : Int64))) &&& (3689348814741910323 : Int64)) + ((((Int64.toUInt64 (a0 - ((((Int64.toUInt64 a0) >>> ((Int32.toInt64 (1 : Int32)).toUInt64 &&& Int64.toUInt64 63)).toInt64) &&& (6148914691236517205 : Int64)))) >>> ((Int32.toInt64 (2 : Int32)).toUInt64 &&& Int64.toUInt64 63)).toInt64) &&& (3689348814741910323 : Int64)))) >>> ((Int32.toInt64 (4 : Int32)).toUInt64 &&& Int64.toUInt64 63)).toInt64)) &&& (1085102592571150095 : Int64))) >>> ((Int32.toInt64 (8 : Int32)).toUInt64 &&& Int64.toUInt64 63)).toInt64))) >>> ((Int32.toInt64 (16 : Int32)).toUInt64 &&& Int64.toUInt64 63)).toInt64))) >>> ((Int32.toInt64 (32 : Int32)).toUInt64 &&& Int64.toUInt64 63)).toInt64))) &&& (127 : Int32))] (rx_hF L hi hl v) Q
  exact rx_aw_ret (pc := 60) rfl k
theorem w14_stateOfF {L : Nat} {hi : Nat → Nat → Int32} {hl : Nat → Nat → Int64} {v : Nat → Nat → Option Nat} {Q : Option Value → rx_H → Prop} {a0 : Int32} {a1 : Int32} (k : ((0 ≤ a0 → Q (some (.int (a0 ||| (a1 <<< ((6 : Int32) &&& 31))))) (rx_hF L hi hl v)) ∧ (¬ (0 ≤ a0) → Q (some (.int (-1 : Int32))) (rx_hF L hi hl v)))) : rx_me 14 [.ref 7, .int a0, .int a1] (rx_hF L hi hl v) Q := by
  show rx_aw 14 0 [.ref 7, .int a0, .int a1] [] (rx_hF L hi hl v) Q
  refine rx_aw_s 2 (pc := 0) rfl ?_
  refine rx_w_if (c := 0 ≤ a0) ⟨fun c1 => ?_, fun c1 => ?_⟩
  · have k := k.1 c1
    show rx_aw 14 8 [.ref 7, .int a0, .int a1] [] (rx_hF L hi hl v) Q
    refine rx_aw_s 5 (pc := 8) rfl ?_
    show rx_aw 14 14 [.ref 7, .int a0, .int a1] [.int (a0 ||| (a1 <<< ((6 : Int32) &&& 31)))] (rx_hF L hi hl v) Q
    exact rx_aw_ret (pc := 14) rfl k
  · have k := k.2 c1
    show rx_aw 14 4 [.ref 7, .int a0, .int a1] [] (rx_hF L hi hl v) Q
    refine rx_aw_s 2 (pc := 4) rfl ?_
    show rx_aw 14 14 [.ref 7, .int a0, .int a1] [.int (-1 : Int32)] (rx_hF L hi hl v) Q
    exact rx_aw_ret (pc := 14) rfl k
theorem w15_findLongStepsF {L : Nat} {hi : Nat → Nat → Int32} {hl : Nat → Nat → Int64} {v : Nat → Nat → Option Nat} {Q : Option Value → rx_H → Prop} {a0 : Int32} (k : rx_me 8 [.int a0] (rx_hF L hi hl v) (fun r h2 => ∃ z1 : Int32, r = some (.int z1) ∧ rx_okF L h2 (fun hi1 hl1 v1 => rx_me 16 [.int a0] (rx_hF L hi1 hl1 v1) (fun r h2 => ∃ z2 : Int32, r = some (.int z2) ∧ rx_okF L h2 (fun hi2 hl2 v2 => rx_me 11 [.ref 7, .int z1, .int (z2 ^^^ (2 : Int32))] (rx_hF L hi2 hl2 v2) (fun r h2 => ∃ z3 : Int32, r = some (.int z3) ∧ rx_okF L h2 (fun hi3 hl3 v3 => ((0 ≤ z3 → rx_me 9 [.int z1] (rx_hF L hi3 hl3 v3) (fun r h2 => ∃ z5 : Int64, r = some (.long z5) ∧ rx_okF L h2 (fun hi5 hl5 v5 => rx_me 9 [.int z3] (rx_hF L hi5 hl5 v5) (fun r h2 => ∃ z6 : Int64, r = some (.long z6) ∧ rx_okF L h2 (fun hi6 hl6 v6 => (∃ j7 : Nat, ((256 : Int32) + a0) = nI j7 ∧ j7 < 512 ∧ (∃ j8 : Nat, ((1280 : Int32) + a0) = nI j8 ∧ j8 < 2560 ∧ rx_me 11 [.ref 7, .int z1, .int z2] (rx_hF L (rx_u hi6 10 j8 a0) (rx_u hl6 11 j7 (z5 ||| z6)) v6) (fun r h2 => ∃ z9 : Int32, r = some (.int z9) ∧ rx_okF L h2 (fun hi9 hl9 v9 => rx_me 14 [.ref 7, .int z9, .int z2] (rx_hF L hi9 hl9 v9) (fun r h2 => ∃ z10 : Int32, r = some (.int z10) ∧ rx_okF L h2 (fun hi10 hl10 v10 => (∃ j11 : Nat, ((1536 : Int32) + a0) = nI j11 ∧ j11 < 2560 ∧ rx_me 11 [.ref 7, .int z3, .int (z2 ^^^ (2 : Int32))] (rx_hF L (rx_u hi10 10 j11 z10) hl10 v10) (fun r h2 => ∃ z12 : Int32, r = some (.int z12) ∧ rx_okF L h2 (fun hi12 hl12 v12 => ((z12 < 0 → (∃ j14 : Nat, ((1792 : Int32) + a0) = nI j14 ∧ j14 < 2560 ∧ rx_me 17 [.ref 7, .int a0, .int (3 : Int32), .int ((z2 + (3 : Int32)) &&& (3 : Int32))] (rx_hF L (rx_u hi12 10 j14 (-1 : Int32)) hl12 v12) (fun r h2 => r = none ∧ rx_okF L h2 (fun hi15 hl15 v15 => rx_me 17 [.ref 7, .int a0, .int (4 : Int32), .int ((z2 + (1 : Int32)) &&& (3 : Int32))] (rx_hF L hi15 hl15 v15) (fun r h2 => r = none ∧ rx_okF L h2 (fun hi16 hl16 v16 => Q none (rx_hF L hi16 hl16 v16))))))) ∧ (¬ (z12 < 0) → rx_me 14 [.ref 7, .int z3, .int z2] (rx_hF L hi12 hl12 v12) (fun r h2 => ∃ z17 : Int32, r = some (.int z17) ∧ rx_okF L h2 (fun hi17 hl17 v17 => (∃ j18 : Nat, ((1792 : Int32) + a0) = nI j18 ∧ j18 < 2560 ∧ rx_me 17 [.ref 7, .int a0, .int (3 : Int32), .int ((z2 + (3 : Int32)) &&& (3 : Int32))] (rx_hF L (rx_u hi17 10 j18 z17) hl17 v17) (fun r h2 => r = none ∧ rx_okF L h2 (fun hi19 hl19 v19 => rx_me 17 [.ref 7, .int a0, .int (4 : Int32), .int ((z2 + (1 : Int32)) &&& (3 : Int32))] (rx_hF L hi19 hl19 v19) (fun r h2 => r = none ∧ rx_okF L h2 (fun hi20 hl20 v20 => Q none (rx_hF L hi20 hl20 v20)))))))))))))))))))))))) ∧ (¬ (0 ≤ z3) → Q none (rx_hF L hi3 hl3 v3)))))))))) : rx_me 15 [.ref 7, .int a0] (rx_hF L hi hl v) Q := by
  show rx_aw 15 0 [.ref 7, .int a0, rx_no, rx_no, rx_no, rx_no] [] (rx_hF L hi hl v) Q
  refine rx_aw_s 1 (pc := 0) rfl ?_
  show rx_aw 15 1 [.ref 7, .int a0, rx_no, rx_no, rx_no, rx_no] [.int a0] (rx_hF L hi hl v) Q
  refine rx_w_callI (j := 8) (pc := 1) rfl rfl rfl rfl rfl ?_
  refine rx_aw.mono k (fun r h2 k => ?_)
  obtain ⟨z1, rfl, hi1, hl1, v1, rfl, k⟩ := k
  refine ⟨z1, rfl, ?_⟩
  show rx_aw 15 4 [.ref 7, .int a0, rx_no, rx_no, rx_no, rx_no] [.int z1] (rx_hF L hi1 hl1 v1) Q
  refine rx_aw_s 2 (pc := 4) rfl ?_
  show rx_aw 15 6 [.ref 7, .int a0, .int z1, rx_no, rx_no, rx_no] [.int a0] (rx_hF L hi1 hl1 v1) Q
  refine rx_w_callI (j := 16) (pc := 6) rfl rfl rfl rfl rfl ?_
  refine rx_aw.mono k (fun r h2 k => ?_)
  obtain ⟨z2, rfl, hi2, hl2, v2, rfl, k⟩ := k
  refine ⟨z2, rfl, ?_⟩
  show rx_aw 15 9 [.ref 7, .int a0, .int z1, rx_no, rx_no, rx_no] [.int z2] (rx_hF L hi2 hl2 v2) Q
  refine rx_aw_s 6 (pc := 9) rfl ?_
  show rx_aw 15 15 [.ref 7, .int a0, .int z1, .int z2, rx_no, rx_no] [.int (z2 ^^^ (2 : Int32)), .int z1, .ref 7] (rx_hF L hi2 hl2 v2) Q
  refine rx_w_callI (j := 11) (pc := 15) rfl rfl rfl rfl rfl ?_
  refine rx_aw.mono k (fun r h2 k => ?_)
  obtain ⟨z3, rfl, hi3, hl3, v3, rfl, k⟩ := k
  refine ⟨z3, rfl, ?_⟩
  show rx_aw 15 18 [.ref 7, .int a0, .int z1, .int z2, rx_no, rx_no] [.int z3] (rx_hF L hi3 hl3 v3) Q
  refine rx_aw_s 3 (pc := 18) rfl ?_
  refine rx_w_if (c := 0 ≤ z3) ⟨fun c4 => ?_, fun c4 => ?_⟩
  · have k := k.1 c4
    show rx_aw 15 26 [.ref 7, .int a0, .int z1, .int z2, .int z3, rx_no] [] (rx_hF L hi3 hl3 v3) Q
    refine rx_aw_s 6 (pc := 26) rfl ?_
    show rx_aw 15 36 [.ref 7, .int a0, .int z1, .int z2, .int z3, rx_no] [.int z1, .int ((256 : Int32) + a0), .ref 11] (rx_hF L hi3 hl3 v3) Q
    refine rx_w_callL (j := 9) (pc := 36) rfl rfl rfl rfl rfl ?_
    refine rx_aw.mono k (fun r h2 k => ?_)
    obtain ⟨z5, rfl, hi5, hl5, v5, rfl, k⟩ := k
    refine ⟨z5, rfl, ?_⟩
    show rx_aw 15 39 [.ref 7, .int a0, .int z1, .int z2, .int z3, rx_no] [.long z5, .int ((256 : Int32) + a0), .ref 11] (rx_hF L hi5 hl5 v5) Q
    refine rx_aw_s 1 (pc := 39) rfl ?_
    show rx_aw 15 41 [.ref 7, .int a0, .int z1, .int z2, .int z3, rx_no] [.int z3, .long z5, .int ((256 : Int32) + a0), .ref 11] (rx_hF L hi5 hl5 v5) Q
    refine rx_w_callL (j := 9) (pc := 41) rfl rfl rfl rfl rfl ?_
    refine rx_aw.mono k (fun r h2 k => ?_)
    obtain ⟨z6, rfl, hi6, hl6, v6, rfl, k⟩ := k
    refine ⟨z6, rfl, ?_⟩
    show rx_aw 15 44 [.ref 7, .int a0, .int z1, .int z2, .int z3, rx_no] [.long z6, .long z5, .int ((256 : Int32) + a0), .ref 11] (rx_hF L hi6 hl6 v6) Q
    refine rx_aw_s 1 (pc := 44) rfl ?_
    show rx_aw 15 45 [.ref 7, .int a0, .int z1, .int z2, .int z3, rx_no] [.long (z5 ||| z6), .int ((256 : Int32) + a0), .ref 11] (rx_hF L hi6 hl6 v6) Q
    obtain ⟨j7, ej7, hj7, k⟩ := k
    refine rx_aw_last (pc := 45) (n := 512) j7 ej7 rfl rfl (by decide) rfl hj7 (by decide) ?_
    show rx_aw 15 46 [.ref 7, .int a0, .int z1, .int z2, .int z3, rx_no] [] (rx_hF L hi6 (rx_u hl6 11 j7 (z5 ||| z6)) v6) Q
    refine rx_aw_s 6 (pc := 46) rfl ?_
    show rx_aw 15 56 [.ref 7, .int a0, .int z1, .int z2, .int z3, rx_no] [.int a0, .int ((1280 : Int32) + a0), .ref 10] (rx_hF L hi6 (rx_u hl6 11 j7 (z5 ||| z6)) v6) Q
    obtain ⟨j8, ej8, hj8, k⟩ := k
    refine rx_aw_iast (pc := 56) (n := 2560) j8 ej8 rfl rfl (by decide) rfl hj8 (by decide) ?_
    show rx_aw 15 57 [.ref 7, .int a0, .int z1, .int z2, .int z3, rx_no] [] (rx_hF L (rx_u hi6 10 j8 a0) (rx_u hl6 11 j7 (z5 ||| z6)) v6) Q
    refine rx_aw_s 9 (pc := 57) rfl ?_
    show rx_aw 15 70 [.ref 7, .int a0, .int z1, .int z2, .int z3, rx_no] [.int z2, .int z1, .ref 7, .ref 7, .int ((1536 : Int32) + a0), .ref 10] (rx_hF L (rx_u hi6 10 j8 a0) (rx_u hl6 11 j7 (z5 ||| z6)) v6) Q
    refine rx_w_callI (j := 11) (pc := 70) rfl rfl rfl rfl rfl ?_
    refine rx_aw.mono k (fun r h2 k => ?_)
    obtain ⟨z9, rfl, hi9, hl9, v9, rfl, k⟩ := k
    refine ⟨z9, rfl, ?_⟩
    show rx_aw 15 73 [.ref 7, .int a0, .int z1, .int z2, .int z3, rx_no] [.int z9, .ref 7, .int ((1536 : Int32) + a0), .ref 10] (rx_hF L hi9 hl9 v9) Q
    refine rx_aw_s 1 (pc := 73) rfl ?_
    show rx_aw 15 74 [.ref 7, .int a0, .int z1, .int z2, .int z3, rx_no] [.int z2, .int z9, .ref 7, .int ((1536 : Int32) + a0), .ref 10] (rx_hF L hi9 hl9 v9) Q
    refine rx_w_callI (j := 14) (pc := 74) rfl rfl rfl rfl rfl ?_
    refine rx_aw.mono k (fun r h2 k => ?_)
    obtain ⟨z10, rfl, hi10, hl10, v10, rfl, k⟩ := k
    refine ⟨z10, rfl, ?_⟩
    show rx_aw 15 77 [.ref 7, .int a0, .int z1, .int z2, .int z3, rx_no] [.int z10, .int ((1536 : Int32) + a0), .ref 10] (rx_hF L hi10 hl10 v10) Q
    obtain ⟨j11, ej11, hj11, k⟩ := k
    refine rx_aw_iast (pc := 77) (n := 2560) j11 ej11 rfl rfl (by decide) rfl hj11 (by decide) ?_
    show rx_aw 15 78 [.ref 7, .int a0, .int z1, .int z2, .int z3, rx_no] [] (rx_hF L (rx_u hi10 10 j11 z10) hl10 v10) Q
    refine rx_aw_s 5 (pc := 78) rfl ?_
    show rx_aw 15 84 [.ref 7, .int a0, .int z1, .int z2, .int z3, rx_no] [.int (z2 ^^^ (2 : Int32)), .int z3, .ref 7] (rx_hF L (rx_u hi10 10 j11 z10) hl10 v10) Q
    refine rx_w_callI (j := 11) (pc := 84) rfl rfl rfl rfl rfl ?_
    refine rx_aw.mono k (fun r h2 k => ?_)
    obtain ⟨z12, rfl, hi12, hl12, v12, rfl, k⟩ := k
    refine ⟨z12, rfl, ?_⟩
    show rx_aw 15 87 [.ref 7, .int a0, .int z1, .int z2, .int z3, rx_no] [.int z12] (rx_hF L hi12 hl12 v12) Q
    refine rx_aw_s 1 (pc := 87) rfl ?_
    refine rx_w_if (c := z12 < 0) ⟨fun c13F => ?_, fun c13F => ?_⟩
    · have k := k.1 c13F
      show rx_aw 15 94 [.ref 7, .int a0, .int z1, .int z2, .int z3, rx_no] [] (rx_hF L hi12 hl12 v12) Q
      refine rx_aw_s 10 (pc := 94) rfl ?_
      show rx_aw 15 122 [.ref 7, .int a0, .int z1, .int z2, .int z3, .int (0 : Int32)] [.int (-1 : Int32), .int ((1792 : Int32) + a0), .ref 10] (rx_hF L hi12 hl12 v12) Q
      obtain ⟨j14, ej14, hj14, k⟩ := k
      refine rx_aw_iast (pc := 122) (n := 2560) j14 ej14 rfl rfl (by decide) rfl hj14 (by decide) ?_
      show rx_aw 15 123 [.ref 7, .int a0, .int z1, .int z2, .int z3, .int (0 : Int32)] [] (rx_hF L (rx_u hi12 10 j14 (-1 : Int32)) hl12 v12) Q
      refine rx_aw_s 8 (pc := 123) rfl ?_
      show rx_aw 15 131 [.ref 7, .int a0, .int z1, .int z2, .int z3, .int (0 : Int32)] [.int ((z2 + (3 : Int32)) &&& (3 : Int32)), .int (3 : Int32), .int a0, .ref 7] (rx_hF L (rx_u hi12 10 j14 (-1 : Int32)) hl12 v12) Q
      refine rx_w_callV (j := 17) (pc := 131) rfl rfl rfl rfl rfl ?_
      refine rx_aw.mono k (fun r h2 k => ?_)
      obtain ⟨rfl, hi15, hl15, v15, rfl, k⟩ := k
      refine ⟨rfl, ?_⟩
      show rx_aw 15 134 [.ref 7, .int a0, .int z1, .int z2, .int z3, .int (0 : Int32)] [] (rx_hF L hi15 hl15 v15) Q
      refine rx_aw_s 8 (pc := 134) rfl ?_
      show rx_aw 15 142 [.ref 7, .int a0, .int z1, .int z2, .int z3, .int (0 : Int32)] [.int ((z2 + (1 : Int32)) &&& (3 : Int32)), .int (4 : Int32), .int a0, .ref 7] (rx_hF L hi15 hl15 v15) Q
      refine rx_w_callV (j := 17) (pc := 142) rfl rfl rfl rfl rfl ?_
      refine rx_aw.mono k (fun r h2 k => ?_)
      obtain ⟨rfl, hi16, hl16, v16, rfl, k⟩ := k
      refine ⟨rfl, ?_⟩
      show rx_aw 15 145 [.ref 7, .int a0, .int z1, .int z2, .int z3, .int (0 : Int32)] [] (rx_hF L hi16 hl16 v16) Q
      exact rx_aw_ret (pc := 145) rfl k
    · have k := k.2 c13F
      show rx_aw 15 90 [.ref 7, .int a0, .int z1, .int z2, .int z3, rx_no] [] (rx_hF L hi12 hl12 v12) Q
      refine rx_aw_s 13 (pc := 90) rfl ?_
      show rx_aw 15 115 [.ref 7, .int a0, .int z1, .int z2, .int z3, .int (1 : Int32)] [.int z2, .int z3, .ref 7, .int ((1792 : Int32) + a0), .ref 10] (rx_hF L hi12 hl12 v12) Q
      refine rx_w_callI (j := 14) (pc := 115) rfl rfl rfl rfl rfl ?_
      refine rx_aw.mono k (fun r h2 k => ?_)
      obtain ⟨z17, rfl, hi17, hl17, v17, rfl, k⟩ := k
      refine ⟨z17, rfl, ?_⟩
      show rx_aw 15 118 [.ref 7, .int a0, .int z1, .int z2, .int z3, .int (1 : Int32)] [.int z17, .int ((1792 : Int32) + a0), .ref 10] (rx_hF L hi17 hl17 v17) Q
      refine rx_aw_s 1 (pc := 118) rfl ?_
      show rx_aw 15 122 [.ref 7, .int a0, .int z1, .int z2, .int z3, .int (1 : Int32)] [.int z17, .int ((1792 : Int32) + a0), .ref 10] (rx_hF L hi17 hl17 v17) Q
      obtain ⟨j18, ej18, hj18, k⟩ := k
      refine rx_aw_iast (pc := 122) (n := 2560) j18 ej18 rfl rfl (by decide) rfl hj18 (by decide) ?_
      show rx_aw 15 123 [.ref 7, .int a0, .int z1, .int z2, .int z3, .int (1 : Int32)] [] (rx_hF L (rx_u hi17 10 j18 z17) hl17 v17) Q
      refine rx_aw_s 8 (pc := 123) rfl ?_
      show rx_aw 15 131 [.ref 7, .int a0, .int z1, .int z2, .int z3, .int (1 : Int32)] [.int ((z2 + (3 : Int32)) &&& (3 : Int32)), .int (3 : Int32), .int a0, .ref 7] (rx_hF L (rx_u hi17 10 j18 z17) hl17 v17) Q
      refine rx_w_callV (j := 17) (pc := 131) rfl rfl rfl rfl rfl ?_
      refine rx_aw.mono k (fun r h2 k => ?_)
      obtain ⟨rfl, hi19, hl19, v19, rfl, k⟩ := k
      refine ⟨rfl, ?_⟩
      show rx_aw 15 134 [.ref 7, .int a0, .int z1, .int z2, .int z3, .int (1 : Int32)] [] (rx_hF L hi19 hl19 v19) Q
      refine rx_aw_s 8 (pc := 134) rfl ?_
      show rx_aw 15 142 [.ref 7, .int a0, .int z1, .int z2, .int z3, .int (1 : Int32)] [.int ((z2 + (1 : Int32)) &&& (3 : Int32)), .int (4 : Int32), .int a0, .ref 7] (rx_hF L hi19 hl19 v19) Q
      refine rx_w_callV (j := 17) (pc := 142) rfl rfl rfl rfl rfl ?_
      refine rx_aw.mono k (fun r h2 k => ?_)
      obtain ⟨rfl, hi20, hl20, v20, rfl, k⟩ := k
      refine ⟨rfl, ?_⟩
      show rx_aw 15 145 [.ref 7, .int a0, .int z1, .int z2, .int z3, .int (1 : Int32)] [] (rx_hF L hi20 hl20 v20) Q
      exact rx_aw_ret (pc := 145) rfl k
  · have k := k.2 c4
    show rx_aw 15 25 [.ref 7, .int a0, .int z1, .int z2, .int z3, rx_no] [] (rx_hF L hi3 hl3 v3) Q
    exact rx_aw_ret (pc := 25) rfl k
theorem w16_headingOfF {L : Nat} {hi : Nat → Nat → Int32} {hl : Nat → Nat → Int64} {v : Nat → Nat → Option Nat} {Q : Option Value → rx_H → Prop} {a0 : Int32} (k : Q (some (.int ((a0 >>> ((6 : Int32) &&& 31)) &&& (3 : Int32)))) (rx_hF L hi hl v)) : rx_me 16 [.int a0] (rx_hF L hi hl v) Q := by
  show rx_aw 16 0 [.int a0] [] (rx_hF L hi hl v) Q
  refine rx_aw_s 5 (pc := 0) rfl ?_
  show rx_aw 16 6 [.int a0] [.int ((a0 >>> ((6 : Int32) &&& 31)) &&& (3 : Int32))] (rx_hF L hi hl v) Q
  exact rx_aw_ret (pc := 6) rfl k
theorem w17_findTurnF {L : Nat} {hi : Nat → Nat → Int32} {hl : Nat → Nat → Int64} {v : Nat → Nat → Option Nat} {Q : Option Value → rx_H → Prop} {a0 : Int32} {a1 : Int32} {a2 : Int32} (k : rx_me 8 [.int a0] (rx_hF L hi hl v) (fun r h2 => ∃ z1 : Int32, r = some (.int z1) ∧ rx_okF L h2 (fun hi1 hl1 v1 => rx_me 11 [.ref 7, .int z1, .int a2] (rx_hF L hi1 hl1 v1) (fun r h2 => ∃ z2 : Int32, r = some (.int z2) ∧ rx_okF L h2 (fun hi2 hl2 v2 => rx_me 8 [.int a0] (rx_hF L hi2 hl2 v2) (fun r h2 => ∃ z3 : Int32, r = some (.int z3) ∧ rx_okF L h2 (fun hi3 hl3 v3 => rx_me 16 [.int a0] (rx_hF L hi3 hl3 v3) (fun r h2 => ∃ z4 : Int32, r = some (.int z4) ∧ rx_okF L h2 (fun hi4 hl4 v4 => rx_me 11 [.ref 7, .int z3, .int (z4 ^^^ (2 : Int32))] (rx_hF L hi4 hl4 v4) (fun r h2 => ∃ z5 : Int32, r = some (.int z5) ∧ rx_okF L h2 (fun hi5 hl5 v5 => rx_me 11 [.ref 7, .int z5, .int a2] (rx_hF L hi5 hl5 v5) (fun r h2 => ∃ z6 : Int32, r = some (.int z6) ∧ rx_okF L h2 (fun hi6 hl6 v6 => ((z2 < 0 → Q none (rx_hF L hi6 hl6 v6)) ∧ (¬ (z2 < 0) → ((z6 < 0 → Q none (rx_hF L hi6 hl6 v6)) ∧ (¬ (z6 < 0) → rx_me 14 [.ref 7, .int z6, .int a2] (rx_hF L hi6 hl6 v6) (fun r h2 => ∃ z9 : Int32, r = some (.int z9) ∧ rx_okF L h2 (fun hi9 hl9 v9 => (∃ j10 : Nat, (((1280 : Int32) + (a1 * (256 : Int32))) + a0) = nI j10 ∧ j10 < 2560 ∧ (∃ j11 : Nat, ((256 : Int32) + a0) = nI j11 ∧ j11 < 512 ∧ rx_me 9 [.int z6] (rx_hF L (rx_u hi9 10 j10 z9) hl9 v9) (fun r h2 => ∃ z12 : Int64, r = some (.long z12) ∧ rx_okF L h2 (fun hi12 hl12 v12 => rx_me 9 [.int z2] (rx_hF L hi12 hl12 v12) (fun r h2 => ∃ z13 : Int64, r = some (.long z13) ∧ rx_okF L h2 (fun hi13 hl13 v13 => (∃ j14 : Nat, (((a1 - (3 : Int32)) * (256 : Int32)) + a0) = nI j14 ∧ j14 < 512 ∧ Q none (rx_hF L hi13 (rx_u hl13 12 j14 (((hl9 11 j11) ||| z12) ||| z13)) v13))))))))))))))))))))))))))) : rx_me 17 [.ref 7, .int a0, .int a1, .int a2] (rx_hF L hi hl v) Q := by
  show rx_aw 17 0 [.ref 7, .int a0, .int a1, .int a2, rx_no, rx_no] [] (rx_hF L hi hl v) Q
  refine rx_aw_s 2 (pc := 0) rfl ?_
  show rx_aw 17 2 [.ref 7, .int a0, .int a1, .int a2, rx_no, rx_no] [.int a0, .ref 7] (rx_hF L hi hl v) Q
  refine rx_w_callI (j := 8) (pc := 2) rfl rfl rfl rfl rfl ?_
  refine rx_aw.mono k (fun r h2 k => ?_)
  obtain ⟨z1, rfl, hi1, hl1, v1, rfl, k⟩ := k
  refine ⟨z1, rfl, ?_⟩
  show rx_aw 17 5 [.ref 7, .int a0, .int a1, .int a2, rx_no, rx_no] [.int z1, .ref 7] (rx_hF L hi1 hl1 v1) Q
  refine rx_aw_s 1 (pc := 5) rfl ?_
  show rx_aw 17 6 [.ref 7, .int a0, .int a1, .int a2, rx_no, rx_no] [.int a2, .int z1, .ref 7] (rx_hF L hi1 hl1 v1) Q
  refine rx_w_callI (j := 11) (pc := 6) rfl rfl rfl rfl rfl ?_
  refine rx_aw.mono k (fun r h2 k => ?_)
  obtain ⟨z2, rfl, hi2, hl2, v2, rfl, k⟩ := k
  refine ⟨z2, rfl, ?_⟩
  show rx_aw 17 9 [.ref 7, .int a0, .int a1, .int a2, rx_no, rx_no] [.int z2] (rx_hF L hi2 hl2 v2) Q
  refine rx_aw_s 4 (pc := 9) rfl ?_
  show rx_aw 17 14 [.ref 7, .int a0, .int a1, .int a2, .int z2, rx_no] [.int a0, .ref 7, .ref 7] (rx_hF L hi2 hl2 v2) Q
  refine rx_w_callI (j := 8) (pc := 14) rfl rfl rfl rfl rfl ?_
  refine rx_aw.mono k (fun r h2 k => ?_)
  obtain ⟨z3, rfl, hi3, hl3, v3, rfl, k⟩ := k
  refine ⟨z3, rfl, ?_⟩
  show rx_aw 17 17 [.ref 7, .int a0, .int a1, .int a2, .int z2, rx_no] [.int z3, .ref 7, .ref 7] (rx_hF L hi3 hl3 v3) Q
  refine rx_aw_s 1 (pc := 17) rfl ?_
  show rx_aw 17 18 [.ref 7, .int a0, .int a1, .int a2, .int z2, rx_no] [.int a0, .int z3, .ref 7, .ref 7] (rx_hF L hi3 hl3 v3) Q
  refine rx_w_callI (j := 16) (pc := 18) rfl rfl rfl rfl rfl ?_
  refine rx_aw.mono k (fun r h2 k => ?_)
  obtain ⟨z4, rfl, hi4, hl4, v4, rfl, k⟩ := k
  refine ⟨z4, rfl, ?_⟩
  show rx_aw 17 21 [.ref 7, .int a0, .int a1, .int a2, .int z2, rx_no] [.int z4, .int z3, .ref 7, .ref 7] (rx_hF L hi4 hl4 v4) Q
  refine rx_aw_s 2 (pc := 21) rfl ?_
  show rx_aw 17 23 [.ref 7, .int a0, .int a1, .int a2, .int z2, rx_no] [.int (z4 ^^^ (2 : Int32)), .int z3, .ref 7, .ref 7] (rx_hF L hi4 hl4 v4) Q
  refine rx_w_callI (j := 11) (pc := 23) rfl rfl rfl rfl rfl ?_
  refine rx_aw.mono k (fun r h2 k => ?_)
  obtain ⟨z5, rfl, hi5, hl5, v5, rfl, k⟩ := k
  refine ⟨z5, rfl, ?_⟩
  show rx_aw 17 26 [.ref 7, .int a0, .int a1, .int a2, .int z2, rx_no] [.int z5, .ref 7] (rx_hF L hi5 hl5 v5) Q
  refine rx_aw_s 1 (pc := 26) rfl ?_
  show rx_aw 17 27 [.ref 7, .int a0, .int a1, .int a2, .int z2, rx_no] [.int a2, .int z5, .ref 7] (rx_hF L hi5 hl5 v5) Q
  refine rx_w_callI (j := 11) (pc := 27) rfl rfl rfl rfl rfl ?_
  refine rx_aw.mono k (fun r h2 k => ?_)
  obtain ⟨z6, rfl, hi6, hl6, v6, rfl, k⟩ := k
  refine ⟨z6, rfl, ?_⟩
  show rx_aw 17 30 [.ref 7, .int a0, .int a1, .int a2, .int z2, rx_no] [.int z6] (rx_hF L hi6 hl6 v6) Q
  refine rx_aw_s 3 (pc := 30) rfl ?_
  refine rx_w_if (c := z2 < 0) ⟨fun c7 => ?_, fun c7 => ?_⟩
  · have k := k.1 c7
    show rx_aw 17 101 [.ref 7, .int a0, .int a1, .int a2, .int z2, .int z6] [] (rx_hF L hi6 hl6 v6) Q
    exact rx_aw_ret (pc := 101) rfl k
  · have k := k.2 c7
    show rx_aw 17 37 [.ref 7, .int a0, .int a1, .int a2, .int z2, .int z6] [] (rx_hF L hi6 hl6 v6) Q
    refine rx_aw_s 2 (pc := 37) rfl ?_
    refine rx_w_if (c := z6 < 0) ⟨fun c8F => ?_, fun c8F => ?_⟩
    · have k := k.1 c8F
      show rx_aw 17 101 [.ref 7, .int a0, .int a1, .int a2, .int z2, .int z6] [] (rx_hF L hi6 hl6 v6) Q
      exact rx_aw_ret (pc := 101) rfl k
    · have k := k.2 c8F
      show rx_aw 17 42 [.ref 7, .int a0, .int a1, .int a2, .int z2, .int z6] [] (rx_hF L hi6 hl6 v6) Q
      refine rx_aw_s 12 (pc := 42) rfl ?_
      show rx_aw 17 61 [.ref 7, .int a0, .int a1, .int a2, .int z2, .int z6] [.int a2, .int z6, .ref 7, .int (((1280 : Int32) + (a1 * (256 : Int32))) + a0), .ref 10] (rx_hF L hi6 hl6 v6) Q
      refine rx_w_callI (j := 14) (pc := 61) rfl rfl rfl rfl rfl ?_
      refine rx_aw.mono k (fun r h2 k => ?_)
      obtain ⟨z9, rfl, hi9, hl9, v9, rfl, k⟩ := k
      refine ⟨z9, rfl, ?_⟩
      show rx_aw 17 64 [.ref 7, .int a0, .int a1, .int a2, .int z2, .int z6] [.int z9, .int (((1280 : Int32) + (a1 * (256 : Int32))) + a0), .ref 10] (rx_hF L hi9 hl9 v9) Q
      obtain ⟨j10, ej10, hj10, k⟩ := k
      refine rx_aw_iast (pc := 64) (n := 2560) j10 ej10 rfl rfl (by decide) rfl hj10 (by decide) ?_
      show rx_aw 17 65 [.ref 7, .int a0, .int a1, .int a2, .int z2, .int z6] [] (rx_hF L (rx_u hi9 10 j10 z9) hl9 v9) Q
      refine rx_aw_s 14 (pc := 65) rfl ?_
      show rx_aw 17 87 [.ref 7, .int a0, .int a1, .int a2, .int z2, .int z6] [.int ((256 : Int32) + a0), .ref 11, .int (((a1 - (3 : Int32)) * (256 : Int32)) + a0), .ref 12] (rx_hF L (rx_u hi9 10 j10 z9) hl9 v9) Q
      obtain ⟨j11, ej11, hj11, k⟩ := k
      refine rx_aw_lald (pc := 87) (n := 512) j11 ej11 rfl rfl (by decide) rfl hj11 (by decide) ?_
      show rx_aw 17 88 [.ref 7, .int a0, .int a1, .int a2, .int z2, .int z6] [.long (hl9 11 j11), .int (((a1 - (3 : Int32)) * (256 : Int32)) + a0), .ref 12] (rx_hF L (rx_u hi9 10 j10 z9) hl9 v9) Q
      refine rx_aw_s 1 (pc := 88) rfl ?_
      show rx_aw 17 90 [.ref 7, .int a0, .int a1, .int a2, .int z2, .int z6] [.int z6, .long (hl9 11 j11), .int (((a1 - (3 : Int32)) * (256 : Int32)) + a0), .ref 12] (rx_hF L (rx_u hi9 10 j10 z9) hl9 v9) Q
      refine rx_w_callL (j := 9) (pc := 90) rfl rfl rfl rfl rfl ?_
      refine rx_aw.mono k (fun r h2 k => ?_)
      obtain ⟨z12, rfl, hi12, hl12, v12, rfl, k⟩ := k
      refine ⟨z12, rfl, ?_⟩
      show rx_aw 17 93 [.ref 7, .int a0, .int a1, .int a2, .int z2, .int z6] [.long z12, .long (hl9 11 j11), .int (((a1 - (3 : Int32)) * (256 : Int32)) + a0), .ref 12] (rx_hF L hi12 hl12 v12) Q
      refine rx_aw_s 2 (pc := 93) rfl ?_
      show rx_aw 17 96 [.ref 7, .int a0, .int a1, .int a2, .int z2, .int z6] [.int z2, .long ((hl9 11 j11) ||| z12), .int (((a1 - (3 : Int32)) * (256 : Int32)) + a0), .ref 12] (rx_hF L hi12 hl12 v12) Q
      refine rx_w_callL (j := 9) (pc := 96) rfl rfl rfl rfl rfl ?_
      refine rx_aw.mono k (fun r h2 k => ?_)
      obtain ⟨z13, rfl, hi13, hl13, v13, rfl, k⟩ := k
      refine ⟨z13, rfl, ?_⟩
      show rx_aw 17 99 [.ref 7, .int a0, .int a1, .int a2, .int z2, .int z6] [.long z13, .long ((hl9 11 j11) ||| z12), .int (((a1 - (3 : Int32)) * (256 : Int32)) + a0), .ref 12] (rx_hF L hi13 hl13 v13) Q
      refine rx_aw_s 1 (pc := 99) rfl ?_
      show rx_aw 17 100 [.ref 7, .int a0, .int a1, .int a2, .int z2, .int z6] [.long (((hl9 11 j11) ||| z12) ||| z13), .int (((a1 - (3 : Int32)) * (256 : Int32)) + a0), .ref 12] (rx_hF L hi13 hl13 v13) Q
      obtain ⟨j14, ej14, hj14, k⟩ := k
      refine rx_aw_last (pc := 100) (n := 512) j14 ej14 rfl rfl (by decide) rfl hj14 (by decide) ?_
      show rx_aw 17 101 [.ref 7, .int a0, .int a1, .int a2, .int z2, .int z6] [] (rx_hF L hi13 (rx_u hl13 12 j14 (((hl9 11 j11) ||| z12) ||| z13)) v13) Q
      exact rx_aw_ret (pc := 101) rfl k
section RXF7
variable {L : Nat} {hi : Nat → Nat → Int32} {hl : Nat → Nat → Int64} {v : Nat → Nat → Option Nat}
variable {RI : Int32 → (Nat → Nat → Int32) → (Nat → Nat → Int64) → (Nat → Nat → Option Nat) → Prop}
variable {RL : Int64 → (Nat → Nat → Int32) → (Nat → Nat → Int64) → (Nat → Nat → Option Nat) → Prop}
variable {RV : (Nat → Nat → Int32) → (Nat → Nat → Int64) → (Nat → Nat → Option Nat) → Prop}
theorem c_retIF {e : Int32} (k : RI e hi hl v) : ∃ z : Int32, (some (Value.int e)) = some (.int z) ∧ rx_okF L (rx_hF L hi hl v) (RI z) := ⟨e, rfl, hi, hl, v, rfl, k⟩
theorem c_retLF {e : Int64} (k : RL e hi hl v) : ∃ z : Int64, (some (Value.long e)) = some (.long z) ∧ rx_okF L (rx_hF L hi hl v) (RL z) := ⟨e, rfl, hi, hl, v, rfl, k⟩
theorem c_retVF (k : RV hi hl v) : (none : Option Value) = none ∧ rx_okF L (rx_hF L hi hl v) RV := ⟨rfl, hi, hl, v, rfl, k⟩
theorem c_retIeF {e z : Int32} (k : RI z hi hl v) (h : z = e) : ∃ z : Int32, (some (Value.int e)) = some (.int z) ∧ rx_okF L (rx_hF L hi hl v) (RI z) := by
  subst h; exact c_retIF k
theorem c8F {a : Nat} (k : RI (nI (a % 64)) hi hl v) : rx_CIF L 8 [.int (nI a)] hi hl v RI := by
  refine w8_squareOfF (c_retIF ?_)
  rw [show (63 : Int32) = nI 63 from rfl, cf_nand, cf_and63]; exact k
theorem c9oF {q : Nat} (hq : q ≤ 64) (k : RL (cf_b1 q) hi hl v) : rx_CLF L 9 [.int (oI q)] hi hl v RL := by
  refine w9_bitF ⟨fun c => c_retLF ?_, fun c => c_retLF ?_⟩
  · have h0 : 0 < q := (cf_ole (by omega)).mp c
    obtain ⟨p, rfl⟩ : ∃ p, q = p + 1 := ⟨q - 1, by omega⟩
    rw [cf_oS, cf_one p (by omega)]
    exact k
  · have h0 : q = 0 := by
      have := mt (cf_ole (a := q) (by omega)).mpr c
      omega
    subst h0
    exact k
theorem c9F {q : Nat} (hq : q < 64) (k : RL (cf_bt q) hi hl v) : rx_CLF L 9 [.int (nI q)] hi hl v RL := by
  have := c9oF (L := L) (hi := hi) (hl := hl) (v := v) (RL := RL) (q := q + 1) (by omega) k
  rwa [cf_oS] at this
theorem c16F {a : Nat} (ha : a < 2 ^ 31) (k : RI (nI (a / 64 % 4)) hi hl v) : rx_CIF L 16 [.int (nI a)] hi hl v RI := by
  refine w16_headingOfF (c_retIF ?_)
  rw [show (6 : Int32) = nI 6 from rfl, cf_nshr a 6 ha (by decide), show (3 : Int32) = nI 3 from rfl, cf_nand, cf_and3]; exact k
theorem c13F {x : Int64} (k : RI (nI (cf_pop x)) hi hl v) : rx_CIF L 13 [.long x] hi hl v RI := by
  refine w13_bitCountF (c_retIF ?_)
  have e := cf_swar x _ _ _ _ _ _ rfl rfl rfl rfl rfl rfl
  exact (congrArg (fun z => RI z hi hl v) e).mpr k
theorem c12F {w h : Nat} (K1 : cf_K1 w h hi) (K3 : cf_K3 w h hl) {x : Int64} (H : cf_in w h x) {d : Nat} (hd : d < 4) (k : RL (cf_shf w h x d) hi hl v) : rx_CLF L 12 [.ref 7, .long x, .int (nI d)] hi hl v RL := by
  have hwh := cf_wh K1
  obtain ⟨w2, w8, h2, h8, ew, eh⟩ := K1
  have fin : ∀ y : Int64, (∀ q, q < 64 → cf_has y q = (decide (q < w * h) && (match cf_step w h q (cf_opp d) with
      | some p => cf_has x p
      | none => false))) → RL y hi hl v := by
    intro y hy
    have : y = cf_shf w h x d := by
      apply cf_ext
      intro q hq
      rw [hy q hq]
      unfold cf_shf
      rw [cf_has_of, decide_eq_true hq, Bool.true_and]
      rfl
    rw [this]; exact k
  have hd4 : d = 0 ∨ d = 1 ∨ d = 2 ∨ d = 3 := by omega
  rcases hd4 with rfl | rfl | rfl | rfl
  · refine w12_shiftF ⟨fun _ => c_retLF (fin _ (fun q hq => ?_)), fun c => absurd rfl c⟩
    rw [ew, cf_shr x w (by omega)]
    show _ = (decide (q < w * h) && (match cf_step w h q 2 with
      | some p => cf_has x p
      | none => false))
    unfold cf_step
    rw [if_neg (by decide), if_neg (by decide), if_pos rfl]
    by_cases hq2 : q + w < w * h
    · rw [if_pos hq2, decide_eq_true (show q < w * h by omega), Bool.true_and]
    · rw [if_neg hq2, cf_in_false H hq2, Bool.and_false]
  · refine w12_shiftF ⟨fun c => absurd c (by decide), fun _ => ⟨fun _ => c_retLF (fin _ (fun q hq => ?_)), fun c => absurd rfl c⟩⟩
    rw [show (1 : Int32) = nI 1 from rfl, cf_shl _ 1 (by decide), cf_hand]
    show _ = (decide (q < w * h) && (match cf_step w h q 3 with
      | some p => cf_has x p
      | none => false))
    unfold cf_step
    rw [if_neg (by decide), if_neg (by decide), if_neg (by decide), decide_eq_true hq, Bool.true_and]
    by_cases h1 : 1 ≤ q
    · rw [decide_eq_true h1, Bool.true_and, (K3 (q - 1) (by omega)).2.2]
      have key : (q - 1 < w * h ∧ ¬ (q - 1) % w + 1 = w) ↔ (q < w * h ∧ 0 < q % w) := by
        rcases cf_w7 w2 w8 with rfl | rfl | rfl | rfl | rfl | rfl | rfl <;> omega
      by_cases h3 : q < w * h ∧ 0 < q % w
      · obtain ⟨g1, g2⟩ := key.mpr h3
        rw [decide_eq_true g1, decide_eq_true g2, decide_eq_true h3.1, if_pos h3.2, Bool.and_true, Bool.and_true, Bool.true_and]
      · have g := mt key.mp h3
        by_cases g1 : q - 1 < w * h
        · rw [decide_eq_false (fun g2 => g ⟨g1, g2⟩), Bool.and_false, Bool.and_false]
          by_cases g3 : q < w * h
          · rw [if_neg (fun g4 => h3 ⟨g3, g4⟩), Bool.and_false]
          · rw [decide_eq_false g3, Bool.false_and]
        · rw [decide_eq_false g1, Bool.false_and, Bool.and_false, decide_eq_false (show ¬ q < w * h by omega), Bool.false_and]
    · have : q = 0 := by omega
      subst this
      rw [decide_eq_false (show ¬ 1 ≤ 0 by omega), Bool.false_and, if_neg (by rw [Nat.zero_mod]; omega), Bool.and_false]
  · refine w12_shiftF ⟨fun c => absurd c (by decide), fun _ => ⟨fun c => absurd c (by decide), fun _ => ⟨fun _ => c_retLF (fin _ (fun q hq => ?_)), fun c => absurd rfl c⟩⟩⟩
    rw [cf_hand, ew, cf_shl _ w (by omega), (K3 q hq).1]
    show _ = (decide (q < w * h) && (match cf_step w h q 0 with
      | some p => cf_has x p
      | none => false))
    unfold cf_step
    rw [if_pos rfl, decide_eq_true hq, Bool.true_and]
    by_cases h1 : w ≤ q
    · rw [decide_eq_true h1, if_pos h1, Bool.true_and, Bool.and_comm]
    · rw [decide_eq_false h1, if_neg h1, Bool.false_and, Bool.false_and, Bool.and_false]
  · refine w12_shiftF ⟨fun c => absurd c (by decide), fun _ => ⟨fun c => absurd c (by decide), fun _ => ⟨fun c => absurd c (by decide), fun _ => c_retLF (fin _ (fun q hq => ?_))⟩⟩⟩
    rw [show (1 : Int32) = nI 1 from rfl, cf_shr _ 1 (by decide), cf_hand]
    show _ = (decide (q < w * h) && (match cf_step w h q 1 with
      | some p => cf_has x p
      | none => false))
    unfold cf_step
    rw [if_neg (by decide), if_pos rfl]
    have key : (q + 1 < w * h ∧ ¬ (q + 1) % w = 0) ↔ (q < w * h ∧ q % w + 1 < w) := by
      rcases cf_w7 w2 w8 with rfl | rfl | rfl | rfl | rfl | rfl | rfl <;> omega
    by_cases h64 : q + 1 < 64
    · rw [(K3 (q + 1) h64).2.1]
      by_cases h3 : q < w * h ∧ q % w + 1 < w
      · obtain ⟨g1, g2⟩ := key.mpr h3
        rw [decide_eq_true g1, decide_eq_true g2, decide_eq_true h3.1, if_pos h3.2, Bool.and_true, Bool.and_true, Bool.true_and]
      · have g := mt key.mp h3
        have e1 : (decide (q + 1 < w * h) && decide (¬ (q + 1) % w = 0)) = false := by
          rw [Bool.and_eq_false_iff]
          by_cases g1 : q + 1 < w * h
          · right; exact decide_eq_false (fun g2 => g ⟨g1, g2⟩)
          · left; exact decide_eq_false g1
        rw [e1, Bool.and_false]
        by_cases g3 : q < w * h
        · rw [if_neg (fun g4 => h3 ⟨g3, g4⟩), Bool.and_false]
        · rw [decide_eq_false g3, Bool.false_and]
    · rw [cf_hbig (x := x) (show 64 ≤ q + 1 by omega), Bool.false_and]
      have h3 : ¬ (q < w * h ∧ q % w + 1 < w) := fun h3 => by have := (key.mpr h3).1; omega
      by_cases g3 : q < w * h
      · rw [if_neg (fun g4 => h3 ⟨g3, g4⟩), Bool.and_false]
      · rw [decide_eq_false g3, Bool.false_and]
end RXF7
