/-! Methods walked by program (gen/wp.py): what is left to show of each. -/
/-- java/util/Arrays.fill([II)V -/
theorem w7_fill_at140 {L : Nat} {hi : Nat → Nat → Int32} {hl : Nat → Nat → Int64} {v : Nat → Nat → Option Nat} {Q : Option Value → rx_H → Prop} {a1 : Int32} (k : rx_aw 7 5 [.ref 140, .int a1, .int (0 : Int32), .int (9261 : Int32)] [] (rx_hp L rx_tr hi hl v) Q) : rx_me 7 [.ref 140, .int a1] (rx_hp L rx_tr hi hl v) Q := by
  show rx_aw 7 0 [.ref 140, .int a1, rx_no, rx_no] [] (rx_hp L rx_tr hi hl v) Q
  refine rx_aw_s 3 (pc := 0) rfl ?_
  show rx_aw 7 3 [.ref 140, .int a1, .int (0 : Int32), rx_no] [.ref 140] (rx_hp L rx_tr hi hl v) Q
  refine rx_aw_s 1 (pc := 3) rfl ?_
  show rx_aw 7 4 [.ref 140, .int a1, .int (0 : Int32), rx_no] [.int (9261 : Int32)] (rx_hp L rx_tr hi hl v) Q
  refine rx_aw_s 1 (pc := 4) rfl ?_
  show rx_aw 7 5 [.ref 140, .int a1, .int (0 : Int32), .int (9261 : Int32)] [] (rx_hp L rx_tr hi hl v) Q
  exact k
theorem w7_fill_at140_5 {L : Nat} {hi : Nat → Nat → Int32} {hl : Nat → Nat → Int64} {v : Nat → Nat → Option Nat} {Q : Option Value → rx_H → Prop} {x1 : Int32} {x2 : Int32} {x3 : Int32} (k : ((x3 ≤ x2 → Q none (rx_hp L rx_tr hi hl v)) ∧ (¬ (x3 ≤ x2) → (∃ j2 : Nat, x2 = nI j2 ∧ j2 < 9261 ∧ rx_aw 7 5 [.ref 140, .int x1, .int (x2 + (1 : Int32)), .int x3] [] (rx_hp L rx_tr (rx_u hi 140 j2 x1) hl v) Q)))) : rx_aw 7 5 [.ref 140, .int x1, .int x2, .int x3] [] (rx_hp L rx_tr hi hl v) Q := by
  refine rx_aw_s 3 (pc := 5) rfl ?_
  refine rx_w_if (c := x3 ≤ x2) ⟨fun c1 => ?_, fun c1 => ?_⟩
  · have k := k.1 c1
    show rx_aw 7 20 [.ref 140, .int x1, .int x2, .int x3] [] (rx_hp L rx_tr hi hl v) Q
    exact rx_aw_ret (pc := 20) rfl k
  · have k := k.2 c1
    show rx_aw 7 10 [.ref 140, .int x1, .int x2, .int x3] [] (rx_hp L rx_tr hi hl v) Q
    refine rx_aw_s 3 (pc := 10) rfl ?_
    show rx_aw 7 13 [.ref 140, .int x1, .int x2, .int x3] [.int x1, .int x2, .ref 140] (rx_hp L rx_tr hi hl v) Q
    obtain ⟨j2, ej2, hj2, k⟩ := k
    refine rx_aw_iast (pc := 13) (n := 9261) j2 ej2 rfl rfl (by decide) rfl hj2 (by decide) ?_
    show rx_aw 7 14 [.ref 140, .int x1, .int x2, .int x3] [] (rx_hp L rx_tr (rx_u hi 140 j2 x1) hl v) Q
    refine rx_aw_s 2 (pc := 14) rfl ?_
    show rx_aw 7 5 [.ref 140, .int x1, .int (x2 + (1 : Int32)), .int x3] [] (rx_hp L rx_tr (rx_u hi 140 j2 x1) hl v) Q
    exact k
/-- CartFloor$Floor.shift(JI)J -/
theorem w12_shift {L : Nat} {t : List (Nat × Nat)} {hi : Nat → Nat → Int32} {hl : Nat → Nat → Int64} {v : Nat → Nat → Option Nat} {Q : Option Value → rx_H → Prop} {a0 : Int64} {a1 : Int32} (k : ((a1 = (0 : Int32) → Q (some (.long (((Int64.toUInt64 a0) >>> ((Int32.toInt64 (hi 7 0)).toUInt64 &&& Int64.toUInt64 63)).toInt64))) (rx_hp L t hi hl v)) ∧ (¬ (a1 = (0 : Int32)) → ((a1 = (1 : Int32) → Q (some (.long ((a0 &&& (hl 7 4)) <<< (Int32.toInt64 (1 : Int32) &&& 63)))) (rx_hp L t hi hl v)) ∧ (¬ (a1 = (1 : Int32)) → ((a1 = (2 : Int32) → Q (some (.long ((a0 <<< (Int32.toInt64 (hi 7 0) &&& 63)) &&& (hl 7 2)))) (rx_hp L t hi hl v)) ∧ (¬ (a1 = (2 : Int32)) → Q (some (.long (((Int64.toUInt64 (a0 &&& (hl 7 3))) >>> ((Int32.toInt64 (1 : Int32)).toUInt64 &&& Int64.toUInt64 63)).toInt64))) (rx_hp L t hi hl v)))))))) : rx_me 12 [.ref 7, .long a0, .int a1] (rx_hp L t hi hl v) Q := by
  show rx_aw 12 0 [.ref 7, .long a0, rx_no, .int a1] [] (rx_hp L t hi hl v) Q
  refine rx_aw_s 1 (pc := 0) rfl ?_
  show rx_aw 12 1 [.ref 7, .long a0, rx_no, .int a1] [.int a1] (rx_hp L t hi hl v) Q
  by_cases s1_0 : a1 = (0 : Int32)
  · have k := k.1 s1_0
    refine rx_aw_tsw (pc := 1) (p2 := 28) rfl (by rw [s1_0]; rfl) ?_
    show rx_aw 12 28 [.ref 7, .long a0, rx_no, .int a1] [] (rx_hp L t hi hl v) Q
    refine rx_aw_s 4 (pc := 28) rfl ?_
    show rx_aw 12 34 [.ref 7, .long a0, rx_no, .int a1] [.long (((Int64.toUInt64 a0) >>> ((Int32.toInt64 (hi 7 0)).toUInt64 &&& Int64.toUInt64 63)).toInt64)] (rx_hp L t hi hl v) Q
    exact rx_aw_ret (pc := 34) rfl k
  · have k := k.2 s1_0
    by_cases s1_1 : a1 = (1 : Int32)
    · have k := k.1 s1_1
      refine rx_aw_tsw (pc := 1) (p2 := 35) rfl (by rw [s1_1]; rfl) ?_
      show rx_aw 12 35 [.ref 7, .long a0, rx_no, .int a1] [] (rx_hp L t hi hl v) Q
      refine rx_aw_s 6 (pc := 35) rfl ?_
      show rx_aw 12 43 [.ref 7, .long a0, rx_no, .int a1] [.long ((a0 &&& (hl 7 4)) <<< (Int32.toInt64 (1 : Int32) &&& 63))] (rx_hp L t hi hl v) Q
      exact rx_aw_ret (pc := 43) rfl k
    · have k := k.2 s1_1
      by_cases s1_2 : a1 = (2 : Int32)
      · have k := k.1 s1_2
        refine rx_aw_tsw (pc := 1) (p2 := 44) rfl (by rw [s1_2]; rfl) ?_
        show rx_aw 12 44 [.ref 7, .long a0, rx_no, .int a1] [] (rx_hp L t hi hl v) Q
        refine rx_aw_s 7 (pc := 44) rfl ?_
        show rx_aw 12 55 [.ref 7, .long a0, rx_no, .int a1] [.long ((a0 <<< (Int32.toInt64 (hi 7 0) &&& 63)) &&& (hl 7 2))] (rx_hp L t hi hl v) Q
        exact rx_aw_ret (pc := 55) rfl k
      · have k := k.2 s1_2
        have hds1 : ∀ i : Nat, i < 3 → ¬ a1.toInt = 0 + i := by
          intro i hi e
          have := rx_ne_toInt (c := (0 : Int32)) (z := 0) (by decide) s1_0
          have := rx_ne_toInt (c := (1 : Int32)) (z := 1) (by decide) s1_1
          have := rx_ne_toInt (c := (2 : Int32)) (z := 2) (by decide) s1_2
          omega
        refine rx_aw_tsw (pc := 1) (p2 := 56) rfl (rx_tsw_d hds1 (by decide)) ?_
        show rx_aw 12 56 [.ref 7, .long a0, rx_no, .int a1] [] (rx_hp L t hi hl v) Q
        refine rx_aw_s 6 (pc := 56) rfl ?_
        show rx_aw 12 64 [.ref 7, .long a0, rx_no, .int a1] [.long (((Int64.toUInt64 (a0 &&& (hl 7 3))) >>> ((Int32.toInt64 (1 : Int32)).toUInt64 &&& Int64.toUInt64 63)).toInt64)] (rx_hp L t hi hl v) Q
        exact rx_aw_ret (pc := 64) rfl k
/-- java/util/Arrays.fill([BIIB)V -/
theorem w32_fill_at85 {L : Nat} {t : List (Nat × Nat)} {hi : Nat → Nat → Int32} {hl : Nat → Nat → Int64} {v : Nat → Nat → Option Nat} {Q : Option Value → rx_H → Prop} {a1 : Int32} {a2 : Int32} {a3 : Int32} (k : rx_me 33 [.int (400 : Int32), .int a1, .int a2] (rx_hp L t hi hl v) (fun r h2 => r = none ∧ rx_ok2 L t h2 (fun hi1 hl1 v1 => rx_aw 32 10 [.ref 85, .int a1, .int a2, .int a3, .int a1] [] (rx_hp L t hi1 hl1 v1) Q))) : rx_me 32 [.ref 85, .int a1, .int a2, .int a3] (rx_hp L t hi hl v) Q := by
  show rx_aw 32 0 [.ref 85, .int a1, .int a2, .int a3, rx_no] [] (rx_hp L t hi hl v) Q
  refine rx_aw_s 1 (pc := 0) rfl ?_
  show rx_aw 32 1 [.ref 85, .int a1, .int a2, .int a3, rx_no] [.ref 85] (rx_hp L t hi hl v) Q
  refine rx_aw_s 1 (pc := 1) rfl ?_
  show rx_aw 32 2 [.ref 85, .int a1, .int a2, .int a3, rx_no] [.int (400 : Int32)] (rx_hp L t hi hl v) Q
  refine rx_aw_s 2 (pc := 2) rfl ?_
  show rx_aw 32 4 [.ref 85, .int a1, .int a2, .int a3, rx_no] [.int a2, .int a1, .int (400 : Int32)] (rx_hp L t hi hl v) Q
  refine rx_w_callV (j := 33) (pc := 4) rfl rfl rfl rfl rfl ?_
  refine rx_aw.mono k (fun r h2 k => ?_)
  obtain ⟨rfl, hi1, hl1, v1, rfl, k⟩ := k
  refine ⟨rfl, ?_⟩
  show rx_aw 32 7 [.ref 85, .int a1, .int a2, .int a3, rx_no] [] (rx_hp L t hi1 hl1 v1) Q
  refine rx_aw_s 2 (pc := 7) rfl ?_
  show rx_aw 32 10 [.ref 85, .int a1, .int a2, .int a3, .int a1] [] (rx_hp L t hi1 hl1 v1) Q
  exact k
theorem w32_fill_at85_10 {L : Nat} {t : List (Nat × Nat)} {hi : Nat → Nat → Int32} {hl : Nat → Nat → Int64} {v : Nat → Nat → Option Nat} {Q : Option Value → rx_H → Prop} {x1 : Int32} {x2 : Int32} {x3 : Int32} {x4 : Int32} (k : ((x2 ≤ x4 → Q none (rx_hp L t hi hl v)) ∧ (¬ (x2 ≤ x4) → (∃ j3 : Nat, x4 = nI j3 ∧ j3 < 400 ∧ rx_aw 32 10 [.ref 85, .int x1, .int x2, .int x3, .int (x4 + (1 : Int32))] [] (rx_hp L t (rx_u hi 85 j3 (vp_nar .byte x3)) hl v) Q)))) : rx_aw 32 10 [.ref 85, .int x1, .int x2, .int x3, .int x4] [] (rx_hp L t hi hl v) Q := by
  refine rx_aw_s 3 (pc := 10) rfl ?_
  refine rx_w_if (c := x2 ≤ x4) ⟨fun c2 => ?_, fun c2 => ?_⟩
  · have k := k.1 c2
    show rx_aw 32 27 [.ref 85, .int x1, .int x2, .int x3, .int x4] [] (rx_hp L t hi hl v) Q
    exact rx_aw_ret (pc := 27) rfl k
  · have k := k.2 c2
    show rx_aw 32 16 [.ref 85, .int x1, .int x2, .int x3, .int x4] [] (rx_hp L t hi hl v) Q
    refine rx_aw_s 3 (pc := 16) rfl ?_
    show rx_aw 32 20 [.ref 85, .int x1, .int x2, .int x3, .int x4] [.int x3, .int x4, .ref 85] (rx_hp L t hi hl v) Q
    obtain ⟨j3, ej3, hj3, k⟩ := k
    refine rx_aw_bast (pc := 20) (n := 400) j3 ej3 rfl rfl (by decide) rfl hj3 (by decide) ?_
    show rx_aw 32 21 [.ref 85, .int x1, .int x2, .int x3, .int x4] [] (rx_hp L t (rx_u hi 85 j3 (vp_nar .byte x3)) hl v) Q
    refine rx_aw_s 2 (pc := 21) rfl ?_
    show rx_aw 32 10 [.ref 85, .int x1, .int x2, .int x3, .int (x4 + (1 : Int32))] [] (rx_hp L t (rx_u hi 85 j3 (vp_nar .byte x3)) hl v) Q
    exact k
/-- java/util/Arrays.fill([BIIB)V -/
theorem w32_fill_at89 {L : Nat} {t : List (Nat × Nat)} {hi : Nat → Nat → Int32} {hl : Nat → Nat → Int64} {v : Nat → Nat → Option Nat} {Q : Option Value → rx_H → Prop} {a1 : Int32} {a2 : Int32} {a3 : Int32} (k : rx_me 33 [.int (64 : Int32), .int a1, .int a2] (rx_hp L t hi hl v) (fun r h2 => r = none ∧ rx_ok2 L t h2 (fun hi1 hl1 v1 => rx_aw 32 10 [.ref 89, .int a1, .int a2, .int a3, .int a1] [] (rx_hp L t hi1 hl1 v1) Q))) : rx_me 32 [.ref 89, .int a1, .int a2, .int a3] (rx_hp L t hi hl v) Q := by
  show rx_aw 32 0 [.ref 89, .int a1, .int a2, .int a3, rx_no] [] (rx_hp L t hi hl v) Q
  refine rx_aw_s 1 (pc := 0) rfl ?_
  show rx_aw 32 1 [.ref 89, .int a1, .int a2, .int a3, rx_no] [.ref 89] (rx_hp L t hi hl v) Q
  refine rx_aw_s 1 (pc := 1) rfl ?_
  show rx_aw 32 2 [.ref 89, .int a1, .int a2, .int a3, rx_no] [.int (64 : Int32)] (rx_hp L t hi hl v) Q
  refine rx_aw_s 2 (pc := 2) rfl ?_
  show rx_aw 32 4 [.ref 89, .int a1, .int a2, .int a3, rx_no] [.int a2, .int a1, .int (64 : Int32)] (rx_hp L t hi hl v) Q
  refine rx_w_callV (j := 33) (pc := 4) rfl rfl rfl rfl rfl ?_
  refine rx_aw.mono k (fun r h2 k => ?_)
  obtain ⟨rfl, hi1, hl1, v1, rfl, k⟩ := k
  refine ⟨rfl, ?_⟩
  show rx_aw 32 7 [.ref 89, .int a1, .int a2, .int a3, rx_no] [] (rx_hp L t hi1 hl1 v1) Q
  refine rx_aw_s 2 (pc := 7) rfl ?_
  show rx_aw 32 10 [.ref 89, .int a1, .int a2, .int a3, .int a1] [] (rx_hp L t hi1 hl1 v1) Q
  exact k
theorem w32_fill_at89_10 {L : Nat} {t : List (Nat × Nat)} {hi : Nat → Nat → Int32} {hl : Nat → Nat → Int64} {v : Nat → Nat → Option Nat} {Q : Option Value → rx_H → Prop} {x1 : Int32} {x2 : Int32} {x3 : Int32} {x4 : Int32} (k : ((x2 ≤ x4 → Q none (rx_hp L t hi hl v)) ∧ (¬ (x2 ≤ x4) → (∃ j3 : Nat, x4 = nI j3 ∧ j3 < 64 ∧ rx_aw 32 10 [.ref 89, .int x1, .int x2, .int x3, .int (x4 + (1 : Int32))] [] (rx_hp L t (rx_u hi 89 j3 (vp_nar .byte x3)) hl v) Q)))) : rx_aw 32 10 [.ref 89, .int x1, .int x2, .int x3, .int x4] [] (rx_hp L t hi hl v) Q := by
  refine rx_aw_s 3 (pc := 10) rfl ?_
  refine rx_w_if (c := x2 ≤ x4) ⟨fun c2 => ?_, fun c2 => ?_⟩
  · have k := k.1 c2
    show rx_aw 32 27 [.ref 89, .int x1, .int x2, .int x3, .int x4] [] (rx_hp L t hi hl v) Q
    exact rx_aw_ret (pc := 27) rfl k
  · have k := k.2 c2
    show rx_aw 32 16 [.ref 89, .int x1, .int x2, .int x3, .int x4] [] (rx_hp L t hi hl v) Q
    refine rx_aw_s 3 (pc := 16) rfl ?_
    show rx_aw 32 20 [.ref 89, .int x1, .int x2, .int x3, .int x4] [.int x3, .int x4, .ref 89] (rx_hp L t hi hl v) Q
    obtain ⟨j3, ej3, hj3, k⟩ := k
    refine rx_aw_bast (pc := 20) (n := 64) j3 ej3 rfl rfl (by decide) rfl hj3 (by decide) ?_
    show rx_aw 32 21 [.ref 89, .int x1, .int x2, .int x3, .int x4] [] (rx_hp L t (rx_u hi 89 j3 (vp_nar .byte x3)) hl v) Q
    refine rx_aw_s 2 (pc := 21) rfl ?_
    show rx_aw 32 10 [.ref 89, .int x1, .int x2, .int x3, .int (x4 + (1 : Int32))] [] (rx_hp L t (rx_u hi 89 j3 (vp_nar .byte x3)) hl v) Q
    exact k
/-- java/util/Arrays.rangeCheck(III)V -/
theorem w33_rangeCheck {L : Nat} {t : List (Nat × Nat)} {hi : Nat → Nat → Int32} {hl : Nat → Nat → Int64} {v : Nat → Nat → Option Nat} {Q : Option Value → rx_H → Prop} {a0 : Int32} {a1 : Int32} {a2 : Int32} (k : ((a1 ≤ a2 → ((0 ≤ a1 → ((a2 ≤ a0 → Q none (rx_hp L t hi hl v)) ∧ (¬ (a2 ≤ a0) → False))) ∧ (¬ (0 ≤ a1) → False))) ∧ (¬ (a1 ≤ a2) → False))) : rx_me 33 [.int a0, .int a1, .int a2] (rx_hp L t hi hl v) Q := by
  show rx_aw 33 0 [.int a0, .int a1, .int a2] [] (rx_hp L t hi hl v) Q
  refine rx_aw_s 3 (pc := 0) rfl ?_
  refine rx_w_if (c := a1 ≤ a2) ⟨fun c1 => ?_, fun c1 => ?_⟩
  · have k := k.1 c1
    show rx_aw 33 46 [.int a0, .int a1, .int a2] [] (rx_hp L t hi hl v) Q
    refine rx_aw_s 2 (pc := 46) rfl ?_
    refine rx_w_if (c := 0 ≤ a1) ⟨fun c2 => ?_, fun c2 => ?_⟩
    · have k := k.1 c2
      show rx_aw 33 59 [.int a0, .int a1, .int a2] [] (rx_hp L t hi hl v) Q
      refine rx_aw_s 3 (pc := 59) rfl ?_
      refine rx_w_if (c := a2 ≤ a0) ⟨fun c3 => ?_, fun c3 => ?_⟩
      · have k := k.1 c3
        show rx_aw 33 73 [.int a0, .int a1, .int a2] [] (rx_hp L t hi hl v) Q
        exact rx_aw_ret (pc := 73) rfl k
      · have k := k.2 c3
        show rx_aw 33 64 [.int a0, .int a1, .int a2] [] (rx_hp L t hi hl v) Q
        exact k.elim
    · have k := k.2 c2
      show rx_aw 33 50 [.int a0, .int a1, .int a2] [] (rx_hp L t hi hl v) Q
      exact k.elim
  · have k := k.2 c1
    show rx_aw 33 5 [.int a0, .int a1, .int a2] [] (rx_hp L t hi hl v) Q
    exact k.elim
/-- CartFloor$Traffic.greatestEnd(LCartFloor$Cart;)I -/
theorem w36_greatestEnd_null {L : Nat} {t : List (Nat × Nat)} {hi : Nat → Nat → Int32} {hl : Nat → Nat → Int64} {v : Nat → Nat → Option Nat} {Q : Option Value → rx_H → Prop}  (k : rx_aw 36 4 [.ref 13, .null, .int (0 : Int32), .int (0 : Int32)] [] (rx_hp L t hi hl v) Q) : rx_me 36 [.ref 13, .null] (rx_hp L t hi hl v) Q := by
  show rx_aw 36 0 [.ref 13, .null, rx_no, rx_no] [] (rx_hp L t hi hl v) Q
  refine rx_aw_s 4 (pc := 0) rfl ?_
  show rx_aw 36 4 [.ref 13, .null, .int (0 : Int32), .int (0 : Int32)] [] (rx_hp L t hi hl v) Q
  exact k
theorem w36_greatestEnd_null_4 {L : Nat} {t : List (Nat × Nat)} {hi : Nat → Nat → Int32} {hl : Nat → Nat → Int64} {v : Nat → Nat → Option Nat} {Q : Option Value → rx_H → Prop} {x2 : Int32} {x3 : Int32} (k : (((hi 13 3) ≤ x3 → Q (some (.int x2)) (rx_hp L t hi hl v)) ∧ (¬ ((hi 13 3) ≤ x3) → (∃ j2 : Nat, x3 = nI j2 ∧ j2 < 6 ∧ (∃ j3 : Nat, x3 = nI j3 ∧ j3 < 6 ∧ rx_aw 36 4 [.ref 13, .null, .int (if x2 < (hi (rx_ct j3) 7) then (hi (rx_ct j3) 7) else x2), .int (x3 + (1 : Int32))] [] (rx_hp L t hi hl v) Q))))) : rx_aw 36 4 [.ref 13, .null, .int x2, .int x3] [] (rx_hp L t hi hl v) Q := by
  refine rx_aw_s 4 (pc := 4) rfl ?_
  refine rx_w_if (c := (hi 13 3) ≤ x3) ⟨fun c1 => ?_, fun c1 => ?_⟩
  · have k := k.1 c1
    show rx_aw 36 42 [.ref 13, .null, .int x2, .int x3] [] (rx_hp L t hi hl v) Q
    refine rx_aw_s 1 (pc := 42) rfl ?_
    show rx_aw 36 43 [.ref 13, .null, .int x2, .int x3] [.int x2] (rx_hp L t hi hl v) Q
    exact rx_aw_ret (pc := 43) rfl k
  · have k := k.2 c1
    show rx_aw 36 12 [.ref 13, .null, .int x2, .int x3] [] (rx_hp L t hi hl v) Q
    refine rx_aw_s 3 (pc := 12) rfl ?_
    show rx_aw 36 17 [.ref 13, .null, .int x2, .int x3] [.int x3, .ref 14] (rx_hp L t hi hl v) Q
    obtain ⟨j2, ej2, hj2, k⟩ := k
    refine rx_w_carts (pc := 17) rfl ⟨j2, ej2, hj2, ?_⟩
    show rx_aw 36 18 [.ref 13, .null, .int x2, .int x3] [.ref (rx_ct j2)] (rx_hp L t hi hl v) Q
    refine rx_aw_s 6 (pc := 18) rfl ?_
    show rx_aw 36 28 [.ref 13, .null, .int x2, .int x3] [.int x3, .ref 14, .int x2] (rx_hp L t hi hl v) Q
    obtain ⟨j3, ej3, hj3, k⟩ := k
    refine rx_w_carts (pc := 28) rfl ⟨j3, ej3, hj3, ?_⟩
    show rx_aw 36 29 [.ref 13, .null, .int x2, .int x3] [.ref (rx_ct j3), .int x2] (rx_hp L t hi hl v) Q
    refine rx_w_cg hj3 (pc := 29) rfl (by decide) (by decide) ?_
    show rx_aw 36 32 [.ref 13, .null, .int x2, .int x3] [.int (hi (rx_ct j3) 7), .int x2] (rx_hp L t hi hl v) Q
    refine rx_aw_s 4 (pc := 32) rfl ?_
    show rx_aw 36 4 [.ref 13, .null, .int (if x2 < (hi (rx_ct j3) 7) then (hi (rx_ct j3) 7) else x2), .int (x3 + (1 : Int32))] [] (rx_hp L t hi hl v) Q
    exact k
/-- CartFloor$Traffic.findHolds(LCartFloor$Cart;)V -/
theorem w52_findHolds {L : Nat} {t : List (Nat × Nat)} {hi : Nat → Nat → Int32} {hl : Nat → Nat → Int64} {v : Nat → Nat → Option Nat} {Q : Option Value → rx_H → Prop} {c0 : Nat} (hc0 : c0 < 6) (k : (∃ m1a m1b m1n : Nat, (0 : Int32) = nI m1a ∧ (0 : Int32) = nI m1b ∧ ((hi 13 5) + (1 : Int32)) = nI m1n ∧ m1a + m1n ≤ 402 ∧ m1b + m1n ≤ 402 ∧ (((2 : Int32) ≤ (hi (rx_ct c0) 5) → rx_aw 52 30 [.ref 13, .ref (rx_ct c0), .int (0 : Int32), rx_no, rx_no] [] (rx_hp L t hi (rx_row hl (rx_ct c0 + 5) (va_cpy (hl (rx_ct c0 + 4)) (hl (rx_ct c0 + 5)) m1a m1b m1n)) v) Q) ∧ (¬ ((2 : Int32) ≤ (hi (rx_ct c0) 5)) → Q none (rx_hp L t hi (rx_row hl (rx_ct c0 + 5) (va_cpy (hl (rx_ct c0 + 4)) (hl (rx_ct c0 + 5)) m1a m1b m1n)) v))))) : rx_me 52 [.ref 13, .ref (rx_ct c0)] (rx_hp L t hi hl v) Q := by
  show rx_aw 52 0 [.ref 13, .ref (rx_ct c0), rx_no, rx_no, rx_no] [] (rx_hp L t hi hl v) Q
  refine rx_aw_s 1 (pc := 0) rfl ?_
  show rx_aw 52 1 [.ref 13, .ref (rx_ct c0), rx_no, rx_no, rx_no] [.ref (rx_ct c0)] (rx_hp L t hi hl v) Q
  refine rx_w_cr hc0 (pc := 1) rfl (by decide) ?_
  show rx_aw 52 4 [.ref 13, .ref (rx_ct c0), rx_no, rx_no, rx_no] [.ref (rx_ct c0 + 4)] (rx_hp L t hi hl v) Q
  refine rx_aw_s 2 (pc := 4) rfl ?_
  show rx_aw 52 6 [.ref 13, .ref (rx_ct c0), rx_no, rx_no, rx_no] [.ref (rx_ct c0), .int (0 : Int32), .ref (rx_ct c0 + 4)] (rx_hp L t hi hl v) Q
  refine rx_w_cr hc0 (pc := 6) rfl (by decide) ?_
  show rx_aw 52 9 [.ref 13, .ref (rx_ct c0), rx_no, rx_no, rx_no] [.ref (rx_ct c0 + 5), .int (0 : Int32), .ref (rx_ct c0 + 4)] (rx_hp L t hi hl v) Q
  refine rx_aw_s 5 (pc := 9) rfl ?_
  show rx_aw 52 16 [.ref 13, .ref (rx_ct c0), rx_no, rx_no, rx_no] [.int ((hi 13 5) + (1 : Int32)), .int (0 : Int32), .ref (rx_ct c0 + 5), .int (0 : Int32), .ref (rx_ct c0 + 4)] (rx_hp L t hi hl v) Q
  obtain ⟨m1a, m1b, m1n, e1, e2, e3, e4, e5, k⟩ := k
  refine rx_aw_cpyL (pc := 16) (ls' := 402) (ld := 402) rfl rfl (rx_ck (rx_cart_s hc0).2.2.2.2.1) (rx_ck (rx_cart_s hc0).2.2.2.2.2) (Nat.lt_of_lt_of_le (rx_ct_pos _) (Nat.le_add_right _ _)) (Nat.lt_of_lt_of_le (rx_ct_pos _) (Nat.le_add_right _ _)) (rx_cle (rx_cart_s hc0).2.2.2.2.1) (rx_cle (rx_cart_s hc0).2.2.2.2.2) (by decide) (by decide) ⟨m1a, m1b, m1n, e1, e2, e3, e4, e5, ?_⟩
  show rx_aw 52 19 [.ref 13, .ref (rx_ct c0), rx_no, rx_no, rx_no] [] (rx_hp L t hi (rx_row hl (rx_ct c0 + 5) (va_cpy (hl (rx_ct c0 + 4)) (hl (rx_ct c0 + 5)) m1a m1b m1n)) v) Q
  refine rx_aw_s 1 (pc := 19) rfl ?_
  show rx_aw 52 20 [.ref 13, .ref (rx_ct c0), rx_no, rx_no, rx_no] [.ref (rx_ct c0)] (rx_hp L t hi (rx_row hl (rx_ct c0 + 5) (va_cpy (hl (rx_ct c0 + 4)) (hl (rx_ct c0 + 5)) m1a m1b m1n)) v) Q
  refine rx_w_cg hc0 (pc := 20) rfl (by decide) (by decide) ?_
  show rx_aw 52 23 [.ref 13, .ref (rx_ct c0), rx_no, rx_no, rx_no] [.int (hi (rx_ct c0) 5)] (rx_hp L t hi (rx_row hl (rx_ct c0 + 5) (va_cpy (hl (rx_ct c0 + 4)) (hl (rx_ct c0 + 5)) m1a m1b m1n)) v) Q
  refine rx_aw_s 2 (pc := 23) rfl ?_
  refine rx_w_if (c := (2 : Int32) ≤ (hi (rx_ct c0) 5)) ⟨fun c2 => ?_, fun c2 => ?_⟩
  · have k := k.1 c2
    show rx_aw 52 28 [.ref 13, .ref (rx_ct c0), rx_no, rx_no, rx_no] [] (rx_hp L t hi (rx_row hl (rx_ct c0 + 5) (va_cpy (hl (rx_ct c0 + 4)) (hl (rx_ct c0 + 5)) m1a m1b m1n)) v) Q
    refine rx_aw_s 2 (pc := 28) rfl ?_
    show rx_aw 52 30 [.ref 13, .ref (rx_ct c0), .int (0 : Int32), rx_no, rx_no] [] (rx_hp L t hi (rx_row hl (rx_ct c0 + 5) (va_cpy (hl (rx_ct c0 + 4)) (hl (rx_ct c0 + 5)) m1a m1b m1n)) v) Q
    exact k
  · have k := k.2 c2
    show rx_aw 52 27 [.ref 13, .ref (rx_ct c0), rx_no, rx_no, rx_no] [] (rx_hp L t hi (rx_row hl (rx_ct c0 + 5) (va_cpy (hl (rx_ct c0 + 4)) (hl (rx_ct c0 + 5)) m1a m1b m1n)) v) Q
    exact rx_aw_ret (pc := 27) rfl k
theorem w52_findHolds_30 {L : Nat} {t : List (Nat × Nat)} {hi : Nat → Nat → Int32} {hl : Nat → Nat → Int64} {v : Nat → Nat → Option Nat} {Q : Option Value → rx_H → Prop} {c0 : Nat} (hc0 : c0 < 6) {x2 : Int32} (k : (((hi (rx_ct c0) 7) ≤ x2 → Q none (rx_hp L t hi hl v)) ∧ (¬ ((hi (rx_ct c0) 7) ≤ x2) → (∃ j4 : Nat, x2 = nI j4 ∧ j4 < 402 ∧ (∃ j5 : Nat, x2 = nI j5 ∧ j5 < 400 ∧ rx_me 53 [.ref 7, .int (hi (rx_ct c0) 5), .int (hi (rx_ct c0 + 3) j4), .int (hi (rx_ct c0 + 1) j5)] (rx_hp L t hi hl v) (fun r h2 => ∃ z6 : Int64, r = some (.long z6) ∧ rx_ok2 L t h2 (fun hi6 hl6 v6 => (∃ j7 : Nat, x2 = nI j7 ∧ j7 < 402 ∧ (∃ j8 : Nat, x2 = nI j8 ∧ j8 < 402 ∧ (∃ j9 : Nat, (x2 + (1 : Int32)) = nI j9 ∧ j9 < 402 ∧ (∃ j10 : Nat, (x2 + (1 : Int32)) = nI j10 ∧ j10 < 402 ∧ rx_aw 52 30 [.ref 13, .ref (rx_ct c0), .int (x2 + (1 : Int32)), rx_no, rx_no] [] (rx_hp L t hi6 (rx_u (rx_u hl6 (rx_ct c0 + 5) j8 ((hl6 (rx_ct c0 + 5) j7) ||| z6)) (rx_ct c0 + 5) j10 (((rx_u hl6 (rx_ct c0 + 5) j8 ((hl6 (rx_ct c0 + 5) j7) ||| z6)) (rx_ct c0 + 5) j9) ||| z6)) v6) Q))))))))))) : rx_aw 52 30 [.ref 13, .ref (rx_ct c0), .int x2, rx_no, rx_no] [] (rx_hp L t hi hl v) Q := by
  refine rx_aw_s 2 (pc := 30) rfl ?_
  show rx_aw 52 32 [.ref 13, .ref (rx_ct c0), .int x2, rx_no, rx_no] [.ref (rx_ct c0), .int x2] (rx_hp L t hi hl v) Q
  refine rx_w_cg hc0 (pc := 32) rfl (by decide) (by decide) ?_
  show rx_aw 52 35 [.ref 13, .ref (rx_ct c0), .int x2, rx_no, rx_no] [.int (hi (rx_ct c0) 7), .int x2] (rx_hp L t hi hl v) Q
  refine rx_aw_s 1 (pc := 35) rfl ?_
  refine rx_w_if (c := (hi (rx_ct c0) 7) ≤ x2) ⟨fun c3 => ?_, fun c3 => ?_⟩
  · have k := k.1 c3
    show rx_aw 52 90 [.ref 13, .ref (rx_ct c0), .int x2, rx_no, rx_no] [] (rx_hp L t hi hl v) Q
    exact rx_aw_ret (pc := 90) rfl k
  · have k := k.2 c3
    show rx_aw 52 38 [.ref 13, .ref (rx_ct c0), .int x2, rx_no, rx_no] [] (rx_hp L t hi hl v) Q
    refine rx_aw_s 3 (pc := 38) rfl ?_
    show rx_aw 52 43 [.ref 13, .ref (rx_ct c0), .int x2, rx_no, rx_no] [.ref (rx_ct c0), .ref 7] (rx_hp L t hi hl v) Q
    refine rx_w_cg hc0 (pc := 43) rfl (by decide) (by decide) ?_
    show rx_aw 52 46 [.ref 13, .ref (rx_ct c0), .int x2, rx_no, rx_no] [.int (hi (rx_ct c0) 5), .ref 7] (rx_hp L t hi hl v) Q
    refine rx_aw_s 1 (pc := 46) rfl ?_
    show rx_aw 52 47 [.ref 13, .ref (rx_ct c0), .int x2, rx_no, rx_no] [.ref (rx_ct c0), .int (hi (rx_ct c0) 5), .ref 7] (rx_hp L t hi hl v) Q
    refine rx_w_cr hc0 (pc := 47) rfl (by decide) ?_
    show rx_aw 52 50 [.ref 13, .ref (rx_ct c0), .int x2, rx_no, rx_no] [.ref (rx_ct c0 + 3), .int (hi (rx_ct c0) 5), .ref 7] (rx_hp L t hi hl v) Q
    refine rx_aw_s 1 (pc := 50) rfl ?_
    show rx_aw 52 51 [.ref 13, .ref (rx_ct c0), .int x2, rx_no, rx_no] [.int x2, .ref (rx_ct c0 + 3), .int (hi (rx_ct c0) 5), .ref 7] (rx_hp L t hi hl v) Q
    obtain ⟨j4, ej4, hj4, k⟩ := k
    refine rx_aw_iald (pc := 51) (n := 402) j4 ej4 rfl (rx_ck (rx_cart_s hc0).2.2.2.1) (rx_cle (rx_cart_s hc0).2.2.2.1) hj4 (by decide) ?_
    show rx_aw 52 52 [.ref 13, .ref (rx_ct c0), .int x2, rx_no, rx_no] [.int (hi (rx_ct c0 + 3) j4), .int (hi (rx_ct c0) 5), .ref 7] (rx_hp L t hi hl v) Q
    refine rx_aw_s 1 (pc := 52) rfl ?_
    show rx_aw 52 53 [.ref 13, .ref (rx_ct c0), .int x2, rx_no, rx_no] [.ref (rx_ct c0), .int (hi (rx_ct c0 + 3) j4), .int (hi (rx_ct c0) 5), .ref 7] (rx_hp L t hi hl v) Q
    refine rx_w_cr hc0 (pc := 53) rfl (by decide) ?_
    show rx_aw 52 56 [.ref 13, .ref (rx_ct c0), .int x2, rx_no, rx_no] [.ref (rx_ct c0 + 1), .int (hi (rx_ct c0 + 3) j4), .int (hi (rx_ct c0) 5), .ref 7] (rx_hp L t hi hl v) Q
    refine rx_aw_s 1 (pc := 56) rfl ?_
    show rx_aw 52 57 [.ref 13, .ref (rx_ct c0), .int x2, rx_no, rx_no] [.int x2, .ref (rx_ct c0 + 1), .int (hi (rx_ct c0 + 3) j4), .int (hi (rx_ct c0) 5), .ref 7] (rx_hp L t hi hl v) Q
    obtain ⟨j5, ej5, hj5, k⟩ := k
    refine rx_aw_bald (pc := 57) (n := 400) j5 ej5 rfl (Or.inl (rx_ck (rx_cart_s hc0).2.1)) (Nat.lt_of_lt_of_le (rx_ct_pos _) (Nat.le_add_right _ _)) (rx_cle (rx_cart_s hc0).2.1) hj5 (by decide) ?_
    show rx_aw 52 58 [.ref 13, .ref (rx_ct c0), .int x2, rx_no, rx_no] [.int (hi (rx_ct c0 + 1) j5), .int (hi (rx_ct c0 + 3) j4), .int (hi (rx_ct c0) 5), .ref 7] (rx_hp L t hi hl v) Q
    refine rx_w_callL (j := 53) (pc := 58) rfl rfl rfl rfl rfl ?_
    refine rx_aw.mono k (fun r h2 k => ?_)
    obtain ⟨z6, rfl, hi6, hl6, v6, rfl, k⟩ := k
    refine ⟨z6, rfl, ?_⟩
    show rx_aw 52 61 [.ref 13, .ref (rx_ct c0), .int x2, rx_no, rx_no] [.long z6] (rx_hp L t hi6 hl6 v6) Q
    refine rx_aw_s 2 (pc := 61) rfl ?_
    show rx_aw 52 63 [.ref 13, .ref (rx_ct c0), .int x2, .long z6, rx_no] [.ref (rx_ct c0)] (rx_hp L t hi6 hl6 v6) Q
    refine rx_w_cr hc0 (pc := 63) rfl (by decide) ?_
    show rx_aw 52 66 [.ref 13, .ref (rx_ct c0), .int x2, .long z6, rx_no] [.ref (rx_ct c0 + 5)] (rx_hp L t hi6 hl6 v6) Q
    refine rx_aw_s 2 (pc := 66) rfl ?_
    show rx_aw 52 68 [.ref 13, .ref (rx_ct c0), .int x2, .long z6, rx_no] [.int x2, .ref (rx_ct c0 + 5), .int x2, .ref (rx_ct c0 + 5)] (rx_hp L t hi6 hl6 v6) Q
    obtain ⟨j7, ej7, hj7, k⟩ := k
    refine rx_aw_lald (pc := 68) (n := 402) j7 ej7 rfl (rx_ck (rx_cart_s hc0).2.2.2.2.2) (Nat.lt_of_lt_of_le (rx_ct_pos _) (Nat.le_add_right _ _)) (rx_cle (rx_cart_s hc0).2.2.2.2.2) hj7 (by decide) ?_
    show rx_aw 52 69 [.ref 13, .ref (rx_ct c0), .int x2, .long z6, rx_no] [.long (hl6 (rx_ct c0 + 5) j7), .int x2, .ref (rx_ct c0 + 5)] (rx_hp L t hi6 hl6 v6) Q
    refine rx_aw_s 2 (pc := 69) rfl ?_
    show rx_aw 52 71 [.ref 13, .ref (rx_ct c0), .int x2, .long z6, rx_no] [.long ((hl6 (rx_ct c0 + 5) j7) ||| z6), .int x2, .ref (rx_ct c0 + 5)] (rx_hp L t hi6 hl6 v6) Q
    obtain ⟨j8, ej8, hj8, k⟩ := k
    refine rx_aw_last (pc := 71) (n := 402) j8 ej8 rfl (rx_ck (rx_cart_s hc0).2.2.2.2.2) (Nat.lt_of_lt_of_le (rx_ct_pos _) (Nat.le_add_right _ _)) (rx_cle (rx_cart_s hc0).2.2.2.2.2) hj8 (by decide) ?_
    show rx_aw 52 72 [.ref 13, .ref (rx_ct c0), .int x2, .long z6, rx_no] [] (rx_hp L t hi6 (rx_u hl6 (rx_ct c0 + 5) j8 ((hl6 (rx_ct c0 + 5) j7) ||| z6)) v6) Q
    refine rx_aw_s 1 (pc := 72) rfl ?_
    show rx_aw 52 73 [.ref 13, .ref (rx_ct c0), .int x2, .long z6, rx_no] [.ref (rx_ct c0)] (rx_hp L t hi6 (rx_u hl6 (rx_ct c0 + 5) j8 ((hl6 (rx_ct c0 + 5) j7) ||| z6)) v6) Q
    refine rx_w_cr hc0 (pc := 73) rfl (by decide) ?_
    show rx_aw 52 76 [.ref 13, .ref (rx_ct c0), .int x2, .long z6, rx_no] [.ref (rx_ct c0 + 5)] (rx_hp L t hi6 (rx_u hl6 (rx_ct c0 + 5) j8 ((hl6 (rx_ct c0 + 5) j7) ||| z6)) v6) Q
    refine rx_aw_s 4 (pc := 76) rfl ?_
    show rx_aw 52 80 [.ref 13, .ref (rx_ct c0), .int x2, .long z6, rx_no] [.int (x2 + (1 : Int32)), .ref (rx_ct c0 + 5), .int (x2 + (1 : Int32)), .ref (rx_ct c0 + 5)] (rx_hp L t hi6 (rx_u hl6 (rx_ct c0 + 5) j8 ((hl6 (rx_ct c0 + 5) j7) ||| z6)) v6) Q
    obtain ⟨j9, ej9, hj9, k⟩ := k
    refine rx_aw_lald (pc := 80) (n := 402) j9 ej9 rfl (rx_ck (rx_cart_s hc0).2.2.2.2.2) (Nat.lt_of_lt_of_le (rx_ct_pos _) (Nat.le_add_right _ _)) (rx_cle (rx_cart_s hc0).2.2.2.2.2) hj9 (by decide) ?_
    show rx_aw 52 81 [.ref 13, .ref (rx_ct c0), .int x2, .long z6, rx_no] [.long ((rx_u hl6 (rx_ct c0 + 5) j8 ((hl6 (rx_ct c0 + 5) j7) ||| z6)) (rx_ct c0 + 5) j9), .int (x2 + (1 : Int32)), .ref (rx_ct c0 + 5)] (rx_hp L t hi6 (rx_u hl6 (rx_ct c0 + 5) j8 ((hl6 (rx_ct c0 + 5) j7) ||| z6)) v6) Q
    refine rx_aw_s 2 (pc := 81) rfl ?_
    show rx_aw 52 83 [.ref 13, .ref (rx_ct c0), .int x2, .long z6, rx_no] [.long (((rx_u hl6 (rx_ct c0 + 5) j8 ((hl6 (rx_ct c0 + 5) j7) ||| z6)) (rx_ct c0 + 5) j9) ||| z6), .int (x2 + (1 : Int32)), .ref (rx_ct c0 + 5)] (rx_hp L t hi6 (rx_u hl6 (rx_ct c0 + 5) j8 ((hl6 (rx_ct c0 + 5) j7) ||| z6)) v6) Q
    obtain ⟨j10, ej10, hj10, k⟩ := k
    refine rx_aw_last (pc := 83) (n := 402) j10 ej10 rfl (rx_ck (rx_cart_s hc0).2.2.2.2.2) (Nat.lt_of_lt_of_le (rx_ct_pos _) (Nat.le_add_right _ _)) (rx_cle (rx_cart_s hc0).2.2.2.2.2) hj10 (by decide) ?_
    show rx_aw 52 84 [.ref 13, .ref (rx_ct c0), .int x2, .long z6, rx_no] [] (rx_hp L t hi6 (rx_u (rx_u hl6 (rx_ct c0 + 5) j8 ((hl6 (rx_ct c0 + 5) j7) ||| z6)) (rx_ct c0 + 5) j10 (((rx_u hl6 (rx_ct c0 + 5) j8 ((hl6 (rx_ct c0 + 5) j7) ||| z6)) (rx_ct c0 + 5) j9) ||| z6)) v6) Q
    refine rx_aw_s 2 (pc := 84) rfl ?_
    show rx_aw 52 30 [.ref 13, .ref (rx_ct c0), .int (x2 + (1 : Int32)), .long z6, rx_no] [] (rx_hp L t hi6 (rx_u (rx_u hl6 (rx_ct c0 + 5) j8 ((hl6 (rx_ct c0 + 5) j7) ||| z6)) (rx_ct c0 + 5) j10 (((rx_u hl6 (rx_ct c0 + 5) j8 ((hl6 (rx_ct c0 + 5) j7) ||| z6)) (rx_ct c0 + 5) j9) ||| z6)) v6) Q
    exact rx_aw_le (ls := [.ref 13, .ref (rx_ct c0), .int (x2 + (1 : Int32)), rx_no, rx_no]) ⟨Or.inr rfl, ⟨Or.inr rfl, ⟨Or.inr rfl, ⟨Or.inl rfl, ⟨Or.inl rfl, trivial⟩⟩⟩⟩⟩ k
set_option maxRecDepth 100000 in
/-- java/util/Arrays.fill([JJ)V -/
theorem w75_fill_at83 {L : Nat} {t : List (Nat × Nat)} {hi : Nat → Nat → Int32} {hl : Nat → Nat → Int64} {v : Nat → Nat → Option Nat} {Q : Option Value → rx_H → Prop} {a1 : Int64} (k : rx_aw 75 6 [.ref 83, .long a1, rx_no, .int (0 : Int32), .int (4 : Int32)] [] (rx_hp L t hi hl v) Q) : rx_me 75 [.ref 83, .long a1] (rx_hp L t hi hl v) Q := by
  show rx_aw 75 0 [.ref 83, .long a1, rx_no, rx_no, rx_no] [] (rx_hp L t hi hl v) Q
  refine rx_aw_s 3 (pc := 0) rfl ?_
  show rx_aw 75 3 [.ref 83, .long a1, rx_no, .int (0 : Int32), rx_no] [.ref 83] (rx_hp L t hi hl v) Q
  refine rx_aw_s 1 (pc := 3) rfl ?_
  show rx_aw 75 4 [.ref 83, .long a1, rx_no, .int (0 : Int32), rx_no] [.int (4 : Int32)] (rx_hp L t hi hl v) Q
  refine rx_aw_s 1 (pc := 4) rfl ?_
  show rx_aw 75 6 [.ref 83, .long a1, rx_no, .int (0 : Int32), .int (4 : Int32)] [] (rx_hp L t hi hl v) Q
  exact k
set_option maxRecDepth 100000 in
theorem w75_fill_at83_6 {L : Nat} {t : List (Nat × Nat)} {hi : Nat → Nat → Int32} {hl : Nat → Nat → Int64} {v : Nat → Nat → Option Nat} {Q : Option Value → rx_H → Prop} {x1 : Int64} {x3 : Int32} {x4 : Int32} (k : ((x4 ≤ x3 → Q none (rx_hp L t hi hl v)) ∧ (¬ (x4 ≤ x3) → (∃ j2 : Nat, x3 = nI j2 ∧ j2 < 4 ∧ rx_aw 75 6 [.ref 83, .long x1, rx_no, .int (x3 + (1 : Int32)), .int x4] [] (rx_hp L t hi (rx_u hl 83 j2 x1) v) Q)))) : rx_aw 75 6 [.ref 83, .long x1, rx_no, .int x3, .int x4] [] (rx_hp L t hi hl v) Q := by
  refine rx_aw_s 3 (pc := 6) rfl ?_
  refine rx_w_if (c := x4 ≤ x3) ⟨fun c1 => ?_, fun c1 => ?_⟩
  · have k := k.1 c1
    show rx_aw 75 22 [.ref 83, .long x1, rx_no, .int x3, .int x4] [] (rx_hp L t hi hl v) Q
    exact rx_aw_ret (pc := 22) rfl k
  · have k := k.2 c1
    show rx_aw 75 12 [.ref 83, .long x1, rx_no, .int x3, .int x4] [] (rx_hp L t hi hl v) Q
    refine rx_aw_s 3 (pc := 12) rfl ?_
    show rx_aw 75 15 [.ref 83, .long x1, rx_no, .int x3, .int x4] [.long x1, .int x3, .ref 83] (rx_hp L t hi hl v) Q
    obtain ⟨j2, ej2, hj2, k⟩ := k
    refine rx_aw_last (pc := 15) (n := 4) j2 ej2 rfl rfl (by decide) rfl hj2 (by decide) ?_
    show rx_aw 75 16 [.ref 83, .long x1, rx_no, .int x3, .int x4] [] (rx_hp L t hi (rx_u hl 83 j2 x1) v) Q
    refine rx_aw_s 2 (pc := 16) rfl ?_
    show rx_aw 75 6 [.ref 83, .long x1, rx_no, .int (x3 + (1 : Int32)), .int x4] [] (rx_hp L t hi (rx_u hl 83 j2 x1) v) Q
    exact k
set_option maxRecDepth 100000 in
/-- CartFloor$Cart.keep()V -/
theorem w87_keep {L : Nat} {t : List (Nat × Nat)} {hi : Nat → Nat → Int32} {hl : Nat → Nat → Int64} {v : Nat → Nat → Option Nat} {Q : Option Value → rx_H → Prop} {c : Nat} (hc : c < 6) (k : (∃ m1a m1b m1n : Nat, (0 : Int32) = nI m1a ∧ (0 : Int32) = nI m1b ∧ (400 : Int32) = nI m1n ∧ m1a + m1n ≤ 400 ∧ m1b + m1n ≤ 400 ∧ (13 = 13 → ∀ i, i < m1n → fits .byte (.int (hi (rx_ct c + 1) (m1a + i))) = true) ∧ Q none (rx_hp L t (rx_u (rx_u (rx_row hi (rx_ct c + 2) (va_cpy (hi (rx_ct c + 1)) (hi (rx_ct c + 2)) m1a m1b m1n)) (rx_ct c) 13 ((rx_row hi (rx_ct c + 2) (va_cpy (hi (rx_ct c + 1)) (hi (rx_ct c + 2)) m1a m1b m1n)) (rx_ct c) 7)) (rx_ct c) 14 ((rx_u (rx_row hi (rx_ct c + 2) (va_cpy (hi (rx_ct c + 1)) (hi (rx_ct c + 2)) m1a m1b m1n)) (rx_ct c) 13 ((rx_row hi (rx_ct c + 2) (va_cpy (hi (rx_ct c + 1)) (hi (rx_ct c + 2)) m1a m1b m1n)) (rx_ct c) 7)) (rx_ct c) 10)) hl v))) : rx_me 87 [.ref (rx_ct c)] (rx_hp L t hi hl v) Q := by
  show rx_aw 87 0 [.ref (rx_ct c)] [] (rx_hp L t hi hl v) Q
  refine rx_aw_s 1 (pc := 0) rfl ?_
  show rx_aw 87 1 [.ref (rx_ct c)] [.ref (rx_ct c)] (rx_hp L t hi hl v) Q
  refine rx_w_cr hc (pc := 1) rfl (by decide) ?_
  show rx_aw 87 4 [.ref (rx_ct c)] [.ref (rx_ct c + 1)] (rx_hp L t hi hl v) Q
  refine rx_aw_s 2 (pc := 4) rfl ?_
  show rx_aw 87 6 [.ref (rx_ct c)] [.ref (rx_ct c), .int (0 : Int32), .ref (rx_ct c + 1)] (rx_hp L t hi hl v) Q
  refine rx_w_cr hc (pc := 6) rfl (by decide) ?_
  show rx_aw 87 9 [.ref (rx_ct c)] [.ref (rx_ct c + 2), .int (0 : Int32), .ref (rx_ct c + 1)] (rx_hp L t hi hl v) Q
  refine rx_aw_s 2 (pc := 9) rfl ?_
  show rx_aw 87 13 [.ref (rx_ct c)] [.int (400 : Int32), .int (0 : Int32), .ref (rx_ct c + 2), .int (0 : Int32), .ref (rx_ct c + 1)] (rx_hp L t hi hl v) Q
  obtain ⟨m1a, m1b, m1n, e1, e2, e3, e4, e5, e6, k⟩ := k
  refine rx_aw_cpyI (pc := 13) (g := 13) (ls' := 400) (ld := 400) rfl rfl (rx_ck (rx_cart_s hc).2.1) (rx_ck (rx_cart_s hc).2.2.1) (by decide) (Nat.lt_of_lt_of_le (rx_ct_pos _) (Nat.le_add_right _ _)) (Nat.lt_of_lt_of_le (rx_ct_pos _) (Nat.le_add_right _ _)) (rx_cle (rx_cart_s hc).2.1) (rx_cle (rx_cart_s hc).2.2.1) (by decide) (by decide) ⟨m1a, m1b, m1n, e1, e2, e3, e4, e5, e6, ?_⟩
  show rx_aw 87 16 [.ref (rx_ct c)] [] (rx_hp L t (rx_row hi (rx_ct c + 2) (va_cpy (hi (rx_ct c + 1)) (hi (rx_ct c + 2)) m1a m1b m1n)) hl v) Q
  refine rx_aw_s 2 (pc := 16) rfl ?_
  show rx_aw 87 18 [.ref (rx_ct c)] [.ref (rx_ct c), .ref (rx_ct c)] (rx_hp L t (rx_row hi (rx_ct c + 2) (va_cpy (hi (rx_ct c + 1)) (hi (rx_ct c + 2)) m1a m1b m1n)) hl v) Q
  refine rx_w_cg hc (pc := 18) rfl (by decide) (by decide) ?_
  show rx_aw 87 21 [.ref (rx_ct c)] [.int ((rx_row hi (rx_ct c + 2) (va_cpy (hi (rx_ct c + 1)) (hi (rx_ct c + 2)) m1a m1b m1n)) (rx_ct c) 7), .ref (rx_ct c)] (rx_hp L t (rx_row hi (rx_ct c + 2) (va_cpy (hi (rx_ct c + 1)) (hi (rx_ct c + 2)) m1a m1b m1n)) hl v) Q
  refine rx_w_cp hc (pc := 21) rfl rfl (by decide) ?_
  show rx_aw 87 24 [.ref (rx_ct c)] [] (rx_hp L t (rx_u (rx_row hi (rx_ct c + 2) (va_cpy (hi (rx_ct c + 1)) (hi (rx_ct c + 2)) m1a m1b m1n)) (rx_ct c) 13 ((rx_row hi (rx_ct c + 2) (va_cpy (hi (rx_ct c + 1)) (hi (rx_ct c + 2)) m1a m1b m1n)) (rx_ct c) 7)) hl v) Q
  refine rx_aw_s 2 (pc := 24) rfl ?_
  show rx_aw 87 26 [.ref (rx_ct c)] [.ref (rx_ct c), .ref (rx_ct c)] (rx_hp L t (rx_u (rx_row hi (rx_ct c + 2) (va_cpy (hi (rx_ct c + 1)) (hi (rx_ct c + 2)) m1a m1b m1n)) (rx_ct c) 13 ((rx_row hi (rx_ct c + 2) (va_cpy (hi (rx_ct c + 1)) (hi (rx_ct c + 2)) m1a m1b m1n)) (rx_ct c) 7)) hl v) Q
  refine rx_w_cg hc (pc := 26) rfl (by decide) (by decide) ?_
  show rx_aw 87 29 [.ref (rx_ct c)] [.int ((rx_u (rx_row hi (rx_ct c + 2) (va_cpy (hi (rx_ct c + 1)) (hi (rx_ct c + 2)) m1a m1b m1n)) (rx_ct c) 13 ((rx_row hi (rx_ct c + 2) (va_cpy (hi (rx_ct c + 1)) (hi (rx_ct c + 2)) m1a m1b m1n)) (rx_ct c) 7)) (rx_ct c) 10), .ref (rx_ct c)] (rx_hp L t (rx_u (rx_row hi (rx_ct c + 2) (va_cpy (hi (rx_ct c + 1)) (hi (rx_ct c + 2)) m1a m1b m1n)) (rx_ct c) 13 ((rx_row hi (rx_ct c + 2) (va_cpy (hi (rx_ct c + 1)) (hi (rx_ct c + 2)) m1a m1b m1n)) (rx_ct c) 7)) hl v) Q
  refine rx_w_cp hc (pc := 29) rfl rfl (by decide) ?_
  show rx_aw 87 32 [.ref (rx_ct c)] [] (rx_hp L t (rx_u (rx_u (rx_row hi (rx_ct c + 2) (va_cpy (hi (rx_ct c + 1)) (hi (rx_ct c + 2)) m1a m1b m1n)) (rx_ct c) 13 ((rx_row hi (rx_ct c + 2) (va_cpy (hi (rx_ct c + 1)) (hi (rx_ct c + 2)) m1a m1b m1n)) (rx_ct c) 7)) (rx_ct c) 14 ((rx_u (rx_row hi (rx_ct c + 2) (va_cpy (hi (rx_ct c + 1)) (hi (rx_ct c + 2)) m1a m1b m1n)) (rx_ct c) 13 ((rx_row hi (rx_ct c + 2) (va_cpy (hi (rx_ct c + 1)) (hi (rx_ct c + 2)) m1a m1b m1n)) (rx_ct c) 7)) (rx_ct c) 10)) hl v) Q
  exact rx_aw_ret (pc := 32) rfl k
set_option maxRecDepth 100000 in
/-- CartFloor$Cart.restore()V -/
theorem w95_restore {L : Nat} {t : List (Nat × Nat)} {hi : Nat → Nat → Int32} {hl : Nat → Nat → Int64} {v : Nat → Nat → Option Nat} {Q : Option Value → rx_H → Prop} {c : Nat} (hc : c < 6) (k : (∃ m1a m1b m1n : Nat, (0 : Int32) = nI m1a ∧ (0 : Int32) = nI m1b ∧ (400 : Int32) = nI m1n ∧ m1a + m1n ≤ 400 ∧ m1b + m1n ≤ 400 ∧ (13 = 13 → ∀ i, i < m1n → fits .byte (.int (hi (rx_ct c + 2) (m1a + i))) = true) ∧ Q none (rx_hp L t (rx_u (rx_u (rx_row hi (rx_ct c + 1) (va_cpy (hi (rx_ct c + 2)) (hi (rx_ct c + 1)) m1a m1b m1n)) (rx_ct c) 7 ((rx_row hi (rx_ct c + 1) (va_cpy (hi (rx_ct c + 2)) (hi (rx_ct c + 1)) m1a m1b m1n)) (rx_ct c) 13)) (rx_ct c) 10 ((rx_u (rx_row hi (rx_ct c + 1) (va_cpy (hi (rx_ct c + 2)) (hi (rx_ct c + 1)) m1a m1b m1n)) (rx_ct c) 7 ((rx_row hi (rx_ct c + 1) (va_cpy (hi (rx_ct c + 2)) (hi (rx_ct c + 1)) m1a m1b m1n)) (rx_ct c) 13)) (rx_ct c) 14)) hl v))) : rx_me 95 [.ref (rx_ct c)] (rx_hp L t hi hl v) Q := by
  show rx_aw 95 0 [.ref (rx_ct c)] [] (rx_hp L t hi hl v) Q
  refine rx_aw_s 1 (pc := 0) rfl ?_
  show rx_aw 95 1 [.ref (rx_ct c)] [.ref (rx_ct c)] (rx_hp L t hi hl v) Q
  refine rx_w_cr hc (pc := 1) rfl (by decide) ?_
  show rx_aw 95 4 [.ref (rx_ct c)] [.ref (rx_ct c + 2)] (rx_hp L t hi hl v) Q
  refine rx_aw_s 2 (pc := 4) rfl ?_
  show rx_aw 95 6 [.ref (rx_ct c)] [.ref (rx_ct c), .int (0 : Int32), .ref (rx_ct c + 2)] (rx_hp L t hi hl v) Q
  refine rx_w_cr hc (pc := 6) rfl (by decide) ?_
  show rx_aw 95 9 [.ref (rx_ct c)] [.ref (rx_ct c + 1), .int (0 : Int32), .ref (rx_ct c + 2)] (rx_hp L t hi hl v) Q
  refine rx_aw_s 2 (pc := 9) rfl ?_
  show rx_aw 95 13 [.ref (rx_ct c)] [.int (400 : Int32), .int (0 : Int32), .ref (rx_ct c + 1), .int (0 : Int32), .ref (rx_ct c + 2)] (rx_hp L t hi hl v) Q
  obtain ⟨m1a, m1b, m1n, e1, e2, e3, e4, e5, e6, k⟩ := k
  refine rx_aw_cpyI (pc := 13) (g := 13) (ls' := 400) (ld := 400) rfl rfl (rx_ck (rx_cart_s hc).2.2.1) (rx_ck (rx_cart_s hc).2.1) (by decide) (Nat.lt_of_lt_of_le (rx_ct_pos _) (Nat.le_add_right _ _)) (Nat.lt_of_lt_of_le (rx_ct_pos _) (Nat.le_add_right _ _)) (rx_cle (rx_cart_s hc).2.2.1) (rx_cle (rx_cart_s hc).2.1) (by decide) (by decide) ⟨m1a, m1b, m1n, e1, e2, e3, e4, e5, e6, ?_⟩
  show rx_aw 95 16 [.ref (rx_ct c)] [] (rx_hp L t (rx_row hi (rx_ct c + 1) (va_cpy (hi (rx_ct c + 2)) (hi (rx_ct c + 1)) m1a m1b m1n)) hl v) Q
  refine rx_aw_s 2 (pc := 16) rfl ?_
  show rx_aw 95 18 [.ref (rx_ct c)] [.ref (rx_ct c), .ref (rx_ct c)] (rx_hp L t (rx_row hi (rx_ct c + 1) (va_cpy (hi (rx_ct c + 2)) (hi (rx_ct c + 1)) m1a m1b m1n)) hl v) Q
  refine rx_w_cg hc (pc := 18) rfl (by decide) (by decide) ?_
  show rx_aw 95 21 [.ref (rx_ct c)] [.int ((rx_row hi (rx_ct c + 1) (va_cpy (hi (rx_ct c + 2)) (hi (rx_ct c + 1)) m1a m1b m1n)) (rx_ct c) 13), .ref (rx_ct c)] (rx_hp L t (rx_row hi (rx_ct c + 1) (va_cpy (hi (rx_ct c + 2)) (hi (rx_ct c + 1)) m1a m1b m1n)) hl v) Q
  refine rx_w_cp hc (pc := 21) rfl rfl (by decide) ?_
  show rx_aw 95 24 [.ref (rx_ct c)] [] (rx_hp L t (rx_u (rx_row hi (rx_ct c + 1) (va_cpy (hi (rx_ct c + 2)) (hi (rx_ct c + 1)) m1a m1b m1n)) (rx_ct c) 7 ((rx_row hi (rx_ct c + 1) (va_cpy (hi (rx_ct c + 2)) (hi (rx_ct c + 1)) m1a m1b m1n)) (rx_ct c) 13)) hl v) Q
  refine rx_aw_s 2 (pc := 24) rfl ?_
  show rx_aw 95 26 [.ref (rx_ct c)] [.ref (rx_ct c), .ref (rx_ct c)] (rx_hp L t (rx_u (rx_row hi (rx_ct c + 1) (va_cpy (hi (rx_ct c + 2)) (hi (rx_ct c + 1)) m1a m1b m1n)) (rx_ct c) 7 ((rx_row hi (rx_ct c + 1) (va_cpy (hi (rx_ct c + 2)) (hi (rx_ct c + 1)) m1a m1b m1n)) (rx_ct c) 13)) hl v) Q
  refine rx_w_cg hc (pc := 26) rfl (by decide) (by decide) ?_
  show rx_aw 95 29 [.ref (rx_ct c)] [.int ((rx_u (rx_row hi (rx_ct c + 1) (va_cpy (hi (rx_ct c + 2)) (hi (rx_ct c + 1)) m1a m1b m1n)) (rx_ct c) 7 ((rx_row hi (rx_ct c + 1) (va_cpy (hi (rx_ct c + 2)) (hi (rx_ct c + 1)) m1a m1b m1n)) (rx_ct c) 13)) (rx_ct c) 14), .ref (rx_ct c)] (rx_hp L t (rx_u (rx_row hi (rx_ct c + 1) (va_cpy (hi (rx_ct c + 2)) (hi (rx_ct c + 1)) m1a m1b m1n)) (rx_ct c) 7 ((rx_row hi (rx_ct c + 1) (va_cpy (hi (rx_ct c + 2)) (hi (rx_ct c + 1)) m1a m1b m1n)) (rx_ct c) 13)) hl v) Q
  refine rx_w_cp hc (pc := 29) rfl rfl (by decide) ?_
  show rx_aw 95 32 [.ref (rx_ct c)] [] (rx_hp L t (rx_u (rx_u (rx_row hi (rx_ct c + 1) (va_cpy (hi (rx_ct c + 2)) (hi (rx_ct c + 1)) m1a m1b m1n)) (rx_ct c) 7 ((rx_row hi (rx_ct c + 1) (va_cpy (hi (rx_ct c + 2)) (hi (rx_ct c + 1)) m1a m1b m1n)) (rx_ct c) 13)) (rx_ct c) 10 ((rx_u (rx_row hi (rx_ct c + 1) (va_cpy (hi (rx_ct c + 2)) (hi (rx_ct c + 1)) m1a m1b m1n)) (rx_ct c) 7 ((rx_row hi (rx_ct c + 1) (va_cpy (hi (rx_ct c + 2)) (hi (rx_ct c + 1)) m1a m1b m1n)) (rx_ct c) 13)) (rx_ct c) 14)) hl v) Q
  exact rx_aw_ret (pc := 32) rfl k
set_option maxRecDepth 100000 in
/-- CartFloor.guest(I)I -/
theorem w106_guest {L : Nat} {t : List (Nat × Nat)} {hi : Nat → Nat → Int32} {hl : Nat → Nat → Int64} {v : Nat → Nat → Option Nat} {Q : Option Value → rx_H → Prop} {a0 : Int32} (k : rx_me 59 [.ref 13, .int a0] (rx_hp L t hi hl v) (fun r h2 => ∃ z1 : Option Nat, r = some (va_rf z1) ∧ rx_ok2 L t h2 (fun hi1 hl1 v1 => (z1 = none ∧ Q (some (.int (-2 : Int32))) (rx_hp L t hi1 hl1 v1)) ∨ (∃ q1 : Nat, q1 < 6 ∧ z1 = some (rx_ct q1) ∧ (((hi1 (rx_ct q1) 5) = (3 : Int32) → ((0 < (hi1 (rx_ct q1) 7) → Q (some (.int (-2 : Int32))) (rx_hp L t hi1 hl1 v1)) ∧ (¬ (0 < (hi1 (rx_ct q1) 7)) → rx_me 107 [.ref 13] (rx_hp L t hi1 hl1 v1) (fun r h2 => ∃ z4 : Int32, r = some (.int z4) ∧ rx_ok2 L t h2 (fun hi4 hl4 v4 => ((z4 = 0 → rx_me 101 [.ref 84, .ref (rx_ct q1)] (rx_hp L t hi4 hl4 v4) (fun r h2 => ∃ z6 : Int32, r = some (.int z6) ∧ rx_ok2 L t h2 (fun hi6 hl6 v6 => ((z6 < 0 → Q (some (.int z6)) (rx_hp L t hi6 hl6 v6)) ∧ (¬ (z6 < 0) → (∃ m8a m8b m8n : Nat, (0 : Int32) = nI m8a ∧ (0 : Int32) = nI m8b ∧ (hi6 84 5) = nI m8n ∧ m8a + m8n ≤ 400 ∧ m8b + m8n ≤ 400 ∧ (13 = 13 → ∀ i, i < m8n → fits .byte (.int (hi6 85 (m8a + i))) = true) ∧ rx_me 41 [.ref 13] (rx_hp L t (rx_u (rx_row hi6 (rx_ct q1 + 1) (va_cpy (hi6 85) (hi6 (rx_ct q1 + 1)) m8a m8b m8n)) (rx_ct q1) 7 ((rx_row hi6 (rx_ct q1 + 1) (va_cpy (hi6 85) (hi6 (rx_ct q1 + 1)) m8a m8b m8n)) 84 5)) hl6 v6) (fun r h2 => r = none ∧ rx_ok2 L t h2 (fun hi9 hl9 v9 => Q (some (.int z6)) (rx_hp L t hi9 hl9 v9))))))))) ∧ (¬ (z4 = 0) → Q (some (.int (-2 : Int32))) (rx_hp L t hi4 hl4 v4)))))))) ∧ (¬ ((hi1 (rx_ct q1) 5) = (3 : Int32)) → Q (some (.int (-2 : Int32))) (rx_hp L t hi1 hl1 v1))))))) : rx_me 106 [.ref 1, .int a0] (rx_hp L t hi hl v) Q := by
  show rx_aw 106 0 [.ref 1, .int a0, rx_no, rx_no] [] (rx_hp L t hi hl v) Q
  refine rx_aw_s 3 (pc := 0) rfl ?_
  show rx_aw 106 5 [.ref 1, .int a0, rx_no, rx_no] [.int a0, .ref 13] (rx_hp L t hi hl v) Q
  refine rx_w_callR (j := 59) (pc := 5) rfl rfl rfl rfl rfl ?_
  refine rx_aw.mono k (fun r h2 k => ?_)
  obtain ⟨z1, rfl, hi1, hl1, v1, rfl, k⟩ := k
  refine ⟨z1, rfl, ?_⟩
  rcases k with ⟨rfl, k⟩ | ⟨q1, hq1, rfl, k⟩
  · show rx_aw 106 8 [.ref 1, .int a0, rx_no, rx_no] [.null] (rx_hp L t hi1 hl1 v1) Q
    refine rx_aw_s 4 (pc := 8) rfl ?_
    show rx_aw 106 40 [.ref 1, .int a0, .null, rx_no] [.int (-2 : Int32)] (rx_hp L t hi1 hl1 v1) Q
    exact rx_aw_ret (pc := 40) rfl k
  · show rx_aw 106 8 [.ref 1, .int a0, rx_no, rx_no] [.ref (rx_ct q1)] (rx_hp L t hi1 hl1 v1) Q
    refine rx_aw_s 4 (pc := 8) rfl ?_
    show rx_aw 106 14 [.ref 1, .int a0, .ref (rx_ct q1), rx_no] [.ref (rx_ct q1)] (rx_hp L t hi1 hl1 v1) Q
    refine rx_w_cg hq1 (pc := 14) rfl (by decide) (by decide) ?_
    show rx_aw 106 17 [.ref 1, .int a0, .ref (rx_ct q1), rx_no] [.int (hi1 (rx_ct q1) 5)] (rx_hp L t hi1 hl1 v1) Q
    refine rx_aw_s 2 (pc := 17) rfl ?_
    refine rx_w_ifn (c := (hi1 (rx_ct q1) 5) = (3 : Int32)) ⟨fun c2 => ?_, fun c2 => ?_⟩
    · have k := k.1 c2
      show rx_aw 106 21 [.ref 1, .int a0, .ref (rx_ct q1), rx_no] [] (rx_hp L t hi1 hl1 v1) Q
      refine rx_aw_s 1 (pc := 21) rfl ?_
      show rx_aw 106 22 [.ref 1, .int a0, .ref (rx_ct q1), rx_no] [.ref (rx_ct q1)] (rx_hp L t hi1 hl1 v1) Q
      refine rx_w_cg hq1 (pc := 22) rfl (by decide) (by decide) ?_
      show rx_aw 106 25 [.ref 1, .int a0, .ref (rx_ct q1), rx_no] [.int (hi1 (rx_ct q1) 7)] (rx_hp L t hi1 hl1 v1) Q
      refine rx_aw_s 1 (pc := 25) rfl ?_
      refine rx_w_if (c := 0 < (hi1 (rx_ct q1) 7)) ⟨fun c3 => ?_, fun c3 => ?_⟩
      · have k := k.1 c3
        show rx_aw 106 38 [.ref 1, .int a0, .ref (rx_ct q1), rx_no] [] (rx_hp L t hi1 hl1 v1) Q
        refine rx_aw_s 1 (pc := 38) rfl ?_
        show rx_aw 106 40 [.ref 1, .int a0, .ref (rx_ct q1), rx_no] [.int (-2 : Int32)] (rx_hp L t hi1 hl1 v1) Q
        exact rx_aw_ret (pc := 40) rfl k
      · have k := k.2 c3
        show rx_aw 106 28 [.ref 1, .int a0, .ref (rx_ct q1), rx_no] [] (rx_hp L t hi1 hl1 v1) Q
        refine rx_aw_s 2 (pc := 28) rfl ?_
        show rx_aw 106 32 [.ref 1, .int a0, .ref (rx_ct q1), rx_no] [.ref 13] (rx_hp L t hi1 hl1 v1) Q
        refine rx_w_callI (j := 107) (pc := 32) rfl rfl rfl rfl rfl ?_
        refine rx_aw.mono k (fun r h2 k => ?_)
        obtain ⟨z4, rfl, hi4, hl4, v4, rfl, k⟩ := k
        refine ⟨z4, rfl, ?_⟩
        show rx_aw 106 35 [.ref 1, .int a0, .ref (rx_ct q1), rx_no] [.int z4] (rx_hp L t hi4 hl4 v4) Q
        refine rx_aw_s 1 (pc := 35) rfl ?_
        refine rx_w_if (c := z4 = 0) ⟨fun c5 => ?_, fun c5 => ?_⟩
        · have k := k.1 c5
          show rx_aw 106 41 [.ref 1, .int a0, .ref (rx_ct q1), rx_no] [] (rx_hp L t hi4 hl4 v4) Q
          refine rx_aw_s 3 (pc := 41) rfl ?_
          show rx_aw 106 46 [.ref 1, .int a0, .ref (rx_ct q1), rx_no] [.ref (rx_ct q1), .ref 84] (rx_hp L t hi4 hl4 v4) Q
          refine rx_w_callI (j := 101) (pc := 46) rfl rfl rfl rfl rfl ?_
          refine rx_aw.mono k (fun r h2 k => ?_)
          obtain ⟨z6, rfl, hi6, hl6, v6, rfl, k⟩ := k
          refine ⟨z6, rfl, ?_⟩
          show rx_aw 106 49 [.ref 1, .int a0, .ref (rx_ct q1), rx_no] [.int z6] (rx_hp L t hi6 hl6 v6) Q
          refine rx_aw_s 3 (pc := 49) rfl ?_
          refine rx_w_if (c := z6 < 0) ⟨fun c7 => ?_, fun c7 => ?_⟩
          · have k := k.1 c7
            show rx_aw 106 95 [.ref 1, .int a0, .ref (rx_ct q1), .int z6] [] (rx_hp L t hi6 hl6 v6) Q
            refine rx_aw_s 1 (pc := 95) rfl ?_
            show rx_aw 106 96 [.ref 1, .int a0, .ref (rx_ct q1), .int z6] [.int z6] (rx_hp L t hi6 hl6 v6) Q
            exact rx_aw_ret (pc := 96) rfl k
          · have k := k.2 c7
            show rx_aw 106 54 [.ref 1, .int a0, .ref (rx_ct q1), .int z6] [] (rx_hp L t hi6 hl6 v6) Q
            refine rx_aw_s 5 (pc := 54) rfl ?_
            show rx_aw 106 63 [.ref 1, .int a0, .ref (rx_ct q1), .int z6] [.ref (rx_ct q1), .int (0 : Int32), .ref 85] (rx_hp L t hi6 hl6 v6) Q
            refine rx_w_cr hq1 (pc := 63) rfl (by decide) ?_
            show rx_aw 106 66 [.ref 1, .int a0, .ref (rx_ct q1), .int z6] [.ref (rx_ct q1 + 1), .int (0 : Int32), .ref 85] (rx_hp L t hi6 hl6 v6) Q
            refine rx_aw_s 4 (pc := 66) rfl ?_
            show rx_aw 106 74 [.ref 1, .int a0, .ref (rx_ct q1), .int z6] [.int (hi6 84 5), .int (0 : Int32), .ref (rx_ct q1 + 1), .int (0 : Int32), .ref 85] (rx_hp L t hi6 hl6 v6) Q
            obtain ⟨m8a, m8b, m8n, e1, e2, e3, e4, e5, e6, k⟩ := k
            refine rx_aw_cpyI (pc := 74) (g := 13) (ls' := 400) (ld := 400) rfl rfl rfl (rx_ck (rx_cart_s hq1).2.1) (by decide) (by decide) (Nat.lt_of_lt_of_le (rx_ct_pos _) (Nat.le_add_right _ _)) rfl (rx_cle (rx_cart_s hq1).2.1) (by decide) (by decide) ⟨m8a, m8b, m8n, e1, e2, e3, e4, e5, e6, ?_⟩
            show rx_aw 106 77 [.ref 1, .int a0, .ref (rx_ct q1), .int z6] [] (rx_hp L t (rx_row hi6 (rx_ct q1 + 1) (va_cpy (hi6 85) (hi6 (rx_ct q1 + 1)) m8a m8b m8n)) hl6 v6) Q
            refine rx_aw_s 4 (pc := 77) rfl ?_
            show rx_aw 106 85 [.ref 1, .int a0, .ref (rx_ct q1), .int z6] [.int ((rx_row hi6 (rx_ct q1 + 1) (va_cpy (hi6 85) (hi6 (rx_ct q1 + 1)) m8a m8b m8n)) 84 5), .ref (rx_ct q1)] (rx_hp L t (rx_row hi6 (rx_ct q1 + 1) (va_cpy (hi6 85) (hi6 (rx_ct q1 + 1)) m8a m8b m8n)) hl6 v6) Q
            refine rx_w_cp hq1 (pc := 85) rfl rfl (by decide) ?_
            show rx_aw 106 88 [.ref 1, .int a0, .ref (rx_ct q1), .int z6] [] (rx_hp L t (rx_u (rx_row hi6 (rx_ct q1 + 1) (va_cpy (hi6 85) (hi6 (rx_ct q1 + 1)) m8a m8b m8n)) (rx_ct q1) 7 ((rx_row hi6 (rx_ct q1 + 1) (va_cpy (hi6 85) (hi6 (rx_ct q1 + 1)) m8a m8b m8n)) 84 5)) hl6 v6) Q
            refine rx_aw_s 2 (pc := 88) rfl ?_
            show rx_aw 106 92 [.ref 1, .int a0, .ref (rx_ct q1), .int z6] [.ref 13] (rx_hp L t (rx_u (rx_row hi6 (rx_ct q1 + 1) (va_cpy (hi6 85) (hi6 (rx_ct q1 + 1)) m8a m8b m8n)) (rx_ct q1) 7 ((rx_row hi6 (rx_ct q1 + 1) (va_cpy (hi6 85) (hi6 (rx_ct q1 + 1)) m8a m8b m8n)) 84 5)) hl6 v6) Q
            refine rx_w_callV (j := 41) (pc := 92) rfl rfl rfl rfl rfl ?_
            refine rx_aw.mono k (fun r h2 k => ?_)
            obtain ⟨rfl, hi9, hl9, v9, rfl, k⟩ := k
            refine ⟨rfl, ?_⟩
            show rx_aw 106 95 [.ref 1, .int a0, .ref (rx_ct q1), .int z6] [] (rx_hp L t hi9 hl9 v9) Q
            refine rx_aw_s 1 (pc := 95) rfl ?_
            show rx_aw 106 96 [.ref 1, .int a0, .ref (rx_ct q1), .int z6] [.int z6] (rx_hp L t hi9 hl9 v9) Q
            exact rx_aw_ret (pc := 96) rfl k
        · have k := k.2 c5
          show rx_aw 106 38 [.ref 1, .int a0, .ref (rx_ct q1), rx_no] [] (rx_hp L t hi4 hl4 v4) Q
          refine rx_aw_s 1 (pc := 38) rfl ?_
          show rx_aw 106 40 [.ref 1, .int a0, .ref (rx_ct q1), rx_no] [.int (-2 : Int32)] (rx_hp L t hi4 hl4 v4) Q
          exact rx_aw_ret (pc := 40) rfl k
    · have k := k.2 c2
      show rx_aw 106 38 [.ref 1, .int a0, .ref (rx_ct q1), rx_no] [] (rx_hp L t hi1 hl1 v1) Q
      refine rx_aw_s 1 (pc := 38) rfl ?_
      show rx_aw 106 40 [.ref 1, .int a0, .ref (rx_ct q1), rx_no] [.int (-2 : Int32)] (rx_hp L t hi1 hl1 v1) Q
      exact rx_aw_ret (pc := 40) rfl k
set_option maxRecDepth 100000 in
/-- CartFloor.at(III)I -/
theorem w108_at {L : Nat} {t : List (Nat × Nat)} {hi : Nat → Nat → Int32} {hl : Nat → Nat → Int64} {v : Nat → Nat → Option Nat} {Q : Option Value → rx_H → Prop} {a0 : Int32} {a1 : Int32} {a2 : Int32} (k : rx_me 59 [.ref 13, .int a0] (rx_hp L t hi hl v) (fun r h2 => ∃ z1 : Option Nat, r = some (va_rf z1) ∧ rx_ok2 L t h2 (fun hi1 hl1 v1 => (z1 = none ∧ Q (some (.int (-2 : Int32))) (rx_hp L t hi1 hl1 v1)) ∨ (∃ q1 : Nat, q1 < 6 ∧ z1 = some (rx_ct q1) ∧ ((0 ≤ a1 → rx_me 47 [.ref 13, .int a0, .int a1] (rx_hp L t hi1 hl1 v1) (fun r h2 => ∃ z3 : Int32, r = some (.int z3) ∧ rx_ok2 L t h2 (fun hi3 hl3 v3 => ((a2 = (0 : Int32) → rx_me 8 [.int z3] (rx_hp L t hi3 hl3 v3) (fun r h2 => ∃ z5 : Int32, r = some (.int z5) ∧ rx_ok2 L t h2 (fun hi5 hl5 v5 => Q (some (.int z5)) (rx_hp L t hi5 hl5 v5)))) ∧ (¬ (a2 = (0 : Int32)) → ((a2 = (1 : Int32) → rx_me 16 [.int z3] (rx_hp L t hi3 hl3 v3) (fun r h2 => ∃ z6 : Int32, r = some (.int z6) ∧ rx_ok2 L t h2 (fun hi6 hl6 v6 => Q (some (.int z6)) (rx_hp L t hi6 hl6 v6)))) ∧ (¬ (a2 = (1 : Int32)) → ((a2 = (2 : Int32) → rx_me 48 [.int z3] (rx_hp L t hi3 hl3 v3) (fun r h2 => ∃ z7 : Int32, r = some (.int z7) ∧ rx_ok2 L t h2 (fun hi7 hl7 v7 => Q (some (.int z7)) (rx_hp L t hi7 hl7 v7)))) ∧ (¬ (a2 = (2 : Int32)) → ((a2 = (3 : Int32) → rx_me 44 [.ref (rx_ct q1), .int a1] (rx_hp L t hi3 hl3 v3) (fun r h2 => ∃ z8 : Int32, r = some (.int z8) ∧ rx_ok2 L t h2 (fun hi8 hl8 v8 => Q (some (.int z8)) (rx_hp L t hi8 hl8 v8)))) ∧ (¬ (a2 = (3 : Int32)) → Q (some (.int (-2 : Int32))) (rx_hp L t hi3 hl3 v3)))))))))))) ∧ (¬ (0 ≤ a1) → Q (some (.int (-2 : Int32))) (rx_hp L t hi1 hl1 v1))))))) : rx_me 108 [.ref 1, .int a0, .int a1, .int a2] (rx_hp L t hi hl v) Q := by
  show rx_aw 108 0 [.ref 1, .int a0, .int a1, .int a2, rx_no, rx_no] [] (rx_hp L t hi hl v) Q
  refine rx_aw_s 3 (pc := 0) rfl ?_
  show rx_aw 108 5 [.ref 1, .int a0, .int a1, .int a2, rx_no, rx_no] [.int a0, .ref 13] (rx_hp L t hi hl v) Q
  refine rx_w_callR (j := 59) (pc := 5) rfl rfl rfl rfl rfl ?_
  refine rx_aw.mono k (fun r h2 k => ?_)
  obtain ⟨z1, rfl, hi1, hl1, v1, rfl, k⟩ := k
  refine ⟨z1, rfl, ?_⟩
  rcases k with ⟨rfl, k⟩ | ⟨q1, hq1, rfl, k⟩
  · show rx_aw 108 8 [.ref 1, .int a0, .int a1, .int a2, rx_no, rx_no] [.null] (rx_hp L t hi1 hl1 v1) Q
    refine rx_aw_s 4 (pc := 8) rfl ?_
    show rx_aw 108 21 [.ref 1, .int a0, .int a1, .int a2, .null, rx_no] [.int (-2 : Int32)] (rx_hp L t hi1 hl1 v1) Q
    exact rx_aw_ret (pc := 21) rfl k
  · show rx_aw 108 8 [.ref 1, .int a0, .int a1, .int a2, rx_no, rx_no] [.ref (rx_ct q1)] (rx_hp L t hi1 hl1 v1) Q
    refine rx_aw_s 5 (pc := 8) rfl ?_
    refine rx_w_if (c := 0 ≤ a1) ⟨fun c2 => ?_, fun c2 => ?_⟩
    · have k := k.1 c2
      show rx_aw 108 22 [.ref 1, .int a0, .int a1, .int a2, .ref (rx_ct q1), rx_no] [] (rx_hp L t hi1 hl1 v1) Q
      refine rx_aw_s 4 (pc := 22) rfl ?_
      show rx_aw 108 28 [.ref 1, .int a0, .int a1, .int a2, .ref (rx_ct q1), rx_no] [.int a1, .int a0, .ref 13] (rx_hp L t hi1 hl1 v1) Q
      refine rx_w_callI (j := 47) (pc := 28) rfl rfl rfl rfl rfl ?_
      refine rx_aw.mono k (fun r h2 k => ?_)
      obtain ⟨z3, rfl, hi3, hl3, v3, rfl, k⟩ := k
      refine ⟨z3, rfl, ?_⟩
      show rx_aw 108 31 [.ref 1, .int a0, .int a1, .int a2, .ref (rx_ct q1), rx_no] [.int z3] (rx_hp L t hi3 hl3 v3) Q
      refine rx_aw_s 2 (pc := 31) rfl ?_
      show rx_aw 108 34 [.ref 1, .int a0, .int a1, .int a2, .ref (rx_ct q1), .int z3] [.int a2] (rx_hp L t hi3 hl3 v3) Q
      by_cases s4_0 : a2 = (0 : Int32)
      · have k := k.1 s4_0
        refine rx_aw_tsw (pc := 34) (p2 := 64) rfl (by rw [s4_0]; rfl) ?_
        show rx_aw 108 64 [.ref 1, .int a0, .int a1, .int a2, .ref (rx_ct q1), .int z3] [] (rx_hp L t hi3 hl3 v3) Q
        refine rx_aw_s 1 (pc := 64) rfl ?_
        show rx_aw 108 66 [.ref 1, .int a0, .int a1, .int a2, .ref (rx_ct q1), .int z3] [.int z3] (rx_hp L t hi3 hl3 v3) Q
        refine rx_w_callI (j := 8) (pc := 66) rfl rfl rfl rfl rfl ?_
        refine rx_aw.mono k (fun r h2 k => ?_)
        obtain ⟨z5, rfl, hi5, hl5, v5, rfl, k⟩ := k
        refine ⟨z5, rfl, ?_⟩
        show rx_aw 108 69 [.ref 1, .int a0, .int a1, .int a2, .ref (rx_ct q1), .int z3] [.int z5] (rx_hp L t hi5 hl5 v5) Q
        exact rx_aw_ret (pc := 69) rfl k
      · have k := k.2 s4_0
        by_cases s4_1 : a2 = (1 : Int32)
        · have k := k.1 s4_1
          refine rx_aw_tsw (pc := 34) (p2 := 70) rfl (by rw [s4_1]; rfl) ?_
          show rx_aw 108 70 [.ref 1, .int a0, .int a1, .int a2, .ref (rx_ct q1), .int z3] [] (rx_hp L t hi3 hl3 v3) Q
          refine rx_aw_s 1 (pc := 70) rfl ?_
          show rx_aw 108 72 [.ref 1, .int a0, .int a1, .int a2, .ref (rx_ct q1), .int z3] [.int z3] (rx_hp L t hi3 hl3 v3) Q
          refine rx_w_callI (j := 16) (pc := 72) rfl rfl rfl rfl rfl ?_
          refine rx_aw.mono k (fun r h2 k => ?_)
          obtain ⟨z6, rfl, hi6, hl6, v6, rfl, k⟩ := k
          refine ⟨z6, rfl, ?_⟩
          show rx_aw 108 75 [.ref 1, .int a0, .int a1, .int a2, .ref (rx_ct q1), .int z3] [.int z6] (rx_hp L t hi6 hl6 v6) Q
          exact rx_aw_ret (pc := 75) rfl k
        · have k := k.2 s4_1
          by_cases s4_2 : a2 = (2 : Int32)
          · have k := k.1 s4_2
            refine rx_aw_tsw (pc := 34) (p2 := 76) rfl (by rw [s4_2]; rfl) ?_
            show rx_aw 108 76 [.ref 1, .int a0, .int a1, .int a2, .ref (rx_ct q1), .int z3] [] (rx_hp L t hi3 hl3 v3) Q
            refine rx_aw_s 1 (pc := 76) rfl ?_
            show rx_aw 108 78 [.ref 1, .int a0, .int a1, .int a2, .ref (rx_ct q1), .int z3] [.int z3] (rx_hp L t hi3 hl3 v3) Q
            refine rx_w_callI (j := 48) (pc := 78) rfl rfl rfl rfl rfl ?_
            refine rx_aw.mono k (fun r h2 k => ?_)
            obtain ⟨z7, rfl, hi7, hl7, v7, rfl, k⟩ := k
            refine ⟨z7, rfl, ?_⟩
            show rx_aw 108 81 [.ref 1, .int a0, .int a1, .int a2, .ref (rx_ct q1), .int z3] [.int z7] (rx_hp L t hi7 hl7 v7) Q
            exact rx_aw_ret (pc := 81) rfl k
          · have k := k.2 s4_2
            by_cases s4_3 : a2 = (3 : Int32)
            · have k := k.1 s4_3
              refine rx_aw_tsw (pc := 34) (p2 := 82) rfl (by rw [s4_3]; rfl) ?_
              show rx_aw 108 82 [.ref 1, .int a0, .int a1, .int a2, .ref (rx_ct q1), .int z3] [] (rx_hp L t hi3 hl3 v3) Q
              refine rx_aw_s 2 (pc := 82) rfl ?_
              show rx_aw 108 85 [.ref 1, .int a0, .int a1, .int a2, .ref (rx_ct q1), .int z3] [.int a1, .ref (rx_ct q1)] (rx_hp L t hi3 hl3 v3) Q
              refine rx_w_callI (j := 44) (pc := 85) rfl rfl rfl rfl (rx_mayc rfl rfl rfl rfl (rx_ck (rx_cart_s hq1).1) (rx_ct_pos _)) ?_
              refine rx_aw.mono k (fun r h2 k => ?_)
              obtain ⟨z8, rfl, hi8, hl8, v8, rfl, k⟩ := k
              refine ⟨z8, rfl, ?_⟩
              show rx_aw 108 88 [.ref 1, .int a0, .int a1, .int a2, .ref (rx_ct q1), .int z3] [.int z8] (rx_hp L t hi8 hl8 v8) Q
              exact rx_aw_ret (pc := 88) rfl k
            · have k := k.2 s4_3
              have hds4 : ∀ i : Nat, i < 4 → ¬ a2.toInt = 0 + i := by
                intro i hi e
                have := rx_ne_toInt (c := (0 : Int32)) (z := 0) (by decide) s4_0
                have := rx_ne_toInt (c := (1 : Int32)) (z := 1) (by decide) s4_1
                have := rx_ne_toInt (c := (2 : Int32)) (z := 2) (by decide) s4_2
                have := rx_ne_toInt (c := (3 : Int32)) (z := 3) (by decide) s4_3
                omega
              refine rx_aw_tsw (pc := 34) (p2 := 89) rfl (rx_tsw_d hds4 (by decide)) ?_
              show rx_aw 108 89 [.ref 1, .int a0, .int a1, .int a2, .ref (rx_ct q1), .int z3] [] (rx_hp L t hi3 hl3 v3) Q
              refine rx_aw_s 1 (pc := 89) rfl ?_
              show rx_aw 108 91 [.ref 1, .int a0, .int a1, .int a2, .ref (rx_ct q1), .int z3] [.int (-2 : Int32)] (rx_hp L t hi3 hl3 v3) Q
              exact rx_aw_ret (pc := 91) rfl k
    · have k := k.2 c2
      show rx_aw 108 19 [.ref 1, .int a0, .int a1, .int a2, .ref (rx_ct q1), rx_no] [] (rx_hp L t hi1 hl1 v1) Q
      refine rx_aw_s 1 (pc := 19) rfl ?_
      show rx_aw 108 21 [.ref 1, .int a0, .int a1, .int a2, .ref (rx_ct q1), rx_no] [.int (-2 : Int32)] (rx_hp L t hi1 hl1 v1) Q
      exact rx_aw_ret (pc := 21) rfl k
set_option maxRecDepth 100000 in
/-- CartFloor.about(II)I -/
theorem w110_about {L : Nat} {t : List (Nat × Nat)} {hi : Nat → Nat → Int32} {hl : Nat → Nat → Int64} {v : Nat → Nat → Option Nat} {Q : Option Value → rx_H → Prop} {a0 : Int32} {a1 : Int32} (k : rx_me 59 [.ref 13, .int a0] (rx_hp L t hi hl v) (fun r h2 => ∃ z1 : Option Nat, r = some (va_rf z1) ∧ rx_ok2 L t h2 (fun hi1 hl1 v1 => (z1 = none ∧ Q (some (.int (-2 : Int32))) (rx_hp L t hi1 hl1 v1)) ∨ (∃ q1 : Nat, q1 < 6 ∧ z1 = some (rx_ct q1) ∧ ((a1 = (0 : Int32) → Q (some (.int (hi1 (rx_ct q1) 5))) (rx_hp L t hi1 hl1 v1)) ∧ (¬ (a1 = (0 : Int32)) → ((a1 = (1 : Int32) → Q (some (.int (hi1 (rx_ct q1) 7))) (rx_hp L t hi1 hl1 v1)) ∧ (¬ (a1 = (1 : Int32)) → ((a1 = (2 : Int32) → rx_me 111 [.ref (rx_ct q1)] (rx_hp L t hi1 hl1 v1) (fun r h2 => ∃ z3 : Int32, r = some (.int z3) ∧ rx_ok2 L t h2 (fun hi3 hl3 v3 => Q (some (.int z3)) (rx_hp L t hi3 hl3 v3)))) ∧ (¬ (a1 = (2 : Int32)) → ((a1 = (3 : Int32) → rx_me 62 [.ref (rx_ct q1)] (rx_hp L t hi1 hl1 v1) (fun r h2 => ∃ z4 : Int32, r = some (.int z4) ∧ rx_ok2 L t h2 (fun hi4 hl4 v4 => ((z4 = 0 → Q (some (.int (0 : Int32))) (rx_hp L t hi4 hl4 v4)) ∧ (¬ (z4 = 0) → Q (some (.int (1 : Int32))) (rx_hp L t hi4 hl4 v4)))))) ∧ (¬ (a1 = (3 : Int32)) → ((a1 = (4 : Int32) → Q (some (.int (hi1 (rx_ct q1) 10))) (rx_hp L t hi1 hl1 v1)) ∧ (¬ (a1 = (4 : Int32)) → ((a1 = (5 : Int32) → Q (some (.int (hi1 (rx_ct q1) 8))) (rx_hp L t hi1 hl1 v1)) ∧ (¬ (a1 = (5 : Int32)) → Q (some (.int (-2 : Int32))) (rx_hp L t hi1 hl1 v1))))))))))))))))) : rx_me 110 [.ref 1, .int a0, .int a1] (rx_hp L t hi hl v) Q := by
  show rx_aw 110 0 [.ref 1, .int a0, .int a1, rx_no] [] (rx_hp L t hi hl v) Q
  refine rx_aw_s 3 (pc := 0) rfl ?_
  show rx_aw 110 5 [.ref 1, .int a0, .int a1, rx_no] [.int a0, .ref 13] (rx_hp L t hi hl v) Q
  refine rx_w_callR (j := 59) (pc := 5) rfl rfl rfl rfl rfl ?_
  refine rx_aw.mono k (fun r h2 k => ?_)
  obtain ⟨z1, rfl, hi1, hl1, v1, rfl, k⟩ := k
  refine ⟨z1, rfl, ?_⟩
  rcases k with ⟨rfl, k⟩ | ⟨q1, hq1, rfl, k⟩
  · show rx_aw 110 8 [.ref 1, .int a0, .int a1, rx_no] [.null] (rx_hp L t hi1 hl1 v1) Q
    refine rx_aw_s 4 (pc := 8) rfl ?_
    show rx_aw 110 15 [.ref 1, .int a0, .int a1, .null] [.int (-2 : Int32)] (rx_hp L t hi1 hl1 v1) Q
    exact rx_aw_ret (pc := 15) rfl k
  · show rx_aw 110 8 [.ref 1, .int a0, .int a1, rx_no] [.ref (rx_ct q1)] (rx_hp L t hi1 hl1 v1) Q
    refine rx_aw_s 4 (pc := 8) rfl ?_
    show rx_aw 110 17 [.ref 1, .int a0, .int a1, .ref (rx_ct q1)] [.int a1] (rx_hp L t hi1 hl1 v1) Q
    by_cases s2_0 : a1 = (0 : Int32)
    · have k := k.1 s2_0
      refine rx_aw_tsw (pc := 17) (p2 := 56) rfl (by rw [s2_0]; rfl) ?_
      show rx_aw 110 56 [.ref 1, .int a0, .int a1, .ref (rx_ct q1)] [] (rx_hp L t hi1 hl1 v1) Q
      refine rx_aw_s 1 (pc := 56) rfl ?_
      show rx_aw 110 57 [.ref 1, .int a0, .int a1, .ref (rx_ct q1)] [.ref (rx_ct q1)] (rx_hp L t hi1 hl1 v1) Q
      refine rx_w_cg hq1 (pc := 57) rfl (by decide) (by decide) ?_
      show rx_aw 110 60 [.ref 1, .int a0, .int a1, .ref (rx_ct q1)] [.int (hi1 (rx_ct q1) 5)] (rx_hp L t hi1 hl1 v1) Q
      exact rx_aw_ret (pc := 60) rfl k
    · have k := k.2 s2_0
      by_cases s2_1 : a1 = (1 : Int32)
      · have k := k.1 s2_1
        refine rx_aw_tsw (pc := 17) (p2 := 61) rfl (by rw [s2_1]; rfl) ?_
        show rx_aw 110 61 [.ref 1, .int a0, .int a1, .ref (rx_ct q1)] [] (rx_hp L t hi1 hl1 v1) Q
        refine rx_aw_s 1 (pc := 61) rfl ?_
        show rx_aw 110 62 [.ref 1, .int a0, .int a1, .ref (rx_ct q1)] [.ref (rx_ct q1)] (rx_hp L t hi1 hl1 v1) Q
        refine rx_w_cg hq1 (pc := 62) rfl (by decide) (by decide) ?_
        show rx_aw 110 65 [.ref 1, .int a0, .int a1, .ref (rx_ct q1)] [.int (hi1 (rx_ct q1) 7)] (rx_hp L t hi1 hl1 v1) Q
        exact rx_aw_ret (pc := 65) rfl k
      · have k := k.2 s2_1
        by_cases s2_2 : a1 = (2 : Int32)
        · have k := k.1 s2_2
          refine rx_aw_tsw (pc := 17) (p2 := 66) rfl (by rw [s2_2]; rfl) ?_
          show rx_aw 110 66 [.ref 1, .int a0, .int a1, .ref (rx_ct q1)] [] (rx_hp L t hi1 hl1 v1) Q
          refine rx_aw_s 1 (pc := 66) rfl ?_
          show rx_aw 110 67 [.ref 1, .int a0, .int a1, .ref (rx_ct q1)] [.ref (rx_ct q1)] (rx_hp L t hi1 hl1 v1) Q
          refine rx_w_callI (j := 111) (pc := 67) rfl rfl rfl rfl (rx_mayc rfl rfl rfl rfl (rx_ck (rx_cart_s hq1).1) (rx_ct_pos _)) ?_
          refine rx_aw.mono k (fun r h2 k => ?_)
          obtain ⟨z3, rfl, hi3, hl3, v3, rfl, k⟩ := k
          refine ⟨z3, rfl, ?_⟩
          show rx_aw 110 70 [.ref 1, .int a0, .int a1, .ref (rx_ct q1)] [.int z3] (rx_hp L t hi3 hl3 v3) Q
          exact rx_aw_ret (pc := 70) rfl k
        · have k := k.2 s2_2
          by_cases s2_3 : a1 = (3 : Int32)
          · have k := k.1 s2_3
            refine rx_aw_tsw (pc := 17) (p2 := 71) rfl (by rw [s2_3]; rfl) ?_
            show rx_aw 110 71 [.ref 1, .int a0, .int a1, .ref (rx_ct q1)] [] (rx_hp L t hi1 hl1 v1) Q
            refine rx_aw_s 1 (pc := 71) rfl ?_
            show rx_aw 110 72 [.ref 1, .int a0, .int a1, .ref (rx_ct q1)] [.ref (rx_ct q1)] (rx_hp L t hi1 hl1 v1) Q
            refine rx_w_callI (j := 62) (pc := 72) rfl rfl rfl rfl (rx_mayc rfl rfl rfl rfl (rx_ck (rx_cart_s hq1).1) (rx_ct_pos _)) ?_
            refine rx_aw.mono k (fun r h2 k => ?_)
            obtain ⟨z4, rfl, hi4, hl4, v4, rfl, k⟩ := k
            refine ⟨z4, rfl, ?_⟩
            show rx_aw 110 75 [.ref 1, .int a0, .int a1, .ref (rx_ct q1)] [.int z4] (rx_hp L t hi4 hl4 v4) Q
            refine rx_aw_s 1 (pc := 75) rfl ?_
            refine rx_w_if (c := z4 = 0) ⟨fun c5 => ?_, fun c5 => ?_⟩
            · have k := k.1 c5
              show rx_aw 110 82 [.ref 1, .int a0, .int a1, .ref (rx_ct q1)] [] (rx_hp L t hi4 hl4 v4) Q
              refine rx_aw_s 1 (pc := 82) rfl ?_
              show rx_aw 110 83 [.ref 1, .int a0, .int a1, .ref (rx_ct q1)] [.int (0 : Int32)] (rx_hp L t hi4 hl4 v4) Q
              exact rx_aw_ret (pc := 83) rfl k
            · have k := k.2 c5
              show rx_aw 110 78 [.ref 1, .int a0, .int a1, .ref (rx_ct q1)] [] (rx_hp L t hi4 hl4 v4) Q
              refine rx_aw_s 2 (pc := 78) rfl ?_
              show rx_aw 110 83 [.ref 1, .int a0, .int a1, .ref (rx_ct q1)] [.int (1 : Int32)] (rx_hp L t hi4 hl4 v4) Q
              exact rx_aw_ret (pc := 83) rfl k
          · have k := k.2 s2_3
            by_cases s2_4 : a1 = (4 : Int32)
            · have k := k.1 s2_4
              refine rx_aw_tsw (pc := 17) (p2 := 84) rfl (by rw [s2_4]; rfl) ?_
              show rx_aw 110 84 [.ref 1, .int a0, .int a1, .ref (rx_ct q1)] [] (rx_hp L t hi1 hl1 v1) Q
              refine rx_aw_s 1 (pc := 84) rfl ?_
              show rx_aw 110 85 [.ref 1, .int a0, .int a1, .ref (rx_ct q1)] [.ref (rx_ct q1)] (rx_hp L t hi1 hl1 v1) Q
              refine rx_w_cg hq1 (pc := 85) rfl (by decide) (by decide) ?_
              show rx_aw 110 88 [.ref 1, .int a0, .int a1, .ref (rx_ct q1)] [.int (hi1 (rx_ct q1) 10)] (rx_hp L t hi1 hl1 v1) Q
              exact rx_aw_ret (pc := 88) rfl k
            · have k := k.2 s2_4
              by_cases s2_5 : a1 = (5 : Int32)
              · have k := k.1 s2_5
                refine rx_aw_tsw (pc := 17) (p2 := 89) rfl (by rw [s2_5]; rfl) ?_
                show rx_aw 110 89 [.ref 1, .int a0, .int a1, .ref (rx_ct q1)] [] (rx_hp L t hi1 hl1 v1) Q
                refine rx_aw_s 1 (pc := 89) rfl ?_
                show rx_aw 110 90 [.ref 1, .int a0, .int a1, .ref (rx_ct q1)] [.ref (rx_ct q1)] (rx_hp L t hi1 hl1 v1) Q
                refine rx_w_cg hq1 (pc := 90) rfl (by decide) (by decide) ?_
                show rx_aw 110 93 [.ref 1, .int a0, .int a1, .ref (rx_ct q1)] [.int (hi1 (rx_ct q1) 8)] (rx_hp L t hi1 hl1 v1) Q
                exact rx_aw_ret (pc := 93) rfl k
              · have k := k.2 s2_5
                have hds2 : ∀ i : Nat, i < 6 → ¬ a1.toInt = 0 + i := by
                  intro i hi e
                  have := rx_ne_toInt (c := (0 : Int32)) (z := 0) (by decide) s2_0
                  have := rx_ne_toInt (c := (1 : Int32)) (z := 1) (by decide) s2_1
                  have := rx_ne_toInt (c := (2 : Int32)) (z := 2) (by decide) s2_2
                  have := rx_ne_toInt (c := (3 : Int32)) (z := 3) (by decide) s2_3
                  have := rx_ne_toInt (c := (4 : Int32)) (z := 4) (by decide) s2_4
                  have := rx_ne_toInt (c := (5 : Int32)) (z := 5) (by decide) s2_5
                  omega
                refine rx_aw_tsw (pc := 17) (p2 := 94) rfl (rx_tsw_d hds2 (by decide)) ?_
                show rx_aw 110 94 [.ref 1, .int a0, .int a1, .ref (rx_ct q1)] [] (rx_hp L t hi1 hl1 v1) Q
                refine rx_aw_s 1 (pc := 94) rfl ?_
                show rx_aw 110 96 [.ref 1, .int a0, .int a1, .ref (rx_ct q1)] [.int (-2 : Int32)] (rx_hp L t hi1 hl1 v1) Q
                exact rx_aw_ret (pc := 96) rfl k
set_option maxRecDepth 100000 in
/-- CartFloor.count(I)I -/
theorem w112_count {L : Nat} {t : List (Nat × Nat)} {hi : Nat → Nat → Int32} {hl : Nat → Nat → Int64} {v : Nat → Nat → Option Nat} {Q : Option Value → rx_H → Prop} {a0 : Int32} (k : ((a0 = (0 : Int32) → Q (some (.int (hi 13 3))) (rx_hp L t hi hl v)) ∧ (¬ (a0 = (0 : Int32)) → ((a0 = (1 : Int32) → Q (some (.int (hi 13 4))) (rx_hp L t hi hl v)) ∧ (¬ (a0 = (1 : Int32)) → ((a0 = (2 : Int32) → rx_me 113 [.ref 13] (rx_hp L t hi hl v) (fun r h2 => ∃ z2 : Int32, r = some (.int z2) ∧ rx_ok2 L t h2 (fun hi2 hl2 v2 => Q (some (.int z2)) (rx_hp L t hi2 hl2 v2)))) ∧ (¬ (a0 = (2 : Int32)) → ((a0 = (3 : Int32) → rx_me 114 [.ref 13] (rx_hp L t hi hl v) (fun r h2 => ∃ z3 : Int32, r = some (.int z3) ∧ rx_ok2 L t h2 (fun hi3 hl3 v3 => Q (some (.int z3)) (rx_hp L t hi3 hl3 v3)))) ∧ (¬ (a0 = (3 : Int32)) → ((a0 = (4 : Int32) → rx_me 115 [.ref 13, .int (1 : Int32)] (rx_hp L t hi hl v) (fun r h2 => ∃ z4 : Int32, r = some (.int z4) ∧ rx_ok2 L t h2 (fun hi4 hl4 v4 => Q (some (.int z4)) (rx_hp L t hi4 hl4 v4)))) ∧ (¬ (a0 = (4 : Int32)) → ((a0 = (5 : Int32) → rx_me 115 [.ref 13, .int (2 : Int32)] (rx_hp L t hi hl v) (fun r h2 => ∃ z5 : Int32, r = some (.int z5) ∧ rx_ok2 L t h2 (fun hi5 hl5 v5 => Q (some (.int z5)) (rx_hp L t hi5 hl5 v5)))) ∧ (¬ (a0 = (5 : Int32)) → ((a0 = (6 : Int32) → rx_me 116 [.ref 13] (rx_hp L t hi hl v) (fun r h2 => ∃ z6 : Int32, r = some (.int z6) ∧ rx_ok2 L t h2 (fun hi6 hl6 v6 => Q (some (.int z6)) (rx_hp L t hi6 hl6 v6)))) ∧ (¬ (a0 = (6 : Int32)) → ((a0 = (7 : Int32) → rx_me 36 [.ref 13, .null] (rx_hp L t hi hl v) (fun r h2 => ∃ z7 : Int32, r = some (.int z7) ∧ rx_ok2 L t h2 (fun hi7 hl7 v7 => Q (some (.int z7)) (rx_hp L t hi7 hl7 v7)))) ∧ (¬ (a0 = (7 : Int32)) → ((a0 = (8 : Int32) → Q (some (.int (hi 1 8))) (rx_hp L t hi hl v)) ∧ (¬ (a0 = (8 : Int32)) → Q (some (.int (-2 : Int32))) (rx_hp L t hi hl v)))))))))))))))))))) : rx_me 112 [.ref 1, .int a0] (rx_hp L t hi hl v) Q := by
  show rx_aw 112 0 [.ref 1, .int a0] [] (rx_hp L t hi hl v) Q
  refine rx_aw_s 1 (pc := 0) rfl ?_
  show rx_aw 112 1 [.ref 1, .int a0] [.int a0] (rx_hp L t hi hl v) Q
  by_cases s1_0 : a0 = (0 : Int32)
  · have k := k.1 s1_0
    refine rx_aw_tsw (pc := 1) (p2 := 52) rfl (by rw [s1_0]; rfl) ?_
    show rx_aw 112 52 [.ref 1, .int a0] [] (rx_hp L t hi hl v) Q
    refine rx_aw_s 3 (pc := 52) rfl ?_
    show rx_aw 112 59 [.ref 1, .int a0] [.int (hi 13 3)] (rx_hp L t hi hl v) Q
    exact rx_aw_ret (pc := 59) rfl k
  · have k := k.2 s1_0
    by_cases s1_1 : a0 = (1 : Int32)
    · have k := k.1 s1_1
      refine rx_aw_tsw (pc := 1) (p2 := 60) rfl (by rw [s1_1]; rfl) ?_
      show rx_aw 112 60 [.ref 1, .int a0] [] (rx_hp L t hi hl v) Q
      refine rx_aw_s 3 (pc := 60) rfl ?_
      show rx_aw 112 67 [.ref 1, .int a0] [.int (hi 13 4)] (rx_hp L t hi hl v) Q
      exact rx_aw_ret (pc := 67) rfl k
    · have k := k.2 s1_1
      by_cases s1_2 : a0 = (2 : Int32)
      · have k := k.1 s1_2
        refine rx_aw_tsw (pc := 1) (p2 := 68) rfl (by rw [s1_2]; rfl) ?_
        show rx_aw 112 68 [.ref 1, .int a0] [] (rx_hp L t hi hl v) Q
        refine rx_aw_s 2 (pc := 68) rfl ?_
        show rx_aw 112 72 [.ref 1, .int a0] [.ref 13] (rx_hp L t hi hl v) Q
        refine rx_w_callI (j := 113) (pc := 72) rfl rfl rfl rfl rfl ?_
        refine rx_aw.mono k (fun r h2 k => ?_)
        obtain ⟨z2, rfl, hi2, hl2, v2, rfl, k⟩ := k
        refine ⟨z2, rfl, ?_⟩
        show rx_aw 112 75 [.ref 1, .int a0] [.int z2] (rx_hp L t hi2 hl2 v2) Q
        exact rx_aw_ret (pc := 75) rfl k
      · have k := k.2 s1_2
        by_cases s1_3 : a0 = (3 : Int32)
        · have k := k.1 s1_3
          refine rx_aw_tsw (pc := 1) (p2 := 76) rfl (by rw [s1_3]; rfl) ?_
          show rx_aw 112 76 [.ref 1, .int a0] [] (rx_hp L t hi hl v) Q
          refine rx_aw_s 2 (pc := 76) rfl ?_
          show rx_aw 112 80 [.ref 1, .int a0] [.ref 13] (rx_hp L t hi hl v) Q
          refine rx_w_callI (j := 114) (pc := 80) rfl rfl rfl rfl rfl ?_
          refine rx_aw.mono k (fun r h2 k => ?_)
          obtain ⟨z3, rfl, hi3, hl3, v3, rfl, k⟩ := k
          refine ⟨z3, rfl, ?_⟩
          show rx_aw 112 83 [.ref 1, .int a0] [.int z3] (rx_hp L t hi3 hl3 v3) Q
          exact rx_aw_ret (pc := 83) rfl k
        · have k := k.2 s1_3
          by_cases s1_4 : a0 = (4 : Int32)
          · have k := k.1 s1_4
            refine rx_aw_tsw (pc := 1) (p2 := 84) rfl (by rw [s1_4]; rfl) ?_
            show rx_aw 112 84 [.ref 1, .int a0] [] (rx_hp L t hi hl v) Q
            refine rx_aw_s 3 (pc := 84) rfl ?_
            show rx_aw 112 89 [.ref 1, .int a0] [.int (1 : Int32), .ref 13] (rx_hp L t hi hl v) Q
            refine rx_w_callI (j := 115) (pc := 89) rfl rfl rfl rfl rfl ?_
            refine rx_aw.mono k (fun r h2 k => ?_)
            obtain ⟨z4, rfl, hi4, hl4, v4, rfl, k⟩ := k
            refine ⟨z4, rfl, ?_⟩
            show rx_aw 112 92 [.ref 1, .int a0] [.int z4] (rx_hp L t hi4 hl4 v4) Q
            exact rx_aw_ret (pc := 92) rfl k
          · have k := k.2 s1_4
            by_cases s1_5 : a0 = (5 : Int32)
            · have k := k.1 s1_5
              refine rx_aw_tsw (pc := 1) (p2 := 93) rfl (by rw [s1_5]; rfl) ?_
              show rx_aw 112 93 [.ref 1, .int a0] [] (rx_hp L t hi hl v) Q
              refine rx_aw_s 3 (pc := 93) rfl ?_
              show rx_aw 112 98 [.ref 1, .int a0] [.int (2 : Int32), .ref 13] (rx_hp L t hi hl v) Q
              refine rx_w_callI (j := 115) (pc := 98) rfl rfl rfl rfl rfl ?_
              refine rx_aw.mono k (fun r h2 k => ?_)
              obtain ⟨z5, rfl, hi5, hl5, v5, rfl, k⟩ := k
              refine ⟨z5, rfl, ?_⟩
              show rx_aw 112 101 [.ref 1, .int a0] [.int z5] (rx_hp L t hi5 hl5 v5) Q
              exact rx_aw_ret (pc := 101) rfl k
            · have k := k.2 s1_5
              by_cases s1_6 : a0 = (6 : Int32)
              · have k := k.1 s1_6
                refine rx_aw_tsw (pc := 1) (p2 := 102) rfl (by rw [s1_6]; rfl) ?_
                show rx_aw 112 102 [.ref 1, .int a0] [] (rx_hp L t hi hl v) Q
                refine rx_aw_s 2 (pc := 102) rfl ?_
                show rx_aw 112 106 [.ref 1, .int a0] [.ref 13] (rx_hp L t hi hl v) Q
                refine rx_w_callI (j := 116) (pc := 106) rfl rfl rfl rfl rfl ?_
                refine rx_aw.mono k (fun r h2 k => ?_)
                obtain ⟨z6, rfl, hi6, hl6, v6, rfl, k⟩ := k
                refine ⟨z6, rfl, ?_⟩
                show rx_aw 112 109 [.ref 1, .int a0] [.int z6] (rx_hp L t hi6 hl6 v6) Q
                exact rx_aw_ret (pc := 109) rfl k
              · have k := k.2 s1_6
                by_cases s1_7 : a0 = (7 : Int32)
                · have k := k.1 s1_7
                  refine rx_aw_tsw (pc := 1) (p2 := 110) rfl (by rw [s1_7]; rfl) ?_
                  show rx_aw 112 110 [.ref 1, .int a0] [] (rx_hp L t hi hl v) Q
                  refine rx_aw_s 3 (pc := 110) rfl ?_
                  show rx_aw 112 115 [.ref 1, .int a0] [.null, .ref 13] (rx_hp L t hi hl v) Q
                  refine rx_w_callI (j := 36) (pc := 115) rfl rfl rfl rfl rfl ?_
                  refine rx_aw.mono k (fun r h2 k => ?_)
                  obtain ⟨z7, rfl, hi7, hl7, v7, rfl, k⟩ := k
                  refine ⟨z7, rfl, ?_⟩
                  show rx_aw 112 118 [.ref 1, .int a0] [.int z7] (rx_hp L t hi7 hl7 v7) Q
                  exact rx_aw_ret (pc := 118) rfl k
                · have k := k.2 s1_7
                  by_cases s1_8 : a0 = (8 : Int32)
                  · have k := k.1 s1_8
                    refine rx_aw_tsw (pc := 1) (p2 := 119) rfl (by rw [s1_8]; rfl) ?_
                    show rx_aw 112 119 [.ref 1, .int a0] [] (rx_hp L t hi hl v) Q
                    refine rx_aw_s 2 (pc := 119) rfl ?_
                    show rx_aw 112 123 [.ref 1, .int a0] [.int (hi 1 8)] (rx_hp L t hi hl v) Q
                    exact rx_aw_ret (pc := 123) rfl k
                  · have k := k.2 s1_8
                    have hds1 : ∀ i : Nat, i < 9 → ¬ a0.toInt = 0 + i := by
                      intro i hi e
                      have := rx_ne_toInt (c := (0 : Int32)) (z := 0) (by decide) s1_0
                      have := rx_ne_toInt (c := (1 : Int32)) (z := 1) (by decide) s1_1
                      have := rx_ne_toInt (c := (2 : Int32)) (z := 2) (by decide) s1_2
                      have := rx_ne_toInt (c := (3 : Int32)) (z := 3) (by decide) s1_3
                      have := rx_ne_toInt (c := (4 : Int32)) (z := 4) (by decide) s1_4
                      have := rx_ne_toInt (c := (5 : Int32)) (z := 5) (by decide) s1_5
                      have := rx_ne_toInt (c := (6 : Int32)) (z := 6) (by decide) s1_6
                      have := rx_ne_toInt (c := (7 : Int32)) (z := 7) (by decide) s1_7
                      have := rx_ne_toInt (c := (8 : Int32)) (z := 8) (by decide) s1_8
                      omega
                    refine rx_aw_tsw (pc := 1) (p2 := 124) rfl (rx_tsw_d hds1 (by decide)) ?_
                    show rx_aw 112 124 [.ref 1, .int a0] [] (rx_hp L t hi hl v) Q
                    refine rx_aw_s 1 (pc := 124) rfl ?_
                    show rx_aw 112 126 [.ref 1, .int a0] [.int (-2 : Int32)] (rx_hp L t hi hl v) Q
                    exact rx_aw_ret (pc := 126) rfl k
set_option maxRecDepth 100000 in
/-- CartFloor$Trio.leastSum(III)I -/
theorem w124_leastSum {L : Nat} {hi : Nat → Nat → Int32} {hl : Nat → Nat → Int64} {v : Nat → Nat → Option Nat} {Q : Option Value → rx_H → Prop} {a0 : Int32} {a1 : Int32} {a2 : Int32} (k : rx_me 125 [.ref 134] (rx_hp L rx_tr hi hl v) (fun r h2 => r = none ∧ rx_ok2 L rx_tr h2 (fun hi1 hl1 v1 => rx_me 126 [.ref 134, .int a0, .int a1, .int a2] (rx_hp L rx_tr hi1 hl1 v1) (fun r h2 => ∃ z2 : Int64, r = some (.long z2) ∧ rx_ok2 L rx_tr h2 (fun hi2 hl2 v2 => rx_me 127 [.ref 134, .int (0 : Int32), .int a0, .long z2] (rx_hp L rx_tr hi2 hl2 v2) (fun r h2 => ∃ z3 : Int32, r = some (.int z3) ∧ rx_ok2 L rx_tr h2 (fun hi3 hl3 v3 => rx_me 127 [.ref 134, .int (1 : Int32), .int a1, .long z2] (rx_hp L rx_tr hi3 hl3 v3) (fun r h2 => ∃ z4 : Int32, r = some (.int z4) ∧ rx_ok2 L rx_tr h2 (fun hi4 hl4 v4 => rx_me 127 [.ref 134, .int (2 : Int32), .int a2, .long z2] (rx_hp L rx_tr hi4 hl4 v4) (fun r h2 => ∃ z5 : Int32, r = some (.int z5) ∧ rx_ok2 L rx_tr h2 (fun hi5 hl5 v5 => rx_me 131 [.ref 134] (rx_hp L rx_tr hi5 hl5 v5) (fun r h2 => r = none ∧ rx_ok2 L rx_tr h2 (fun hi6 hl6 v6 => rx_me 132 [.ref 134, .int ((z3 + ((21 : Int32) * z4)) + ((441 : Int32) * z5))] (rx_hp L rx_tr hi6 hl6 v6) (fun r h2 => ∃ z7 : Int32, r = some (.int z7) ∧ rx_ok2 L rx_tr h2 (fun hi7 hl7 v7 => ((z7 < (1000000 : Int32) → (∃ j9 : Nat, ((z3 + ((21 : Int32) * z4)) + ((441 : Int32) * z5)) = nI j9 ∧ j9 < 9261 ∧ rx_me 134 [.ref 134, .int ((z3 + ((21 : Int32) * z4)) + ((441 : Int32) * z5)), .int z7] (rx_hp L rx_tr (rx_u hi7 140 j9 (0 : Int32)) hl7 v7) (fun r h2 => r = none ∧ rx_ok2 L rx_tr h2 (fun hi10 hl10 v10 => rx_aw 124 92 [.ref 134, .int a0, .int a1, .int a2, .long z2, rx_no, .int ((z3 + ((21 : Int32) * z4)) + ((441 : Int32) * z5)), .int z7, .int (0 : Int32), .int z7, rx_no, rx_no, rx_no] [] (rx_hp L rx_tr hi10 hl10 v10) Q)))) ∧ (¬ (z7 < (1000000 : Int32)) → Q (some (.int (-1 : Int32))) (rx_hp L rx_tr hi7 hl7 v7)))))))))))))))))) : rx_me 124 [.ref 134, .int a0, .int a1, .int a2] (rx_hp L rx_tr hi hl v) Q := by
  show rx_aw 124 0 [.ref 134, .int a0, .int a1, .int a2, rx_no, rx_no, rx_no, rx_no, rx_no, rx_no, rx_no, rx_no, rx_no] [] (rx_hp L rx_tr hi hl v) Q
  refine rx_aw_s 1 (pc := 0) rfl ?_
  show rx_aw 124 1 [.ref 134, .int a0, .int a1, .int a2, rx_no, rx_no, rx_no, rx_no, rx_no, rx_no, rx_no, rx_no, rx_no] [.ref 134] (rx_hp L rx_tr hi hl v) Q
  refine rx_w_callV (j := 125) (pc := 1) rfl rfl rfl rfl rfl ?_
  refine rx_aw.mono k (fun r h2 k => ?_)
  obtain ⟨rfl, hi1, hl1, v1, rfl, k⟩ := k
  refine ⟨rfl, ?_⟩
  show rx_aw 124 4 [.ref 134, .int a0, .int a1, .int a2, rx_no, rx_no, rx_no, rx_no, rx_no, rx_no, rx_no, rx_no, rx_no] [] (rx_hp L rx_tr hi1 hl1 v1) Q
  refine rx_aw_s 4 (pc := 4) rfl ?_
  show rx_aw 124 8 [.ref 134, .int a0, .int a1, .int a2, rx_no, rx_no, rx_no, rx_no, rx_no, rx_no, rx_no, rx_no, rx_no] [.int a2, .int a1, .int a0, .ref 134] (rx_hp L rx_tr hi1 hl1 v1) Q
  refine rx_w_callL (j := 126) (pc := 8) rfl rfl rfl rfl rfl ?_
  refine rx_aw.mono k (fun r h2 k => ?_)
  obtain ⟨z2, rfl, hi2, hl2, v2, rfl, k⟩ := k
  refine ⟨z2, rfl, ?_⟩
  show rx_aw 124 11 [.ref 134, .int a0, .int a1, .int a2, rx_no, rx_no, rx_no, rx_no, rx_no, rx_no, rx_no, rx_no, rx_no] [.long z2] (rx_hp L rx_tr hi2 hl2 v2) Q
  refine rx_aw_s 5 (pc := 11) rfl ?_
  show rx_aw 124 18 [.ref 134, .int a0, .int a1, .int a2, .long z2, rx_no, rx_no, rx_no, rx_no, rx_no, rx_no, rx_no, rx_no] [.long z2, .int a0, .int (0 : Int32), .ref 134] (rx_hp L rx_tr hi2 hl2 v2) Q
  refine rx_w_callI (j := 127) (pc := 18) rfl rfl rfl rfl rfl ?_
  refine rx_aw.mono k (fun r h2 k => ?_)
  obtain ⟨z3, rfl, hi3, hl3, v3, rfl, k⟩ := k
  refine ⟨z3, rfl, ?_⟩
  show rx_aw 124 21 [.ref 134, .int a0, .int a1, .int a2, .long z2, rx_no, rx_no, rx_no, rx_no, rx_no, rx_no, rx_no, rx_no] [.int z3] (rx_hp L rx_tr hi3 hl3 v3) Q
  refine rx_aw_s 5 (pc := 21) rfl ?_
  show rx_aw 124 28 [.ref 134, .int a0, .int a1, .int a2, .long z2, rx_no, rx_no, rx_no, rx_no, rx_no, rx_no, rx_no, rx_no] [.long z2, .int a1, .int (1 : Int32), .ref 134, .int (21 : Int32), .int z3] (rx_hp L rx_tr hi3 hl3 v3) Q
  refine rx_w_callI (j := 127) (pc := 28) rfl rfl rfl rfl rfl ?_
  refine rx_aw.mono k (fun r h2 k => ?_)
  obtain ⟨z4, rfl, hi4, hl4, v4, rfl, k⟩ := k
  refine ⟨z4, rfl, ?_⟩
  show rx_aw 124 31 [.ref 134, .int a0, .int a1, .int a2, .long z2, rx_no, rx_no, rx_no, rx_no, rx_no, rx_no, rx_no, rx_no] [.int z4, .int (21 : Int32), .int z3] (rx_hp L rx_tr hi4 hl4 v4) Q
  refine rx_aw_s 7 (pc := 31) rfl ?_
  show rx_aw 124 41 [.ref 134, .int a0, .int a1, .int a2, .long z2, rx_no, rx_no, rx_no, rx_no, rx_no, rx_no, rx_no, rx_no] [.long z2, .int a2, .int (2 : Int32), .ref 134, .int (441 : Int32), .int (z3 + ((21 : Int32) * z4))] (rx_hp L rx_tr hi4 hl4 v4) Q
  refine rx_w_callI (j := 127) (pc := 41) rfl rfl rfl rfl rfl ?_
  refine rx_aw.mono k (fun r h2 k => ?_)
  obtain ⟨z5, rfl, hi5, hl5, v5, rfl, k⟩ := k
  refine ⟨z5, rfl, ?_⟩
  show rx_aw 124 44 [.ref 134, .int a0, .int a1, .int a2, .long z2, rx_no, rx_no, rx_no, rx_no, rx_no, rx_no, rx_no, rx_no] [.int z5, .int (441 : Int32), .int (z3 + ((21 : Int32) * z4))] (rx_hp L rx_tr hi5 hl5 v5) Q
  refine rx_aw_s 4 (pc := 44) rfl ?_
  show rx_aw 124 49 [.ref 134, .int a0, .int a1, .int a2, .long z2, rx_no, .int ((z3 + ((21 : Int32) * z4)) + ((441 : Int32) * z5)), rx_no, rx_no, rx_no, rx_no, rx_no, rx_no] [.ref 134] (rx_hp L rx_tr hi5 hl5 v5) Q
  refine rx_w_callV (j := 131) (pc := 49) rfl rfl rfl rfl rfl ?_
  refine rx_aw.mono k (fun r h2 k => ?_)
  obtain ⟨rfl, hi6, hl6, v6, rfl, k⟩ := k
  refine ⟨rfl, ?_⟩
  show rx_aw 124 52 [.ref 134, .int a0, .int a1, .int a2, .long z2, rx_no, .int ((z3 + ((21 : Int32) * z4)) + ((441 : Int32) * z5)), rx_no, rx_no, rx_no, rx_no, rx_no, rx_no] [] (rx_hp L rx_tr hi6 hl6 v6) Q
  refine rx_aw_s 2 (pc := 52) rfl ?_
  show rx_aw 124 55 [.ref 134, .int a0, .int a1, .int a2, .long z2, rx_no, .int ((z3 + ((21 : Int32) * z4)) + ((441 : Int32) * z5)), rx_no, rx_no, rx_no, rx_no, rx_no, rx_no] [.int ((z3 + ((21 : Int32) * z4)) + ((441 : Int32) * z5)), .ref 134] (rx_hp L rx_tr hi6 hl6 v6) Q
  refine rx_w_callI (j := 132) (pc := 55) rfl rfl rfl rfl rfl ?_
  refine rx_aw.mono k (fun r h2 k => ?_)
  obtain ⟨z7, rfl, hi7, hl7, v7, rfl, k⟩ := k
  refine ⟨z7, rfl, ?_⟩
  show rx_aw 124 58 [.ref 134, .int a0, .int a1, .int a2, .long z2, rx_no, .int ((z3 + ((21 : Int32) * z4)) + ((441 : Int32) * z5)), rx_no, rx_no, rx_no, rx_no, rx_no, rx_no] [.int z7] (rx_hp L rx_tr hi7 hl7 v7) Q
  refine rx_aw_s 4 (pc := 58) rfl ?_
  refine rx_w_if (c := z7 < (1000000 : Int32)) ⟨fun c8 => ?_, fun c8 => ?_⟩
  · have k := k.1 c8
    show rx_aw 124 69 [.ref 134, .int a0, .int a1, .int a2, .long z2, rx_no, .int ((z3 + ((21 : Int32) * z4)) + ((441 : Int32) * z5)), .int z7, rx_no, rx_no, rx_no, rx_no, rx_no] [] (rx_hp L rx_tr hi7 hl7 v7) Q
    refine rx_aw_s 4 (pc := 69) rfl ?_
    show rx_aw 124 76 [.ref 134, .int a0, .int a1, .int a2, .long z2, rx_no, .int ((z3 + ((21 : Int32) * z4)) + ((441 : Int32) * z5)), .int z7, rx_no, rx_no, rx_no, rx_no, rx_no] [.int (0 : Int32), .int ((z3 + ((21 : Int32) * z4)) + ((441 : Int32) * z5)), .ref 140] (rx_hp L rx_tr hi7 hl7 v7) Q
    obtain ⟨j9, ej9, hj9, k⟩ := k
    refine rx_aw_iast (pc := 76) (n := 9261) j9 ej9 rfl rfl (by decide) rfl hj9 (by decide) ?_
    show rx_aw 124 77 [.ref 134, .int a0, .int a1, .int a2, .long z2, rx_no, .int ((z3 + ((21 : Int32) * z4)) + ((441 : Int32) * z5)), .int z7, rx_no, rx_no, rx_no, rx_no, rx_no] [] (rx_hp L rx_tr (rx_u hi7 140 j9 (0 : Int32)) hl7 v7) Q
    refine rx_aw_s 3 (pc := 77) rfl ?_
    show rx_aw 124 82 [.ref 134, .int a0, .int a1, .int a2, .long z2, rx_no, .int ((z3 + ((21 : Int32) * z4)) + ((441 : Int32) * z5)), .int z7, rx_no, rx_no, rx_no, rx_no, rx_no] [.int z7, .int ((z3 + ((21 : Int32) * z4)) + ((441 : Int32) * z5)), .ref 134] (rx_hp L rx_tr (rx_u hi7 140 j9 (0 : Int32)) hl7 v7) Q
    refine rx_w_callV (j := 134) (pc := 82) rfl rfl rfl rfl rfl ?_
    refine rx_aw.mono k (fun r h2 k => ?_)
    obtain ⟨rfl, hi10, hl10, v10, rfl, k⟩ := k
    refine ⟨rfl, ?_⟩
    show rx_aw 124 85 [.ref 134, .int a0, .int a1, .int a2, .long z2, rx_no, .int ((z3 + ((21 : Int32) * z4)) + ((441 : Int32) * z5)), .int z7, rx_no, rx_no, rx_no, rx_no, rx_no] [] (rx_hp L rx_tr hi10 hl10 v10) Q
    refine rx_aw_s 4 (pc := 85) rfl ?_
    show rx_aw 124 92 [.ref 134, .int a0, .int a1, .int a2, .long z2, rx_no, .int ((z3 + ((21 : Int32) * z4)) + ((441 : Int32) * z5)), .int z7, .int (0 : Int32), .int z7, rx_no, rx_no, rx_no] [] (rx_hp L rx_tr hi10 hl10 v10) Q
    exact k
  · have k := k.2 c8
    show rx_aw 124 67 [.ref 134, .int a0, .int a1, .int a2, .long z2, rx_no, .int ((z3 + ((21 : Int32) * z4)) + ((441 : Int32) * z5)), .int z7, rx_no, rx_no, rx_no, rx_no, rx_no] [] (rx_hp L rx_tr hi7 hl7 v7) Q
    refine rx_aw_s 1 (pc := 67) rfl ?_
    show rx_aw 124 68 [.ref 134, .int a0, .int a1, .int a2, .long z2, rx_no, .int ((z3 + ((21 : Int32) * z4)) + ((441 : Int32) * z5)), .int z7, rx_no, rx_no, rx_no, rx_no, rx_no] [.int (-1 : Int32)] (rx_hp L rx_tr hi7 hl7 v7) Q
    exact rx_aw_ret (pc := 68) rfl k
set_option maxRecDepth 100000 in
theorem w124_leastSum_92 {L : Nat} {hi : Nat → Nat → Int32} {hl : Nat → Nat → Int64} {v : Nat → Nat → Option Nat} {Q : Option Value → rx_H → Prop} {x1 : Int32} {x2 : Int32} {x3 : Int32} {x4 : Int64} {x6 : Int32} {x7 : Int32} {x8 : Int32} {x9 : Int32} (k : (((1000000 : Int32) ≤ x9 → Q (some (.int (-1 : Int32))) (rx_hp L rx_tr hi hl v)) ∧ (¬ ((1000000 : Int32) ≤ x9) → (((8 : Int32) ≤ x8 → Q (some (.int (-1 : Int32))) (rx_hp L rx_tr hi hl v)) ∧ (¬ ((8 : Int32) ≤ x8) → rx_aw 124 123 [.ref 134, .int x1, .int x2, .int x3, .long x4, rx_no, .int x6, .int x7, .int (x8 + (1 : Int32)), .int x9, .int ((9261 : Int32) + (x9 - x9 / (8 : Int32) * (8 : Int32))), .int (0 : Int32), rx_no] [] (rx_hp L rx_tr hi hl v) Q))))) : rx_aw 124 92 [.ref 134, .int x1, .int x2, .int x3, .long x4, rx_no, .int x6, .int x7, .int x8, .int x9, rx_no, rx_no, rx_no] [] (rx_hp L rx_tr hi hl v) Q := by
  refine rx_aw_s 3 (pc := 92) rfl ?_
  refine rx_w_if (c := (1000000 : Int32) ≤ x9) ⟨fun c11 => ?_, fun c11 => ?_⟩
  · have k := k.1 c11
    show rx_aw 124 195 [.ref 134, .int x1, .int x2, .int x3, .long x4, rx_no, .int x6, .int x7, .int x8, .int x9, rx_no, rx_no, rx_no] [] (rx_hp L rx_tr hi hl v) Q
    refine rx_aw_s 1 (pc := 195) rfl ?_
    show rx_aw 124 196 [.ref 134, .int x1, .int x2, .int x3, .long x4, rx_no, .int x6, .int x7, .int x8, .int x9, rx_no, rx_no, rx_no] [.int (-1 : Int32)] (rx_hp L rx_tr hi hl v) Q
    exact rx_aw_ret (pc := 196) rfl k
  · have k := k.2 c11
    show rx_aw 124 99 [.ref 134, .int x1, .int x2, .int x3, .long x4, rx_no, .int x6, .int x7, .int x8, .int x9, rx_no, rx_no, rx_no] [] (rx_hp L rx_tr hi hl v) Q
    refine rx_aw_s 3 (pc := 99) rfl ?_
    refine rx_w_if (c := (8 : Int32) ≤ x8) ⟨fun c12 => ?_, fun c12 => ?_⟩
    · have k := k.1 c12
      show rx_aw 124 195 [.ref 134, .int x1, .int x2, .int x3, .long x4, rx_no, .int x6, .int x7, .int x8, .int x9, rx_no, rx_no, rx_no] [] (rx_hp L rx_tr hi hl v) Q
      refine rx_aw_s 1 (pc := 195) rfl ?_
      show rx_aw 124 196 [.ref 134, .int x1, .int x2, .int x3, .long x4, rx_no, .int x6, .int x7, .int x8, .int x9, rx_no, rx_no, rx_no] [.int (-1 : Int32)] (rx_hp L rx_tr hi hl v) Q
      exact rx_aw_ret (pc := 196) rfl k
    · have k := k.2 c12
      show rx_aw 124 106 [.ref 134, .int x1, .int x2, .int x3, .long x4, rx_no, .int x6, .int x7, .int x8, .int x9, rx_no, rx_no, rx_no] [] (rx_hp L rx_tr hi hl v) Q
      refine rx_aw_s 4 (pc := 106) rfl ?_
      show rx_aw 124 116 [.ref 134, .int x1, .int x2, .int x3, .long x4, rx_no, .int x6, .int x7, .int (x8 + (1 : Int32)), .int x9, rx_no, rx_no, rx_no] [.int (8 : Int32), .int x9, .int (9261 : Int32)] (rx_hp L rx_tr hi hl v) Q
      refine rx_aw_rem (pc := 116) rfl (by decide) ?_
      show rx_aw 124 117 [.ref 134, .int x1, .int x2, .int x3, .long x4, rx_no, .int x6, .int x7, .int (x8 + (1 : Int32)), .int x9, rx_no, rx_no, rx_no] [.int (x9 - x9 / (8 : Int32) * (8 : Int32)), .int (9261 : Int32)] (rx_hp L rx_tr hi hl v) Q
      refine rx_aw_s 4 (pc := 117) rfl ?_
      show rx_aw 124 123 [.ref 134, .int x1, .int x2, .int x3, .long x4, rx_no, .int x6, .int x7, .int (x8 + (1 : Int32)), .int x9, .int ((9261 : Int32) + (x9 - x9 / (8 : Int32) * (8 : Int32))), .int (0 : Int32), rx_no] [] (rx_hp L rx_tr hi hl v) Q
      exact k
set_option maxRecDepth 100000 in
theorem w124_leastSum_123 {L : Nat} {hi : Nat → Nat → Int32} {hl : Nat → Nat → Int64} {v : Nat → Nat → Option Nat} {Q : Option Value → rx_H → Prop} {x1 : Int32} {x2 : Int32} {x3 : Int32} {x4 : Int64} {x6 : Int32} {x7 : Int32} {x8 : Int32} {x9 : Int32} {x10 : Int32} {x11 : Int32} (k : (((9261 : Int32) ≤ x11 → rx_aw 124 92 [.ref 134, .int x1, .int x2, .int x3, .long x4, rx_no, .int x6, .int x7, .int x8, .int (x9 + (1 : Int32)), rx_no, rx_no, rx_no] [] (rx_hp L rx_tr hi hl v) Q) ∧ (¬ ((9261 : Int32) ≤ x11) → (∃ j14 : Nat, x10 = nI j14 ∧ j14 < 9269 ∧ (((hi 141 j14) = x10 → rx_aw 124 92 [.ref 134, .int x1, .int x2, .int x3, .long x4, rx_no, .int x6, .int x7, .int x8, .int (x9 + (1 : Int32)), rx_no, rx_no, rx_no] [] (rx_hp L rx_tr hi hl v) Q) ∧ (¬ ((hi 141 j14) = x10) → (∃ j16 : Nat, x10 = nI j16 ∧ j16 < 9269 ∧ (((hi 141 j16) = (9260 : Int32) → (∃ j18 : Nat, (hi 141 j16) = nI j18 ∧ j18 < 9261 ∧ Q (some (.int (hi 140 j18))) (rx_hp L rx_tr hi hl v))) ∧ (¬ ((hi 141 j16) = (9260 : Int32)) → rx_me 135 [.ref 134, .int (hi 141 j16)] (rx_hp L rx_tr hi hl v) (fun r h2 => r = none ∧ rx_ok2 L rx_tr h2 (fun hi19 hl19 v19 => rx_me 136 [.ref 134, .int (hi 141 j16)] (rx_hp L rx_tr hi19 hl19 v19) (fun r h2 => r = none ∧ rx_ok2 L rx_tr h2 (fun hi20 hl20 v20 => rx_aw 124 123 [.ref 134, .int x1, .int x2, .int x3, .long x4, rx_no, .int x6, .int x7, .int (0 : Int32), .int x9, .int x10, .int (x11 + (1 : Int32)), rx_no] [] (rx_hp L rx_tr hi20 hl20 v20) Q))))))))))))) : rx_aw 124 123 [.ref 134, .int x1, .int x2, .int x3, .long x4, rx_no, .int x6, .int x7, .int x8, .int x9, .int x10, .int x11, rx_no] [] (rx_hp L rx_tr hi hl v) Q := by
  refine rx_aw_s 3 (pc := 123) rfl ?_
  refine rx_w_if (c := (9261 : Int32) ≤ x11) ⟨fun c13 => ?_, fun c13 => ?_⟩
  · have k := k.1 c13
    show rx_aw 124 189 [.ref 134, .int x1, .int x2, .int x3, .long x4, rx_no, .int x6, .int x7, .int x8, .int x9, .int x10, .int x11, rx_no] [] (rx_hp L rx_tr hi hl v) Q
    refine rx_aw_s 2 (pc := 189) rfl ?_
    show rx_aw 124 92 [.ref 134, .int x1, .int x2, .int x3, .long x4, rx_no, .int x6, .int x7, .int x8, .int (x9 + (1 : Int32)), .int x10, .int x11, rx_no] [] (rx_hp L rx_tr hi hl v) Q
    exact rx_aw_le (ls := [.ref 134, .int x1, .int x2, .int x3, .long x4, rx_no, .int x6, .int x7, .int x8, .int (x9 + (1 : Int32)), rx_no, rx_no, rx_no]) ⟨Or.inr rfl, ⟨Or.inr rfl, ⟨Or.inr rfl, ⟨Or.inr rfl, ⟨Or.inr rfl, ⟨Or.inl rfl, ⟨Or.inr rfl, ⟨Or.inr rfl, ⟨Or.inr rfl, ⟨Or.inr rfl, ⟨Or.inl rfl, ⟨Or.inl rfl, ⟨Or.inl rfl, trivial⟩⟩⟩⟩⟩⟩⟩⟩⟩⟩⟩⟩⟩ k
  · have k := k.2 c13
    show rx_aw 124 131 [.ref 134, .int x1, .int x2, .int x3, .long x4, rx_no, .int x6, .int x7, .int x8, .int x9, .int x10, .int x11, rx_no] [] (rx_hp L rx_tr hi hl v) Q
    refine rx_aw_s 3 (pc := 131) rfl ?_
    show rx_aw 124 137 [.ref 134, .int x1, .int x2, .int x3, .long x4, rx_no, .int x6, .int x7, .int x8, .int x9, .int x10, .int x11, rx_no] [.int x10, .ref 141] (rx_hp L rx_tr hi hl v) Q
    obtain ⟨j14, ej14, hj14, k⟩ := k
    refine rx_aw_iald (pc := 137) (n := 9269) j14 ej14 rfl rfl rfl hj14 (by decide) ?_
    show rx_aw 124 138 [.ref 134, .int x1, .int x2, .int x3, .long x4, rx_no, .int x6, .int x7, .int x8, .int x9, .int x10, .int x11, rx_no] [.int (hi 141 j14)] (rx_hp L rx_tr hi hl v) Q
    refine rx_aw_s 2 (pc := 138) rfl ?_
    refine rx_w_if (c := (hi 141 j14) = x10) ⟨fun c15 => ?_, fun c15 => ?_⟩
    · have k := k.1 c15
      show rx_aw 124 189 [.ref 134, .int x1, .int x2, .int x3, .long x4, rx_no, .int x6, .int x7, .int x8, .int x9, .int x10, .int x11, rx_no] [] (rx_hp L rx_tr hi hl v) Q
      refine rx_aw_s 2 (pc := 189) rfl ?_
      show rx_aw 124 92 [.ref 134, .int x1, .int x2, .int x3, .long x4, rx_no, .int x6, .int x7, .int x8, .int (x9 + (1 : Int32)), .int x10, .int x11, rx_no] [] (rx_hp L rx_tr hi hl v) Q
      exact rx_aw_le (ls := [.ref 134, .int x1, .int x2, .int x3, .long x4, rx_no, .int x6, .int x7, .int x8, .int (x9 + (1 : Int32)), rx_no, rx_no, rx_no]) ⟨Or.inr rfl, ⟨Or.inr rfl, ⟨Or.inr rfl, ⟨Or.inr rfl, ⟨Or.inr rfl, ⟨Or.inl rfl, ⟨Or.inr rfl, ⟨Or.inr rfl, ⟨Or.inr rfl, ⟨Or.inr rfl, ⟨Or.inl rfl, ⟨Or.inl rfl, ⟨Or.inl rfl, trivial⟩⟩⟩⟩⟩⟩⟩⟩⟩⟩⟩⟩⟩ k
    · have k := k.2 c15
      show rx_aw 124 143 [.ref 134, .int x1, .int x2, .int x3, .long x4, rx_no, .int x6, .int x7, .int x8, .int x9, .int x10, .int x11, rx_no] [] (rx_hp L rx_tr hi hl v) Q
      refine rx_aw_s 3 (pc := 143) rfl ?_
      show rx_aw 124 149 [.ref 134, .int x1, .int x2, .int x3, .long x4, rx_no, .int x6, .int x7, .int x8, .int x9, .int x10, .int x11, rx_no] [.int x10, .ref 141] (rx_hp L rx_tr hi hl v) Q
      obtain ⟨j16, ej16, hj16, k⟩ := k
      refine rx_aw_iald (pc := 149) (n := 9269) j16 ej16 rfl rfl rfl hj16 (by decide) ?_
      show rx_aw 124 150 [.ref 134, .int x1, .int x2, .int x3, .long x4, rx_no, .int x6, .int x7, .int x8, .int x9, .int x10, .int x11, rx_no] [.int (hi 141 j16)] (rx_hp L rx_tr hi hl v) Q
      refine rx_aw_s 6 (pc := 150) rfl ?_
      refine rx_w_ifn (c := (hi 141 j16) = (9260 : Int32)) ⟨fun c17 => ?_, fun c17 => ?_⟩
      · have k := k.1 c17
        show rx_aw 124 163 [.ref 134, .int x1, .int x2, .int x3, .long x4, rx_no, .int x6, .int x7, .int (0 : Int32), .int x9, .int x10, .int x11, .int (hi 141 j16)] [] (rx_hp L rx_tr hi hl v) Q
        refine rx_aw_s 3 (pc := 163) rfl ?_
        show rx_aw 124 169 [.ref 134, .int x1, .int x2, .int x3, .long x4, rx_no, .int x6, .int x7, .int (0 : Int32), .int x9, .int x10, .int x11, .int (hi 141 j16)] [.int (hi 141 j16), .ref 140] (rx_hp L rx_tr hi hl v) Q
        obtain ⟨j18, ej18, hj18, k⟩ := k
        refine rx_aw_iald (pc := 169) (n := 9261) j18 ej18 rfl rfl rfl hj18 (by decide) ?_
        show rx_aw 124 170 [.ref 134, .int x1, .int x2, .int x3, .long x4, rx_no, .int x6, .int x7, .int (0 : Int32), .int x9, .int x10, .int x11, .int (hi 141 j16)] [.int (hi 140 j18)] (rx_hp L rx_tr hi hl v) Q
        exact rx_aw_ret (pc := 170) rfl k
      · have k := k.2 c17
        show rx_aw 124 171 [.ref 134, .int x1, .int x2, .int x3, .long x4, rx_no, .int x6, .int x7, .int (0 : Int32), .int x9, .int x10, .int x11, .int (hi 141 j16)] [] (rx_hp L rx_tr hi hl v) Q
        refine rx_aw_s 2 (pc := 171) rfl ?_
        show rx_aw 124 174 [.ref 134, .int x1, .int x2, .int x3, .long x4, rx_no, .int x6, .int x7, .int (0 : Int32), .int x9, .int x10, .int x11, .int (hi 141 j16)] [.int (hi 141 j16), .ref 134] (rx_hp L rx_tr hi hl v) Q
        refine rx_w_callV (j := 135) (pc := 174) rfl rfl rfl rfl rfl ?_
        refine rx_aw.mono k (fun r h2 k => ?_)
        obtain ⟨rfl, hi19, hl19, v19, rfl, k⟩ := k
        refine ⟨rfl, ?_⟩
        show rx_aw 124 177 [.ref 134, .int x1, .int x2, .int x3, .long x4, rx_no, .int x6, .int x7, .int (0 : Int32), .int x9, .int x10, .int x11, .int (hi 141 j16)] [] (rx_hp L rx_tr hi19 hl19 v19) Q
        refine rx_aw_s 2 (pc := 177) rfl ?_
        show rx_aw 124 180 [.ref 134, .int x1, .int x2, .int x3, .long x4, rx_no, .int x6, .int x7, .int (0 : Int32), .int x9, .int x10, .int x11, .int (hi 141 j16)] [.int (hi 141 j16), .ref 134] (rx_hp L rx_tr hi19 hl19 v19) Q
        refine rx_w_callV (j := 136) (pc := 180) rfl rfl rfl rfl rfl ?_
        refine rx_aw.mono k (fun r h2 k => ?_)
        obtain ⟨rfl, hi20, hl20, v20, rfl, k⟩ := k
        refine ⟨rfl, ?_⟩
        show rx_aw 124 183 [.ref 134, .int x1, .int x2, .int x3, .long x4, rx_no, .int x6, .int x7, .int (0 : Int32), .int x9, .int x10, .int x11, .int (hi 141 j16)] [] (rx_hp L rx_tr hi20 hl20 v20) Q
        refine rx_aw_s 2 (pc := 183) rfl ?_
        show rx_aw 124 123 [.ref 134, .int x1, .int x2, .int x3, .long x4, rx_no, .int x6, .int x7, .int (0 : Int32), .int x9, .int x10, .int (x11 + (1 : Int32)), .int (hi 141 j16)] [] (rx_hp L rx_tr hi20 hl20 v20) Q
        exact rx_aw_le (ls := [.ref 134, .int x1, .int x2, .int x3, .long x4, rx_no, .int x6, .int x7, .int (0 : Int32), .int x9, .int x10, .int (x11 + (1 : Int32)), rx_no]) ⟨Or.inr rfl, ⟨Or.inr rfl, ⟨Or.inr rfl, ⟨Or.inr rfl, ⟨Or.inr rfl, ⟨Or.inl rfl, ⟨Or.inr rfl, ⟨Or.inr rfl, ⟨Or.inr rfl, ⟨Or.inr rfl, ⟨Or.inr rfl, ⟨Or.inr rfl, ⟨Or.inl rfl, trivial⟩⟩⟩⟩⟩⟩⟩⟩⟩⟩⟩⟩⟩ k
set_option maxRecDepth 100000 in
/-- CartFloor$Trio.findSeats()V -/
theorem w125_findSeats {L : Nat} {hi : Nat → Nat → Int32} {hl : Nat → Nat → Int64} {v : Nat → Nat → Option Nat} {Q : Option Value → rx_H → Prop}  (k : rx_aw 125 7 [.ref 134, .int (0 : Int32)] [] (rx_hp L rx_tr (rx_u hi 134 10 (0 : Int32)) hl v) Q) : rx_me 125 [.ref 134] (rx_hp L rx_tr hi hl v) Q := by
  show rx_aw 125 0 [.ref 134, rx_no] [] (rx_hp L rx_tr hi hl v) Q
  refine rx_aw_s 5 (pc := 0) rfl ?_
  show rx_aw 125 7 [.ref 134, .int (0 : Int32)] [] (rx_hp L rx_tr (rx_u hi 134 10 (0 : Int32)) hl v) Q
  exact k
set_option maxRecDepth 100000 in
theorem w125_findSeats_7 {L : Nat} {hi : Nat → Nat → Int32} {hl : Nat → Nat → Int64} {v : Nat → Nat → Option Nat} {Q : Option Value → rx_H → Prop} {x1 : Int32} (k : (((64 : Int32) ≤ x1 → Q none (rx_hp L rx_tr hi hl v)) ∧ (¬ ((64 : Int32) ≤ x1) → rx_me 9 [.int x1] (rx_hp L rx_tr hi hl v) (fun r h2 => ∃ z2 : Int64, r = some (.long z2) ∧ rx_ok2 L rx_tr h2 (fun hi2 hl2 v2 => (((lg_cmp (((hl 7 2) &&& ((hl 7 10) ^^^ (-1 : Int64))) &&& z2) (0 : Int64)) = 0 → rx_aw 125 7 [.ref 134, .int (x1 + (1 : Int32))] [] (rx_hp L rx_tr hi2 hl2 v2) Q) ∧ (¬ ((lg_cmp (((hl 7 2) &&& ((hl 7 10) ^^^ (-1 : Int64))) &&& z2) (0 : Int64)) = 0) → (((20 : Int32) ≤ (hi2 134 10) → rx_aw 125 7 [.ref 134, .int (x1 + (1 : Int32))] [] (rx_hp L rx_tr hi2 hl2 v2) Q) ∧ (¬ ((20 : Int32) ≤ (hi2 134 10)) → (∃ j5 : Nat, (hi2 134 10) = nI j5 ∧ j5 < 20 ∧ rx_aw 125 7 [.ref 134, .int (x1 + (1 : Int32))] [] (rx_hp L rx_tr (rx_u (rx_u hi2 135 j5 x1) 134 10 (((rx_u hi2 135 j5 x1) 134 10) + (1 : Int32))) hl2 v2) Q)))))))))) : rx_aw 125 7 [.ref 134, .int x1] [] (rx_hp L rx_tr hi hl v) Q := by
  refine rx_aw_s 3 (pc := 7) rfl ?_
  refine rx_w_if (c := (64 : Int32) ≤ x1) ⟨fun c1 => ?_, fun c1 => ?_⟩
  · have k := k.1 c1
    show rx_aw 125 77 [.ref 134, .int x1] [] (rx_hp L rx_tr hi hl v) Q
    exact rx_aw_ret (pc := 77) rfl k
  · have k := k.2 c1
    show rx_aw 125 13 [.ref 134, .int x1] [] (rx_hp L rx_tr hi hl v) Q
    refine rx_aw_s 10 (pc := 13) rfl ?_
    show rx_aw 125 33 [.ref 134, .int x1] [.int x1, .long ((hl 7 2) &&& ((hl 7 10) ^^^ (-1 : Int64)))] (rx_hp L rx_tr hi hl v) Q
    refine rx_w_callL (j := 9) (pc := 33) rfl rfl rfl rfl rfl ?_
    refine rx_aw.mono k (fun r h2 k => ?_)
    obtain ⟨z2, rfl, hi2, hl2, v2, rfl, k⟩ := k
    refine ⟨z2, rfl, ?_⟩
    show rx_aw 125 36 [.ref 134, .int x1] [.long z2, .long ((hl 7 2) &&& ((hl 7 10) ^^^ (-1 : Int64)))] (rx_hp L rx_tr hi2 hl2 v2) Q
    refine rx_aw_s 4 (pc := 36) rfl ?_
    refine rx_w_if (c := (lg_cmp (((hl 7 2) &&& ((hl 7 10) ^^^ (-1 : Int64))) &&& z2) (0 : Int64)) = 0) ⟨fun c3 => ?_, fun c3 => ?_⟩
    · have k := k.1 c3
      show rx_aw 125 71 [.ref 134, .int x1] [] (rx_hp L rx_tr hi2 hl2 v2) Q
      refine rx_aw_s 2 (pc := 71) rfl ?_
      show rx_aw 125 7 [.ref 134, .int (x1 + (1 : Int32))] [] (rx_hp L rx_tr hi2 hl2 v2) Q
      exact k
    · have k := k.2 c3
      show rx_aw 125 42 [.ref 134, .int x1] [] (rx_hp L rx_tr hi2 hl2 v2) Q
      refine rx_aw_s 4 (pc := 42) rfl ?_
      refine rx_w_if (c := (20 : Int32) ≤ (hi2 134 10)) ⟨fun c4 => ?_, fun c4 => ?_⟩
      · have k := k.1 c4
        show rx_aw 125 71 [.ref 134, .int x1] [] (rx_hp L rx_tr hi2 hl2 v2) Q
        refine rx_aw_s 2 (pc := 71) rfl ?_
        show rx_aw 125 7 [.ref 134, .int (x1 + (1 : Int32))] [] (rx_hp L rx_tr hi2 hl2 v2) Q
        exact k
      · have k := k.2 c4
        show rx_aw 125 51 [.ref 134, .int x1] [] (rx_hp L rx_tr hi2 hl2 v2) Q
        refine rx_aw_s 5 (pc := 51) rfl ?_
        show rx_aw 125 60 [.ref 134, .int x1] [.int x1, .int (hi2 134 10), .ref 135] (rx_hp L rx_tr hi2 hl2 v2) Q
        obtain ⟨j5, ej5, hj5, k⟩ := k
        refine rx_aw_iast (pc := 60) (n := 20) j5 ej5 rfl rfl (by decide) rfl hj5 (by decide) ?_
        show rx_aw 125 61 [.ref 134, .int x1] [] (rx_hp L rx_tr (rx_u hi2 135 j5 x1) hl2 v2) Q
        refine rx_aw_s 8 (pc := 61) rfl ?_
        show rx_aw 125 7 [.ref 134, .int (x1 + (1 : Int32))] [] (rx_hp L rx_tr (rx_u (rx_u hi2 135 j5 x1) 134 10 (((rx_u hi2 135 j5 x1) 134 10) + (1 : Int32))) hl2 v2) Q
        exact k
set_option maxRecDepth 100000 in
/-- CartFloor$Trio.stoodByOthers(III)J -/
theorem w126_stoodByOthers {L : Nat} {hi : Nat → Nat → Int32} {hl : Nat → Nat → Int64} {v : Nat → Nat → Option Nat} {Q : Option Value → rx_H → Prop} {a0 : Int32} {a1 : Int32} {a2 : Int32} (k : rx_aw 126 6 [.ref 134, .int a0, .int a1, .int a2, .long (0 : Int64), rx_no, .int (0 : Int32)] [] (rx_hp L rx_tr hi hl v) Q) : rx_me 126 [.ref 134, .int a0, .int a1, .int a2] (rx_hp L rx_tr hi hl v) Q := by
  show rx_aw 126 0 [.ref 134, .int a0, .int a1, .int a2, rx_no, rx_no, rx_no] [] (rx_hp L rx_tr hi hl v) Q
  refine rx_aw_s 4 (pc := 0) rfl ?_
  show rx_aw 126 6 [.ref 134, .int a0, .int a1, .int a2, .long (0 : Int64), rx_no, .int (0 : Int32)] [] (rx_hp L rx_tr hi hl v) Q
  exact k
set_option maxRecDepth 100000 in
theorem w126_stoodByOthers_6 {L : Nat} {hi : Nat → Nat → Int32} {hl : Nat → Nat → Int64} {v : Nat → Nat → Option Nat} {Q : Option Value → rx_H → Prop} {x1 : Int32} {x2 : Int32} {x3 : Int32} {x4 : Int64} {x6 : Int32} (k : (((hi 13 3) ≤ x6 → Q (some (.long x4)) (rx_hp L rx_tr hi hl v)) ∧ (¬ ((hi 13 3) ≤ x6) → ((x6 = x1 → rx_aw 126 6 [.ref 134, .int x1, .int x2, .int x3, .long x4, rx_no, .int (x6 + (1 : Int32))] [] (rx_hp L rx_tr hi hl v) Q) ∧ (¬ (x6 = x1) → ((x6 = x2 → rx_aw 126 6 [.ref 134, .int x1, .int x2, .int x3, .long x4, rx_no, .int (x6 + (1 : Int32))] [] (rx_hp L rx_tr hi hl v) Q) ∧ (¬ (x6 = x2) → ((x6 = x3 → rx_aw 126 6 [.ref 134, .int x1, .int x2, .int x3, .long x4, rx_no, .int (x6 + (1 : Int32))] [] (rx_hp L rx_tr hi hl v) Q) ∧ (¬ (x6 = x3) → (∃ j5 : Nat, x6 = nI j5 ∧ j5 < 6 ∧ (∃ j6 : Nat, (0 : Int32) = nI j6 ∧ j6 < 402 ∧ rx_aw 126 6 [.ref 134, .int x1, .int x2, .int x3, .long (x4 ||| (hl (rx_ct j5 + 4) j6)), rx_no, .int (x6 + (1 : Int32))] [] (rx_hp L rx_tr hi hl v) Q))))))))))) : rx_aw 126 6 [.ref 134, .int x1, .int x2, .int x3, .long x4, rx_no, .int x6] [] (rx_hp L rx_tr hi hl v) Q := by
  refine rx_aw_s 5 (pc := 6) rfl ?_
  refine rx_w_if (c := (hi 13 3) ≤ x6) ⟨fun c1 => ?_, fun c1 => ?_⟩
  · have k := k.1 c1
    show rx_aw 126 62 [.ref 134, .int x1, .int x2, .int x3, .long x4, rx_no, .int x6] [] (rx_hp L rx_tr hi hl v) Q
    refine rx_aw_s 1 (pc := 62) rfl ?_
    show rx_aw 126 64 [.ref 134, .int x1, .int x2, .int x3, .long x4, rx_no, .int x6] [.long x4] (rx_hp L rx_tr hi hl v) Q
    exact rx_aw_ret (pc := 64) rfl k
  · have k := k.2 c1
    show rx_aw 126 18 [.ref 134, .int x1, .int x2, .int x3, .long x4, rx_no, .int x6] [] (rx_hp L rx_tr hi hl v) Q
    refine rx_aw_s 3 (pc := 18) rfl ?_
    refine rx_w_if (c := x6 = x1) ⟨fun c2 => ?_, fun c2 => ?_⟩
    · have k := k.1 c2
      show rx_aw 126 56 [.ref 134, .int x1, .int x2, .int x3, .long x4, rx_no, .int x6] [] (rx_hp L rx_tr hi hl v) Q
      refine rx_aw_s 2 (pc := 56) rfl ?_
      show rx_aw 126 6 [.ref 134, .int x1, .int x2, .int x3, .long x4, rx_no, .int (x6 + (1 : Int32))] [] (rx_hp L rx_tr hi hl v) Q
      exact k
    · have k := k.2 c2
      show rx_aw 126 24 [.ref 134, .int x1, .int x2, .int x3, .long x4, rx_no, .int x6] [] (rx_hp L rx_tr hi hl v) Q
      refine rx_aw_s 3 (pc := 24) rfl ?_
      refine rx_w_if (c := x6 = x2) ⟨fun c3 => ?_, fun c3 => ?_⟩
      · have k := k.1 c3
        show rx_aw 126 56 [.ref 134, .int x1, .int x2, .int x3, .long x4, rx_no, .int x6] [] (rx_hp L rx_tr hi hl v) Q
        refine rx_aw_s 2 (pc := 56) rfl ?_
        show rx_aw 126 6 [.ref 134, .int x1, .int x2, .int x3, .long x4, rx_no, .int (x6 + (1 : Int32))] [] (rx_hp L rx_tr hi hl v) Q
        exact k
      · have k := k.2 c3
        show rx_aw 126 30 [.ref 134, .int x1, .int x2, .int x3, .long x4, rx_no, .int x6] [] (rx_hp L rx_tr hi hl v) Q
        refine rx_aw_s 3 (pc := 30) rfl ?_
        refine rx_w_if (c := x6 = x3) ⟨fun c4 => ?_, fun c4 => ?_⟩
        · have k := k.1 c4
          show rx_aw 126 56 [.ref 134, .int x1, .int x2, .int x3, .long x4, rx_no, .int x6] [] (rx_hp L rx_tr hi hl v) Q
          refine rx_aw_s 2 (pc := 56) rfl ?_
          show rx_aw 126 6 [.ref 134, .int x1, .int x2, .int x3, .long x4, rx_no, .int (x6 + (1 : Int32))] [] (rx_hp L rx_tr hi hl v) Q
          exact k
        · have k := k.2 c4
          show rx_aw 126 36 [.ref 134, .int x1, .int x2, .int x3, .long x4, rx_no, .int x6] [] (rx_hp L rx_tr hi hl v) Q
          refine rx_aw_s 5 (pc := 36) rfl ?_
          show rx_aw 126 47 [.ref 134, .int x1, .int x2, .int x3, .long x4, rx_no, .int x6] [.int x6, .ref 14, .long x4] (rx_hp L rx_tr hi hl v) Q
          obtain ⟨j5, ej5, hj5, k⟩ := k
          refine rx_w_carts (pc := 47) rfl ⟨j5, ej5, hj5, ?_⟩
          show rx_aw 126 48 [.ref 134, .int x1, .int x2, .int x3, .long x4, rx_no, .int x6] [.ref (rx_ct j5), .long x4] (rx_hp L rx_tr hi hl v) Q
          refine rx_w_cr hj5 (pc := 48) rfl (by decide) ?_
          show rx_aw 126 51 [.ref 134, .int x1, .int x2, .int x3, .long x4, rx_no, .int x6] [.ref (rx_ct j5 + 4), .long x4] (rx_hp L rx_tr hi hl v) Q
          refine rx_aw_s 1 (pc := 51) rfl ?_
          show rx_aw 126 52 [.ref 134, .int x1, .int x2, .int x3, .long x4, rx_no, .int x6] [.int (0 : Int32), .ref (rx_ct j5 + 4), .long x4] (rx_hp L rx_tr hi hl v) Q
          obtain ⟨j6, ej6, hj6, k⟩ := k
          refine rx_aw_lald (pc := 52) (n := 402) j6 ej6 rfl (rx_ck (rx_cart_s hj5).2.2.2.2.1) (Nat.lt_of_lt_of_le (rx_ct_pos _) (Nat.le_add_right _ _)) (rx_cle (rx_cart_s hj5).2.2.2.2.1) hj6 (by decide) ?_
          show rx_aw 126 53 [.ref 134, .int x1, .int x2, .int x3, .long x4, rx_no, .int x6] [.long (hl (rx_ct j5 + 4) j6), .long x4] (rx_hp L rx_tr hi hl v) Q
          refine rx_aw_s 4 (pc := 53) rfl ?_
          show rx_aw 126 6 [.ref 134, .int x1, .int x2, .int x3, .long (x4 ||| (hl (rx_ct j5 + 4) j6)), rx_no, .int (x6 + (1 : Int32))] [] (rx_hp L rx_tr hi hl v) Q
          exact k
set_option maxRecDepth 100000 in
/-- CartFloor$Trio.prepare(IIJ)I -/
theorem w127_prepare {L : Nat} {hi : Nat → Nat → Int32} {hl : Nat → Nat → Int64} {v : Nat → Nat → Option Nat} {Q : Option Value → rx_H → Prop} {a0 : Int32} {a1 : Int32} {a2 : Int64} (k : rx_me 59 [.ref 13, .int a1] (rx_hp L rx_tr hi hl v) (fun r h2 => ∃ z1 : Option Nat, r = some (va_rf z1) ∧ rx_ok2 L rx_tr h2 (fun hi1 hl1 v1 => (z1 = none ∧ (∃ j2 : Nat, a0 = nI j2 ∧ j2 < 3 ∧ rx_me 128 [.ref 136, .int ((a0 * (5 : Int32)) * (21 : Int32)), .int (((a0 + (1 : Int32)) * (5 : Int32)) * (21 : Int32)), .int (-1 : Int32)] (rx_hp L rx_tr (rx_u hi1 138 j2 (-1 : Int32)) hl1 v1) (fun r h2 => r = none ∧ rx_ok2 L rx_tr h2 (fun hi3 hl3 v3 => rx_me 128 [.ref 137, .int (a0 * (21 : Int32)), .int ((a0 + (1 : Int32)) * (21 : Int32)), .int (1000000 : Int32)] (rx_hp L rx_tr hi3 hl3 v3) (fun r h2 => r = none ∧ rx_ok2 L rx_tr h2 (fun hi4 hl4 v4 => (∃ j5 : Nat, ((a0 * (21 : Int32)) + (20 : Int32)) = nI j5 ∧ j5 < 63 ∧ Q (some (.int (20 : Int32))) (rx_hp L rx_tr (rx_u hi4 137 j5 (0 : Int32)) hl4 v4)))))))) ∨ (∃ q1 : Nat, q1 < 6 ∧ z1 = some (rx_ct q1) ∧ (∃ j6 : Nat, a0 = nI j6 ∧ j6 < 3 ∧ rx_me 128 [.ref 136, .int ((a0 * (5 : Int32)) * (21 : Int32)), .int (((a0 + (1 : Int32)) * (5 : Int32)) * (21 : Int32)), .int (-1 : Int32)] (rx_hp L rx_tr (rx_u hi1 138 j6 (-1 : Int32)) hl1 v1) (fun r h2 => r = none ∧ rx_ok2 L rx_tr h2 (fun hi7 hl7 v7 => rx_me 128 [.ref 137, .int (a0 * (21 : Int32)), .int ((a0 + (1 : Int32)) * (21 : Int32)), .int (1000000 : Int32)] (rx_hp L rx_tr hi7 hl7 v7) (fun r h2 => r = none ∧ rx_ok2 L rx_tr h2 (fun hi8 hl8 v8 => (∃ j9 : Nat, ((a0 * (21 : Int32)) + (20 : Int32)) = nI j9 ∧ j9 < 63 ∧ ((((rx_u hi8 137 j9 (0 : Int32)) (rx_ct q1) 5) = (1 : Int32) → rx_me 129 [.ref 134, .int ((rx_u hi8 137 j9 (0 : Int32)) (rx_ct q1) 8)] (rx_hp L rx_tr (rx_u hi8 137 j9 (0 : Int32)) hl8 v8) (fun r h2 => ∃ z11 : Int32, r = some (.int z11) ∧ rx_ok2 L rx_tr h2 (fun hi11 hl11 v11 => (∃ j12 : Nat, a0 = nI j12 ∧ j12 < 3 ∧ rx_aw 127 151 [.ref 134, .int a0, .int a1, .long a2, rx_no, .ref (rx_ct q1), .long (((hl8 7 2) &&& ((hl8 7 10) ^^^ (-1 : Int64))) &&& (a2 ^^^ (-1 : Int64))), rx_no, .int (0 : Int32), rx_no, rx_no, rx_no] [] (rx_hp L rx_tr (rx_u hi11 138 j12 z11) hl11 v11) Q)))) ∧ (¬ (((rx_u hi8 137 j9 (0 : Int32)) (rx_ct q1) 5) = (1 : Int32)) → rx_me 37 [.ref 13, .int (0 : Int32), .int (-1 : Int32)] (rx_hp L rx_tr (rx_u hi8 137 j9 (0 : Int32)) hl8 v8) (fun r h2 => ∃ z13 : Int64, r = some (.long z13) ∧ rx_ok2 L rx_tr h2 (fun hi13 hl13 v13 => rx_me 129 [.ref 134, .int (hi13 (rx_ct q1) 8)] (rx_hp L rx_tr hi13 hl13 v13) (fun r h2 => ∃ z14 : Int32, r = some (.int z14) ∧ rx_ok2 L rx_tr h2 (fun hi14 hl14 v14 => (∃ j15 : Nat, a0 = nI j15 ∧ j15 < 3 ∧ rx_aw 127 151 [.ref 134, .int a0, .int a1, .long a2, rx_no, .ref (rx_ct q1), .long ((((hl8 7 2) &&& ((hl8 7 10) ^^^ (-1 : Int64))) &&& (a2 ^^^ (-1 : Int64))) &&& (z13 ^^^ (-1 : Int64))), rx_no, .int (0 : Int32), rx_no, rx_no, rx_no] [] (rx_hp L rx_tr (rx_u hi14 138 j15 z14) hl14 v14) Q))))))))))))))))) : rx_me 127 [.ref 134, .int a0, .int a1, .long a2] (rx_hp L rx_tr hi hl v) Q := by
  show rx_aw 127 0 [.ref 134, .int a0, .int a1, .long a2, rx_no, rx_no, rx_no, rx_no, rx_no, rx_no, rx_no, rx_no] [] (rx_hp L rx_tr hi hl v) Q
  refine rx_aw_s 3 (pc := 0) rfl ?_
  show rx_aw 127 5 [.ref 134, .int a0, .int a1, .long a2, rx_no, rx_no, rx_no, rx_no, rx_no, rx_no, rx_no, rx_no] [.int a1, .ref 13] (rx_hp L rx_tr hi hl v) Q
  refine rx_w_callR (j := 59) (pc := 5) rfl rfl rfl rfl rfl ?_
  refine rx_aw.mono k (fun r h2 k => ?_)
  obtain ⟨z1, rfl, hi1, hl1, v1, rfl, k⟩ := k
  refine ⟨z1, rfl, ?_⟩
  rcases k with ⟨rfl, k⟩ | ⟨q1, hq1, rfl, k⟩
  · show rx_aw 127 8 [.ref 134, .int a0, .int a1, .long a2, rx_no, rx_no, rx_no, rx_no, rx_no, rx_no, rx_no, rx_no] [.null] (rx_hp L rx_tr hi1 hl1 v1) Q
    refine rx_aw_s 5 (pc := 8) rfl ?_
    show rx_aw 127 16 [.ref 134, .int a0, .int a1, .long a2, rx_no, .null, rx_no, rx_no, rx_no, rx_no, rx_no, rx_no] [.int (-1 : Int32), .int a0, .ref 138] (rx_hp L rx_tr hi1 hl1 v1) Q
    obtain ⟨j2, ej2, hj2, k⟩ := k
    refine rx_aw_iast (pc := 16) (n := 3) j2 ej2 rfl rfl (by decide) rfl hj2 (by decide) ?_
    show rx_aw 127 17 [.ref 134, .int a0, .int a1, .long a2, rx_no, .null, rx_no, rx_no, rx_no, rx_no, rx_no, rx_no] [] (rx_hp L rx_tr (rx_u hi1 138 j2 (-1 : Int32)) hl1 v1) Q
    refine rx_aw_s 15 (pc := 17) rfl ?_
    show rx_aw 127 36 [.ref 134, .int a0, .int a1, .long a2, rx_no, .null, rx_no, rx_no, rx_no, rx_no, rx_no, rx_no] [.int (-1 : Int32), .int (((a0 + (1 : Int32)) * (5 : Int32)) * (21 : Int32)), .int ((a0 * (5 : Int32)) * (21 : Int32)), .ref 136] (rx_hp L rx_tr (rx_u hi1 138 j2 (-1 : Int32)) hl1 v1) Q
    refine rx_w_callV (j := 128) (pc := 36) rfl rfl rfl rfl rfl ?_
    refine rx_aw.mono k (fun r h2 k => ?_)
    obtain ⟨rfl, hi3, hl3, v3, rfl, k⟩ := k
    refine ⟨rfl, ?_⟩
    show rx_aw 127 39 [.ref 134, .int a0, .int a1, .long a2, rx_no, .null, rx_no, rx_no, rx_no, rx_no, rx_no, rx_no] [] (rx_hp L rx_tr hi3 hl3 v3) Q
    refine rx_aw_s 11 (pc := 39) rfl ?_
    show rx_aw 127 55 [.ref 134, .int a0, .int a1, .long a2, rx_no, .null, rx_no, rx_no, rx_no, rx_no, rx_no, rx_no] [.int (1000000 : Int32), .int ((a0 + (1 : Int32)) * (21 : Int32)), .int (a0 * (21 : Int32)), .ref 137] (rx_hp L rx_tr hi3 hl3 v3) Q
    refine rx_w_callV (j := 128) (pc := 55) rfl rfl rfl rfl rfl ?_
    refine rx_aw.mono k (fun r h2 k => ?_)
    obtain ⟨rfl, hi4, hl4, v4, rfl, k⟩ := k
    refine ⟨rfl, ?_⟩
    show rx_aw 127 58 [.ref 134, .int a0, .int a1, .long a2, rx_no, .null, rx_no, rx_no, rx_no, rx_no, rx_no, rx_no] [] (rx_hp L rx_tr hi4 hl4 v4) Q
    refine rx_aw_s 8 (pc := 58) rfl ?_
    show rx_aw 127 70 [.ref 134, .int a0, .int a1, .long a2, rx_no, .null, rx_no, rx_no, rx_no, rx_no, rx_no, rx_no] [.int (0 : Int32), .int ((a0 * (21 : Int32)) + (20 : Int32)), .ref 137] (rx_hp L rx_tr hi4 hl4 v4) Q
    obtain ⟨j5, ej5, hj5, k⟩ := k
    refine rx_aw_iast (pc := 70) (n := 63) j5 ej5 rfl rfl (by decide) rfl hj5 (by decide) ?_
    show rx_aw 127 71 [.ref 134, .int a0, .int a1, .long a2, rx_no, .null, rx_no, rx_no, rx_no, rx_no, rx_no, rx_no] [] (rx_hp L rx_tr (rx_u hi4 137 j5 (0 : Int32)) hl4 v4) Q
    refine rx_aw_s 3 (pc := 71) rfl ?_
    show rx_aw 127 78 [.ref 134, .int a0, .int a1, .long a2, rx_no, .null, rx_no, rx_no, rx_no, rx_no, rx_no, rx_no] [.int (20 : Int32)] (rx_hp L rx_tr (rx_u hi4 137 j5 (0 : Int32)) hl4 v4) Q
    exact rx_aw_ret (pc := 78) rfl k
  · show rx_aw 127 8 [.ref 134, .int a0, .int a1, .long a2, rx_no, rx_no, rx_no, rx_no, rx_no, rx_no, rx_no, rx_no] [.ref (rx_ct q1)] (rx_hp L rx_tr hi1 hl1 v1) Q
    refine rx_aw_s 5 (pc := 8) rfl ?_
    show rx_aw 127 16 [.ref 134, .int a0, .int a1, .long a2, rx_no, .ref (rx_ct q1), rx_no, rx_no, rx_no, rx_no, rx_no, rx_no] [.int (-1 : Int32), .int a0, .ref 138] (rx_hp L rx_tr hi1 hl1 v1) Q
    obtain ⟨j6, ej6, hj6, k⟩ := k
    refine rx_aw_iast (pc := 16) (n := 3) j6 ej6 rfl rfl (by decide) rfl hj6 (by decide) ?_
    show rx_aw 127 17 [.ref 134, .int a0, .int a1, .long a2, rx_no, .ref (rx_ct q1), rx_no, rx_no, rx_no, rx_no, rx_no, rx_no] [] (rx_hp L rx_tr (rx_u hi1 138 j6 (-1 : Int32)) hl1 v1) Q
    refine rx_aw_s 15 (pc := 17) rfl ?_
    show rx_aw 127 36 [.ref 134, .int a0, .int a1, .long a2, rx_no, .ref (rx_ct q1), rx_no, rx_no, rx_no, rx_no, rx_no, rx_no] [.int (-1 : Int32), .int (((a0 + (1 : Int32)) * (5 : Int32)) * (21 : Int32)), .int ((a0 * (5 : Int32)) * (21 : Int32)), .ref 136] (rx_hp L rx_tr (rx_u hi1 138 j6 (-1 : Int32)) hl1 v1) Q
    refine rx_w_callV (j := 128) (pc := 36) rfl rfl rfl rfl rfl ?_
    refine rx_aw.mono k (fun r h2 k => ?_)
    obtain ⟨rfl, hi7, hl7, v7, rfl, k⟩ := k
    refine ⟨rfl, ?_⟩
    show rx_aw 127 39 [.ref 134, .int a0, .int a1, .long a2, rx_no, .ref (rx_ct q1), rx_no, rx_no, rx_no, rx_no, rx_no, rx_no] [] (rx_hp L rx_tr hi7 hl7 v7) Q
    refine rx_aw_s 11 (pc := 39) rfl ?_
    show rx_aw 127 55 [.ref 134, .int a0, .int a1, .long a2, rx_no, .ref (rx_ct q1), rx_no, rx_no, rx_no, rx_no, rx_no, rx_no] [.int (1000000 : Int32), .int ((a0 + (1 : Int32)) * (21 : Int32)), .int (a0 * (21 : Int32)), .ref 137] (rx_hp L rx_tr hi7 hl7 v7) Q
    refine rx_w_callV (j := 128) (pc := 55) rfl rfl rfl rfl rfl ?_
    refine rx_aw.mono k (fun r h2 k => ?_)
    obtain ⟨rfl, hi8, hl8, v8, rfl, k⟩ := k
    refine ⟨rfl, ?_⟩
    show rx_aw 127 58 [.ref 134, .int a0, .int a1, .long a2, rx_no, .ref (rx_ct q1), rx_no, rx_no, rx_no, rx_no, rx_no, rx_no] [] (rx_hp L rx_tr hi8 hl8 v8) Q
    refine rx_aw_s 8 (pc := 58) rfl ?_
    show rx_aw 127 70 [.ref 134, .int a0, .int a1, .long a2, rx_no, .ref (rx_ct q1), rx_no, rx_no, rx_no, rx_no, rx_no, rx_no] [.int (0 : Int32), .int ((a0 * (21 : Int32)) + (20 : Int32)), .ref 137] (rx_hp L rx_tr hi8 hl8 v8) Q
    obtain ⟨j9, ej9, hj9, k⟩ := k
    refine rx_aw_iast (pc := 70) (n := 63) j9 ej9 rfl rfl (by decide) rfl hj9 (by decide) ?_
    show rx_aw 127 71 [.ref 134, .int a0, .int a1, .long a2, rx_no, .ref (rx_ct q1), rx_no, rx_no, rx_no, rx_no, rx_no, rx_no] [] (rx_hp L rx_tr (rx_u hi8 137 j9 (0 : Int32)) hl8 v8) Q
    refine rx_aw_s 17 (pc := 71) rfl ?_
    show rx_aw 127 108 [.ref 134, .int a0, .int a1, .long a2, rx_no, .ref (rx_ct q1), .long (((hl8 7 2) &&& ((hl8 7 10) ^^^ (-1 : Int64))) &&& (a2 ^^^ (-1 : Int64))), rx_no, rx_no, rx_no, rx_no, rx_no] [.ref (rx_ct q1)] (rx_hp L rx_tr (rx_u hi8 137 j9 (0 : Int32)) hl8 v8) Q
    refine rx_w_cg hq1 (pc := 108) rfl (by decide) (by decide) ?_
    show rx_aw 127 111 [.ref 134, .int a0, .int a1, .long a2, rx_no, .ref (rx_ct q1), .long (((hl8 7 2) &&& ((hl8 7 10) ^^^ (-1 : Int64))) &&& (a2 ^^^ (-1 : Int64))), rx_no, rx_no, rx_no, rx_no, rx_no] [.int ((rx_u hi8 137 j9 (0 : Int32)) (rx_ct q1) 5)] (rx_hp L rx_tr (rx_u hi8 137 j9 (0 : Int32)) hl8 v8) Q
    refine rx_aw_s 2 (pc := 111) rfl ?_
    refine rx_w_if (c := ((rx_u hi8 137 j9 (0 : Int32)) (rx_ct q1) 5) = (1 : Int32)) ⟨fun c10 => ?_, fun c10 => ?_⟩
    · have k := k.1 c10
      show rx_aw 127 133 [.ref 134, .int a0, .int a1, .long a2, rx_no, .ref (rx_ct q1), .long (((hl8 7 2) &&& ((hl8 7 10) ^^^ (-1 : Int64))) &&& (a2 ^^^ (-1 : Int64))), rx_no, rx_no, rx_no, rx_no, rx_no] [] (rx_hp L rx_tr (rx_u hi8 137 j9 (0 : Int32)) hl8 v8) Q
      refine rx_aw_s 5 (pc := 133) rfl ?_
      show rx_aw 127 141 [.ref 134, .int a0, .int a1, .long a2, rx_no, .ref (rx_ct q1), .long (((hl8 7 2) &&& ((hl8 7 10) ^^^ (-1 : Int64))) &&& (a2 ^^^ (-1 : Int64))), rx_no, rx_no, rx_no, rx_no, rx_no] [.ref (rx_ct q1), .ref 134, .int a0, .ref 138] (rx_hp L rx_tr (rx_u hi8 137 j9 (0 : Int32)) hl8 v8) Q
      refine rx_w_cg hq1 (pc := 141) rfl (by decide) (by decide) ?_
      show rx_aw 127 144 [.ref 134, .int a0, .int a1, .long a2, rx_no, .ref (rx_ct q1), .long (((hl8 7 2) &&& ((hl8 7 10) ^^^ (-1 : Int64))) &&& (a2 ^^^ (-1 : Int64))), rx_no, rx_no, rx_no, rx_no, rx_no] [.int ((rx_u hi8 137 j9 (0 : Int32)) (rx_ct q1) 8), .ref 134, .int a0, .ref 138] (rx_hp L rx_tr (rx_u hi8 137 j9 (0 : Int32)) hl8 v8) Q
      refine rx_w_callI (j := 129) (pc := 144) rfl rfl rfl rfl rfl ?_
      refine rx_aw.mono k (fun r h2 k => ?_)
      obtain ⟨z11, rfl, hi11, hl11, v11, rfl, k⟩ := k
      refine ⟨z11, rfl, ?_⟩
      show rx_aw 127 147 [.ref 134, .int a0, .int a1, .long a2, rx_no, .ref (rx_ct q1), .long (((hl8 7 2) &&& ((hl8 7 10) ^^^ (-1 : Int64))) &&& (a2 ^^^ (-1 : Int64))), rx_no, rx_no, rx_no, rx_no, rx_no] [.int z11, .int a0, .ref 138] (rx_hp L rx_tr hi11 hl11 v11) Q
      obtain ⟨j12, ej12, hj12, k⟩ := k
      refine rx_aw_iast (pc := 147) (n := 3) j12 ej12 rfl rfl (by decide) rfl hj12 (by decide) ?_
      show rx_aw 127 148 [.ref 134, .int a0, .int a1, .long a2, rx_no, .ref (rx_ct q1), .long (((hl8 7 2) &&& ((hl8 7 10) ^^^ (-1 : Int64))) &&& (a2 ^^^ (-1 : Int64))), rx_no, rx_no, rx_no, rx_no, rx_no] [] (rx_hp L rx_tr (rx_u hi11 138 j12 z11) hl11 v11) Q
      refine rx_aw_s 2 (pc := 148) rfl ?_
      show rx_aw 127 151 [.ref 134, .int a0, .int a1, .long a2, rx_no, .ref (rx_ct q1), .long (((hl8 7 2) &&& ((hl8 7 10) ^^^ (-1 : Int64))) &&& (a2 ^^^ (-1 : Int64))), rx_no, .int (0 : Int32), rx_no, rx_no, rx_no] [] (rx_hp L rx_tr (rx_u hi11 138 j12 z11) hl11 v11) Q
      exact k
    · have k := k.2 c10
      show rx_aw 127 115 [.ref 134, .int a0, .int a1, .long a2, rx_no, .ref (rx_ct q1), .long (((hl8 7 2) &&& ((hl8 7 10) ^^^ (-1 : Int64))) &&& (a2 ^^^ (-1 : Int64))), rx_no, rx_no, rx_no, rx_no, rx_no] [] (rx_hp L rx_tr (rx_u hi8 137 j9 (0 : Int32)) hl8 v8) Q
      refine rx_aw_s 5 (pc := 115) rfl ?_
      show rx_aw 127 123 [.ref 134, .int a0, .int a1, .long a2, rx_no, .ref (rx_ct q1), .long (((hl8 7 2) &&& ((hl8 7 10) ^^^ (-1 : Int64))) &&& (a2 ^^^ (-1 : Int64))), rx_no, rx_no, rx_no, rx_no, rx_no] [.int (-1 : Int32), .int (0 : Int32), .ref 13, .long (((hl8 7 2) &&& ((hl8 7 10) ^^^ (-1 : Int64))) &&& (a2 ^^^ (-1 : Int64)))] (rx_hp L rx_tr (rx_u hi8 137 j9 (0 : Int32)) hl8 v8) Q
      refine rx_w_callL (j := 37) (pc := 123) rfl rfl rfl rfl rfl ?_
      refine rx_aw.mono k (fun r h2 k => ?_)
      obtain ⟨z13, rfl, hi13, hl13, v13, rfl, k⟩ := k
      refine ⟨z13, rfl, ?_⟩
      show rx_aw 127 126 [.ref 134, .int a0, .int a1, .long a2, rx_no, .ref (rx_ct q1), .long (((hl8 7 2) &&& ((hl8 7 10) ^^^ (-1 : Int64))) &&& (a2 ^^^ (-1 : Int64))), rx_no, rx_no, rx_no, rx_no, rx_no] [.long z13, .long (((hl8 7 2) &&& ((hl8 7 10) ^^^ (-1 : Int64))) &&& (a2 ^^^ (-1 : Int64)))] (rx_hp L rx_tr hi13 hl13 v13) Q
      refine rx_aw_s 9 (pc := 126) rfl ?_
      show rx_aw 127 141 [.ref 134, .int a0, .int a1, .long a2, rx_no, .ref (rx_ct q1), .long ((((hl8 7 2) &&& ((hl8 7 10) ^^^ (-1 : Int64))) &&& (a2 ^^^ (-1 : Int64))) &&& (z13 ^^^ (-1 : Int64))), rx_no, rx_no, rx_no, rx_no, rx_no] [.ref (rx_ct q1), .ref 134, .int a0, .ref 138] (rx_hp L rx_tr hi13 hl13 v13) Q
      refine rx_w_cg hq1 (pc := 141) rfl (by decide) (by decide) ?_
      show rx_aw 127 144 [.ref 134, .int a0, .int a1, .long a2, rx_no, .ref (rx_ct q1), .long ((((hl8 7 2) &&& ((hl8 7 10) ^^^ (-1 : Int64))) &&& (a2 ^^^ (-1 : Int64))) &&& (z13 ^^^ (-1 : Int64))), rx_no, rx_no, rx_no, rx_no, rx_no] [.int (hi13 (rx_ct q1) 8), .ref 134, .int a0, .ref 138] (rx_hp L rx_tr hi13 hl13 v13) Q
      refine rx_w_callI (j := 129) (pc := 144) rfl rfl rfl rfl rfl ?_
      refine rx_aw.mono k (fun r h2 k => ?_)
      obtain ⟨z14, rfl, hi14, hl14, v14, rfl, k⟩ := k
      refine ⟨z14, rfl, ?_⟩
      show rx_aw 127 147 [.ref 134, .int a0, .int a1, .long a2, rx_no, .ref (rx_ct q1), .long ((((hl8 7 2) &&& ((hl8 7 10) ^^^ (-1 : Int64))) &&& (a2 ^^^ (-1 : Int64))) &&& (z13 ^^^ (-1 : Int64))), rx_no, rx_no, rx_no, rx_no, rx_no] [.int z14, .int a0, .ref 138] (rx_hp L rx_tr hi14 hl14 v14) Q
      obtain ⟨j15, ej15, hj15, k⟩ := k
      refine rx_aw_iast (pc := 147) (n := 3) j15 ej15 rfl rfl (by decide) rfl hj15 (by decide) ?_
      show rx_aw 127 148 [.ref 134, .int a0, .int a1, .long a2, rx_no, .ref (rx_ct q1), .long ((((hl8 7 2) &&& ((hl8 7 10) ^^^ (-1 : Int64))) &&& (a2 ^^^ (-1 : Int64))) &&& (z13 ^^^ (-1 : Int64))), rx_no, rx_no, rx_no, rx_no, rx_no] [] (rx_hp L rx_tr (rx_u hi14 138 j15 z14) hl14 v14) Q
      refine rx_aw_s 2 (pc := 148) rfl ?_
      show rx_aw 127 151 [.ref 134, .int a0, .int a1, .long a2, rx_no, .ref (rx_ct q1), .long ((((hl8 7 2) &&& ((hl8 7 10) ^^^ (-1 : Int64))) &&& (a2 ^^^ (-1 : Int64))) &&& (z13 ^^^ (-1 : Int64))), rx_no, .int (0 : Int32), rx_no, rx_no, rx_no] [] (rx_hp L rx_tr (rx_u hi14 138 j15 z14) hl14 v14) Q
      exact k
set_option maxRecDepth 100000 in
theorem w127_prepare_151 {L : Nat} {hi : Nat → Nat → Int32} {hl : Nat → Nat → Int64} {v : Nat → Nat → Option Nat} {Q : Option Value → rx_H → Prop} {x1 : Int32} {x2 : Int32} {x3 : Int64} {q1 : Nat} (hq1 : q1 < 6) {x6 : Int64} {x8 : Int32} (k : (((hi 134 10) ≤ x8 → rx_me 9 [.int (hi (rx_ct q1) 8)] (rx_hp L rx_tr hi hl v) (fun r h2 => ∃ z17 : Int64, r = some (.long z17) ∧ rx_ok2 L rx_tr h2 (fun hi17 hl17 v17 => rx_me 130 [.ref 134, .int x1, .long (z17 &&& x6), .long x6] (rx_hp L rx_tr hi17 hl17 v17) (fun r h2 => r = none ∧ rx_ok2 L rx_tr h2 (fun hi18 hl18 v18 => rx_me 8 [.int (hi18 (rx_ct q1) 6)] (rx_hp L rx_tr hi18 hl18 v18) (fun r h2 => ∃ z19 : Int32, r = some (.int z19) ∧ rx_ok2 L rx_tr h2 (fun hi19 hl19 v19 => rx_me 129 [.ref 134, .int z19] (rx_hp L rx_tr hi19 hl19 v19) (fun r h2 => ∃ z20 : Int32, r = some (.int z20) ∧ rx_ok2 L rx_tr h2 (fun hi20 hl20 v20 => Q (some (.int (if (0 : Int32) < z20 then z20 else (0 : Int32)))) (rx_hp L rx_tr hi20 hl20 v20)))))))))) ∧ (¬ ((hi 134 10) ≤ x8) → (∃ j21 : Nat, (((x1 * (21 : Int32)) + x8) * (5 : Int32)) = nI j21 ∧ j21 < 315 ∧ rx_aw 127 179 [.ref 134, .int x1, .int x2, .long x3, rx_no, .ref (rx_ct q1), .long x6, rx_no, .int x8, .int (1 : Int32), rx_no, rx_no] [] (rx_hp L rx_tr (rx_u hi 136 j21 x8) hl v) Q)))) : rx_aw 127 151 [.ref 134, .int x1, .int x2, .long x3, rx_no, .ref (rx_ct q1), .long x6, rx_no, .int x8, rx_no, rx_no, rx_no] [] (rx_hp L rx_tr hi hl v) Q := by
  refine rx_aw_s 4 (pc := 151) rfl ?_
  refine rx_w_if (c := (hi 134 10) ≤ x8) ⟨fun c16 => ?_, fun c16 => ?_⟩
  · have k := k.1 c16
    show rx_aw 127 277 [.ref 134, .int x1, .int x2, .long x3, rx_no, .ref (rx_ct q1), .long x6, rx_no, .int x8, rx_no, rx_no, rx_no] [] (rx_hp L rx_tr hi hl v) Q
    refine rx_aw_s 3 (pc := 277) rfl ?_
    show rx_aw 127 281 [.ref 134, .int x1, .int x2, .long x3, rx_no, .ref (rx_ct q1), .long x6, rx_no, .int x8, rx_no, rx_no, rx_no] [.ref (rx_ct q1), .int x1, .ref 134] (rx_hp L rx_tr hi hl v) Q
    refine rx_w_cg hq1 (pc := 281) rfl (by decide) (by decide) ?_
    show rx_aw 127 284 [.ref 134, .int x1, .int x2, .long x3, rx_no, .ref (rx_ct q1), .long x6, rx_no, .int x8, rx_no, rx_no, rx_no] [.int (hi (rx_ct q1) 8), .int x1, .ref 134] (rx_hp L rx_tr hi hl v) Q
    refine rx_w_callL (j := 9) (pc := 284) rfl rfl rfl rfl rfl ?_
    refine rx_aw.mono k (fun r h2 k => ?_)
    obtain ⟨z17, rfl, hi17, hl17, v17, rfl, k⟩ := k
    refine ⟨z17, rfl, ?_⟩
    show rx_aw 127 287 [.ref 134, .int x1, .int x2, .long x3, rx_no, .ref (rx_ct q1), .long x6, rx_no, .int x8, rx_no, rx_no, rx_no] [.long z17, .int x1, .ref 134] (rx_hp L rx_tr hi17 hl17 v17) Q
    refine rx_aw_s 3 (pc := 287) rfl ?_
    show rx_aw 127 292 [.ref 134, .int x1, .int x2, .long x3, rx_no, .ref (rx_ct q1), .long x6, rx_no, .int x8, rx_no, rx_no, rx_no] [.long x6, .long (z17 &&& x6), .int x1, .ref 134] (rx_hp L rx_tr hi17 hl17 v17) Q
    refine rx_w_callV (j := 130) (pc := 292) rfl rfl rfl rfl rfl ?_
    refine rx_aw.mono k (fun r h2 k => ?_)
    obtain ⟨rfl, hi18, hl18, v18, rfl, k⟩ := k
    refine ⟨rfl, ?_⟩
    show rx_aw 127 295 [.ref 134, .int x1, .int x2, .long x3, rx_no, .ref (rx_ct q1), .long x6, rx_no, .int x8, rx_no, rx_no, rx_no] [] (rx_hp L rx_tr hi18 hl18 v18) Q
    refine rx_aw_s 3 (pc := 295) rfl ?_
    show rx_aw 127 299 [.ref 134, .int x1, .int x2, .long x3, rx_no, .ref (rx_ct q1), .long x6, rx_no, .int x8, rx_no, rx_no, rx_no] [.ref (rx_ct q1), .ref 134, .int (0 : Int32)] (rx_hp L rx_tr hi18 hl18 v18) Q
    refine rx_w_cg hq1 (pc := 299) rfl (by decide) (by decide) ?_
    show rx_aw 127 302 [.ref 134, .int x1, .int x2, .long x3, rx_no, .ref (rx_ct q1), .long x6, rx_no, .int x8, rx_no, rx_no, rx_no] [.int (hi18 (rx_ct q1) 6), .ref 134, .int (0 : Int32)] (rx_hp L rx_tr hi18 hl18 v18) Q
    refine rx_w_callI (j := 8) (pc := 302) rfl rfl rfl rfl rfl ?_
    refine rx_aw.mono k (fun r h2 k => ?_)
    obtain ⟨z19, rfl, hi19, hl19, v19, rfl, k⟩ := k
    refine ⟨z19, rfl, ?_⟩
    show rx_aw 127 305 [.ref 134, .int x1, .int x2, .long x3, rx_no, .ref (rx_ct q1), .long x6, rx_no, .int x8, rx_no, rx_no, rx_no] [.int z19, .ref 134, .int (0 : Int32)] (rx_hp L rx_tr hi19 hl19 v19) Q
    refine rx_w_callI (j := 129) (pc := 305) rfl rfl rfl rfl rfl ?_
    refine rx_aw.mono k (fun r h2 k => ?_)
    obtain ⟨z20, rfl, hi20, hl20, v20, rfl, k⟩ := k
    refine ⟨z20, rfl, ?_⟩
    show rx_aw 127 308 [.ref 134, .int x1, .int x2, .long x3, rx_no, .ref (rx_ct q1), .long x6, rx_no, .int x8, rx_no, rx_no, rx_no] [.int z20, .int (0 : Int32)] (rx_hp L rx_tr hi20 hl20 v20) Q
    refine rx_aw_s 1 (pc := 308) rfl ?_
    show rx_aw 127 311 [.ref 134, .int x1, .int x2, .long x3, rx_no, .ref (rx_ct q1), .long x6, rx_no, .int x8, rx_no, rx_no, rx_no] [.int (if (0 : Int32) < z20 then z20 else (0 : Int32))] (rx_hp L rx_tr hi20 hl20 v20) Q
    exact rx_aw_ret (pc := 311) rfl k
  · have k := k.2 c16
    show rx_aw 127 160 [.ref 134, .int x1, .int x2, .long x3, rx_no, .ref (rx_ct q1), .long x6, rx_no, .int x8, rx_no, rx_no, rx_no] [] (rx_hp L rx_tr hi hl v) Q
    refine rx_aw_s 10 (pc := 160) rfl ?_
    show rx_aw 127 175 [.ref 134, .int x1, .int x2, .long x3, rx_no, .ref (rx_ct q1), .long x6, rx_no, .int x8, rx_no, rx_no, rx_no] [.int x8, .int (((x1 * (21 : Int32)) + x8) * (5 : Int32)), .ref 136] (rx_hp L rx_tr hi hl v) Q
    obtain ⟨j21, ej21, hj21, k⟩ := k
    refine rx_aw_iast (pc := 175) (n := 315) j21 ej21 rfl rfl (by decide) rfl hj21 (by decide) ?_
    show rx_aw 127 176 [.ref 134, .int x1, .int x2, .long x3, rx_no, .ref (rx_ct q1), .long x6, rx_no, .int x8, rx_no, rx_no, rx_no] [] (rx_hp L rx_tr (rx_u hi 136 j21 x8) hl v) Q
    refine rx_aw_s 2 (pc := 176) rfl ?_
    show rx_aw 127 179 [.ref 134, .int x1, .int x2, .long x3, rx_no, .ref (rx_ct q1), .long x6, rx_no, .int x8, .int (1 : Int32), rx_no, rx_no] [] (rx_hp L rx_tr (rx_u hi 136 j21 x8) hl v) Q
    exact k
set_option maxRecDepth 100000 in
theorem w127_prepare_179 {L : Nat} {hi : Nat → Nat → Int32} {hl : Nat → Nat → Int64} {v : Nat → Nat → Option Nat} {Q : Option Value → rx_H → Prop} {x1 : Int32} {x2 : Int32} {x3 : Int64} {q1 : Nat} (hq1 : q1 < 6) {x6 : Int64} {x8 : Int32} {x9 : Int32} (k : (((4 : Int32) < x9 → rx_aw 127 151 [.ref 134, .int x1, .int x2, .long x3, rx_no, .ref (rx_ct q1), .long x6, rx_no, .int (x8 + (1 : Int32)), rx_no, rx_no, rx_no] [] (rx_hp L rx_tr hi hl v) Q) ∧ (¬ ((4 : Int32) < x9) → (∃ j23 : Nat, x8 = nI j23 ∧ j23 < 20 ∧ (∃ j24 : Nat, ((x9 * (256 : Int32)) + (hi 135 j23)) = nI j24 ∧ j24 < 2560 ∧ ((0 ≤ (hi 10 j24) → rx_me 8 [.int (hi 10 j24)] (rx_hp L rx_tr hi hl v) (fun r h2 => ∃ z26 : Int32, r = some (.int z26) ∧ rx_ok2 L rx_tr h2 (fun hi26 hl26 v26 => rx_me 9 [.int z26] (rx_hp L rx_tr hi26 hl26 v26) (fun r h2 => ∃ z27 : Int64, r = some (.long z27) ∧ rx_ok2 L rx_tr h2 (fun hi27 hl27 v27 => (((lg_cmp (z27 &&& x6) (0 : Int64)) = 0 → (∃ j29 : Nat, ((((x1 * (21 : Int32)) + x8) * (5 : Int32)) + x9) = nI j29 ∧ j29 < 315 ∧ rx_aw 127 179 [.ref 134, .int x1, .int x2, .long x3, rx_no, .ref (rx_ct q1), .long x6, rx_no, .int x8, .int (x9 + (1 : Int32)), rx_no, rx_no] [] (rx_hp L rx_tr (rx_u hi27 136 j29 (-1 : Int32)) hl27 v27) Q)) ∧ (¬ ((lg_cmp (z27 &&& x6) (0 : Int64)) = 0) → rx_me 129 [.ref 134, .int z26] (rx_hp L rx_tr hi27 hl27 v27) (fun r h2 => ∃ z30 : Int32, r = some (.int z30) ∧ rx_ok2 L rx_tr h2 (fun hi30 hl30 v30 => (∃ j31 : Nat, ((((x1 * (21 : Int32)) + x8) * (5 : Int32)) + x9) = nI j31 ∧ j31 < 315 ∧ rx_aw 127 179 [.ref 134, .int x1, .int x2, .long x3, rx_no, .ref (rx_ct q1), .long x6, rx_no, .int x8, .int (x9 + (1 : Int32)), rx_no, rx_no] [] (rx_hp L rx_tr (rx_u hi30 136 j31 z30) hl30 v30) Q)))))))))) ∧ (¬ (0 ≤ (hi 10 j24)) → rx_me 9 [.int (-1 : Int32)] (rx_hp L rx_tr hi hl v) (fun r h2 => ∃ z32 : Int64, r = some (.long z32) ∧ rx_ok2 L rx_tr h2 (fun hi32 hl32 v32 => (((lg_cmp (z32 &&& x6) (0 : Int64)) = 0 → (∃ j34 : Nat, ((((x1 * (21 : Int32)) + x8) * (5 : Int32)) + x9) = nI j34 ∧ j34 < 315 ∧ rx_aw 127 179 [.ref 134, .int x1, .int x2, .long x3, rx_no, .ref (rx_ct q1), .long x6, rx_no, .int x8, .int (x9 + (1 : Int32)), rx_no, rx_no] [] (rx_hp L rx_tr (rx_u hi32 136 j34 (-1 : Int32)) hl32 v32) Q)) ∧ (¬ ((lg_cmp (z32 &&& x6) (0 : Int64)) = 0) → rx_me 129 [.ref 134, .int (-1 : Int32)] (rx_hp L rx_tr hi32 hl32 v32) (fun r h2 => ∃ z35 : Int32, r = some (.int z35) ∧ rx_ok2 L rx_tr h2 (fun hi35 hl35 v35 => (∃ j36 : Nat, ((((x1 * (21 : Int32)) + x8) * (5 : Int32)) + x9) = nI j36 ∧ j36 < 315 ∧ rx_aw 127 179 [.ref 134, .int x1, .int x2, .long x3, rx_no, .ref (rx_ct q1), .long x6, rx_no, .int x8, .int (x9 + (1 : Int32)), rx_no, rx_no] [] (rx_hp L rx_tr (rx_u hi35 136 j36 z35) hl35 v35) Q)))))))))))))) : rx_aw 127 179 [.ref 134, .int x1, .int x2, .long x3, rx_no, .ref (rx_ct q1), .long x6, rx_no, .int x8, .int x9, rx_no, rx_no] [] (rx_hp L rx_tr hi hl v) Q := by
  refine rx_aw_s 3 (pc := 179) rfl ?_
  refine rx_w_if (c := (4 : Int32) < x9) ⟨fun c22 => ?_, fun c22 => ?_⟩
  · have k := k.1 c22
    show rx_aw 127 271 [.ref 134, .int x1, .int x2, .long x3, rx_no, .ref (rx_ct q1), .long x6, rx_no, .int x8, .int x9, rx_no, rx_no] [] (rx_hp L rx_tr hi hl v) Q
    refine rx_aw_s 2 (pc := 271) rfl ?_
    show rx_aw 127 151 [.ref 134, .int x1, .int x2, .long x3, rx_no, .ref (rx_ct q1), .long x6, rx_no, .int (x8 + (1 : Int32)), .int x9, rx_no, rx_no] [] (rx_hp L rx_tr hi hl v) Q
    exact rx_aw_le (ls := [.ref 134, .int x1, .int x2, .long x3, rx_no, .ref (rx_ct q1), .long x6, rx_no, .int (x8 + (1 : Int32)), rx_no, rx_no, rx_no]) ⟨Or.inr rfl, ⟨Or.inr rfl, ⟨Or.inr rfl, ⟨Or.inr rfl, ⟨Or.inl rfl, ⟨Or.inr rfl, ⟨Or.inr rfl, ⟨Or.inl rfl, ⟨Or.inr rfl, ⟨Or.inl rfl, ⟨Or.inl rfl, ⟨Or.inl rfl, trivial⟩⟩⟩⟩⟩⟩⟩⟩⟩⟩⟩⟩ k
  · have k := k.2 c22
    show rx_aw 127 185 [.ref 134, .int x1, .int x2, .long x3, rx_no, .ref (rx_ct q1), .long x6, rx_no, .int x8, .int x9, rx_no, rx_no] [] (rx_hp L rx_tr hi hl v) Q
    refine rx_aw_s 9 (pc := 185) rfl ?_
    show rx_aw 127 204 [.ref 134, .int x1, .int x2, .long x3, rx_no, .ref (rx_ct q1), .long x6, rx_no, .int x8, .int x9, rx_no, rx_no] [.int x8, .ref 135, .int (x9 * (256 : Int32)), .ref 10] (rx_hp L rx_tr hi hl v) Q
    obtain ⟨j23, ej23, hj23, k⟩ := k
    refine rx_aw_iald (pc := 204) (n := 20) j23 ej23 rfl rfl rfl hj23 (by decide) ?_
    show rx_aw 127 205 [.ref 134, .int x1, .int x2, .long x3, rx_no, .ref (rx_ct q1), .long x6, rx_no, .int x8, .int x9, rx_no, rx_no] [.int (hi 135 j23), .int (x9 * (256 : Int32)), .ref 10] (rx_hp L rx_tr hi hl v) Q
    refine rx_aw_s 1 (pc := 205) rfl ?_
    show rx_aw 127 206 [.ref 134, .int x1, .int x2, .long x3, rx_no, .ref (rx_ct q1), .long x6, rx_no, .int x8, .int x9, rx_no, rx_no] [.int ((x9 * (256 : Int32)) + (hi 135 j23)), .ref 10] (rx_hp L rx_tr hi hl v) Q
    obtain ⟨j24, ej24, hj24, k⟩ := k
    refine rx_aw_iald (pc := 206) (n := 2560) j24 ej24 rfl rfl rfl hj24 (by decide) ?_
    show rx_aw 127 207 [.ref 134, .int x1, .int x2, .long x3, rx_no, .ref (rx_ct q1), .long x6, rx_no, .int x8, .int x9, rx_no, rx_no] [.int (hi 10 j24)] (rx_hp L rx_tr hi hl v) Q
    refine rx_aw_s 3 (pc := 207) rfl ?_
    refine rx_w_if (c := 0 ≤ (hi 10 j24)) ⟨fun c25 => ?_, fun c25 => ?_⟩
    · have k := k.1 c25
      show rx_aw 127 218 [.ref 134, .int x1, .int x2, .long x3, rx_no, .ref (rx_ct q1), .long x6, rx_no, .int x8, .int x9, .int (hi 10 j24), rx_no] [] (rx_hp L rx_tr hi hl v) Q
      refine rx_aw_s 1 (pc := 218) rfl ?_
      show rx_aw 127 220 [.ref 134, .int x1, .int x2, .long x3, rx_no, .ref (rx_ct q1), .long x6, rx_no, .int x8, .int x9, .int (hi 10 j24), rx_no] [.int (hi 10 j24)] (rx_hp L rx_tr hi hl v) Q
      refine rx_w_callI (j := 8) (pc := 220) rfl rfl rfl rfl rfl ?_
      refine rx_aw.mono k (fun r h2 k => ?_)
      obtain ⟨z26, rfl, hi26, hl26, v26, rfl, k⟩ := k
      refine ⟨z26, rfl, ?_⟩
      show rx_aw 127 223 [.ref 134, .int x1, .int x2, .long x3, rx_no, .ref (rx_ct q1), .long x6, rx_no, .int x8, .int x9, .int (hi 10 j24), rx_no] [.int z26] (rx_hp L rx_tr hi26 hl26 v26) Q
      refine rx_aw_s 13 (pc := 223) rfl ?_
      show rx_aw 127 243 [.ref 134, .int x1, .int x2, .long x3, rx_no, .ref (rx_ct q1), .long x6, rx_no, .int x8, .int x9, .int (hi 10 j24), .int z26] [.int z26, .int ((((x1 * (21 : Int32)) + x8) * (5 : Int32)) + x9), .ref 136] (rx_hp L rx_tr hi26 hl26 v26) Q
      refine rx_w_callL (j := 9) (pc := 243) rfl rfl rfl rfl rfl ?_
      refine rx_aw.mono k (fun r h2 k => ?_)
      obtain ⟨z27, rfl, hi27, hl27, v27, rfl, k⟩ := k
      refine ⟨z27, rfl, ?_⟩
      show rx_aw 127 246 [.ref 134, .int x1, .int x2, .long x3, rx_no, .ref (rx_ct q1), .long x6, rx_no, .int x8, .int x9, .int (hi 10 j24), .int z26] [.long z27, .int ((((x1 * (21 : Int32)) + x8) * (5 : Int32)) + x9), .ref 136] (rx_hp L rx_tr hi27 hl27 v27) Q
      refine rx_aw_s 5 (pc := 246) rfl ?_
      refine rx_w_if (c := (lg_cmp (z27 &&& x6) (0 : Int64)) = 0) ⟨fun c28 => ?_, fun c28 => ?_⟩
      · have k := k.1 c28
        show rx_aw 127 263 [.ref 134, .int x1, .int x2, .long x3, rx_no, .ref (rx_ct q1), .long x6, rx_no, .int x8, .int x9, .int (hi 10 j24), .int z26] [.int ((((x1 * (21 : Int32)) + x8) * (5 : Int32)) + x9), .ref 136] (rx_hp L rx_tr hi27 hl27 v27) Q
        refine rx_aw_s 1 (pc := 263) rfl ?_
        show rx_aw 127 264 [.ref 134, .int x1, .int x2, .long x3, rx_no, .ref (rx_ct q1), .long x6, rx_no, .int x8, .int x9, .int (hi 10 j24), .int z26] [.int (-1 : Int32), .int ((((x1 * (21 : Int32)) + x8) * (5 : Int32)) + x9), .ref 136] (rx_hp L rx_tr hi27 hl27 v27) Q
        obtain ⟨j29, ej29, hj29, k⟩ := k
        refine rx_aw_iast (pc := 264) (n := 315) j29 ej29 rfl rfl (by decide) rfl hj29 (by decide) ?_
        show rx_aw 127 265 [.ref 134, .int x1, .int x2, .long x3, rx_no, .ref (rx_ct q1), .long x6, rx_no, .int x8, .int x9, .int (hi 10 j24), .int z26] [] (rx_hp L rx_tr (rx_u hi27 136 j29 (-1 : Int32)) hl27 v27) Q
        refine rx_aw_s 2 (pc := 265) rfl ?_
        show rx_aw 127 179 [.ref 134, .int x1, .int x2, .long x3, rx_no, .ref (rx_ct q1), .long x6, rx_no, .int x8, .int (x9 + (1 : Int32)), .int (hi 10 j24), .int z26] [] (rx_hp L rx_tr (rx_u hi27 136 j29 (-1 : Int32)) hl27 v27) Q
        exact rx_aw_le (ls := [.ref 134, .int x1, .int x2, .long x3, rx_no, .ref (rx_ct q1), .long x6, rx_no, .int x8, .int (x9 + (1 : Int32)), rx_no, rx_no]) ⟨Or.inr rfl, ⟨Or.inr rfl, ⟨Or.inr rfl, ⟨Or.inr rfl, ⟨Or.inl rfl, ⟨Or.inr rfl, ⟨Or.inr rfl, ⟨Or.inl rfl, ⟨Or.inr rfl, ⟨Or.inr rfl, ⟨Or.inl rfl, ⟨Or.inl rfl, trivial⟩⟩⟩⟩⟩⟩⟩⟩⟩⟩⟩⟩ k
      · have k := k.2 c28
        show rx_aw 127 254 [.ref 134, .int x1, .int x2, .long x3, rx_no, .ref (rx_ct q1), .long x6, rx_no, .int x8, .int x9, .int (hi 10 j24), .int z26] [.int ((((x1 * (21 : Int32)) + x8) * (5 : Int32)) + x9), .ref 136] (rx_hp L rx_tr hi27 hl27 v27) Q
        refine rx_aw_s 2 (pc := 254) rfl ?_
        show rx_aw 127 257 [.ref 134, .int x1, .int x2, .long x3, rx_no, .ref (rx_ct q1), .long x6, rx_no, .int x8, .int x9, .int (hi 10 j24), .int z26] [.int z26, .ref 134, .int ((((x1 * (21 : Int32)) + x8) * (5 : Int32)) + x9), .ref 136] (rx_hp L rx_tr hi27 hl27 v27) Q
        refine rx_w_callI (j := 129) (pc := 257) rfl rfl rfl rfl rfl ?_
        refine rx_aw.mono k (fun r h2 k => ?_)
        obtain ⟨z30, rfl, hi30, hl30, v30, rfl, k⟩ := k
        refine ⟨z30, rfl, ?_⟩
        show rx_aw 127 260 [.ref 134, .int x1, .int x2, .long x3, rx_no, .ref (rx_ct q1), .long x6, rx_no, .int x8, .int x9, .int (hi 10 j24), .int z26] [.int z30, .int ((((x1 * (21 : Int32)) + x8) * (5 : Int32)) + x9), .ref 136] (rx_hp L rx_tr hi30 hl30 v30) Q
        refine rx_aw_s 1 (pc := 260) rfl ?_
        show rx_aw 127 264 [.ref 134, .int x1, .int x2, .long x3, rx_no, .ref (rx_ct q1), .long x6, rx_no, .int x8, .int x9, .int (hi 10 j24), .int z26] [.int z30, .int ((((x1 * (21 : Int32)) + x8) * (5 : Int32)) + x9), .ref 136] (rx_hp L rx_tr hi30 hl30 v30) Q
        obtain ⟨j31, ej31, hj31, k⟩ := k
        refine rx_aw_iast (pc := 264) (n := 315) j31 ej31 rfl rfl (by decide) rfl hj31 (by decide) ?_
        show rx_aw 127 265 [.ref 134, .int x1, .int x2, .long x3, rx_no, .ref (rx_ct q1), .long x6, rx_no, .int x8, .int x9, .int (hi 10 j24), .int z26] [] (rx_hp L rx_tr (rx_u hi30 136 j31 z30) hl30 v30) Q
        refine rx_aw_s 2 (pc := 265) rfl ?_
        show rx_aw 127 179 [.ref 134, .int x1, .int x2, .long x3, rx_no, .ref (rx_ct q1), .long x6, rx_no, .int x8, .int (x9 + (1 : Int32)), .int (hi 10 j24), .int z26] [] (rx_hp L rx_tr (rx_u hi30 136 j31 z30) hl30 v30) Q
        exact rx_aw_le (ls := [.ref 134, .int x1, .int x2, .long x3, rx_no, .ref (rx_ct q1), .long x6, rx_no, .int x8, .int (x9 + (1 : Int32)), rx_no, rx_no]) ⟨Or.inr rfl, ⟨Or.inr rfl, ⟨Or.inr rfl, ⟨Or.inr rfl, ⟨Or.inl rfl, ⟨Or.inr rfl, ⟨Or.inr rfl, ⟨Or.inl rfl, ⟨Or.inr rfl, ⟨Or.inr rfl, ⟨Or.inl rfl, ⟨Or.inl rfl, trivial⟩⟩⟩⟩⟩⟩⟩⟩⟩⟩⟩⟩ k
    · have k := k.2 c25
      show rx_aw 127 214 [.ref 134, .int x1, .int x2, .long x3, rx_no, .ref (rx_ct q1), .long x6, rx_no, .int x8, .int x9, .int (hi 10 j24), rx_no] [] (rx_hp L rx_tr hi hl v) Q
      refine rx_aw_s 15 (pc := 214) rfl ?_
      show rx_aw 127 243 [.ref 134, .int x1, .int x2, .long x3, rx_no, .ref (rx_ct q1), .long x6, rx_no, .int x8, .int x9, .int (hi 10 j24), .int (-1 : Int32)] [.int (-1 : Int32), .int ((((x1 * (21 : Int32)) + x8) * (5 : Int32)) + x9), .ref 136] (rx_hp L rx_tr hi hl v) Q
      refine rx_w_callL (j := 9) (pc := 243) rfl rfl rfl rfl rfl ?_
      refine rx_aw.mono k (fun r h2 k => ?_)
      obtain ⟨z32, rfl, hi32, hl32, v32, rfl, k⟩ := k
      refine ⟨z32, rfl, ?_⟩
      show rx_aw 127 246 [.ref 134, .int x1, .int x2, .long x3, rx_no, .ref (rx_ct q1), .long x6, rx_no, .int x8, .int x9, .int (hi 10 j24), .int (-1 : Int32)] [.long z32, .int ((((x1 * (21 : Int32)) + x8) * (5 : Int32)) + x9), .ref 136] (rx_hp L rx_tr hi32 hl32 v32) Q
      refine rx_aw_s 5 (pc := 246) rfl ?_
      refine rx_w_if (c := (lg_cmp (z32 &&& x6) (0 : Int64)) = 0) ⟨fun c33 => ?_, fun c33 => ?_⟩
      · have k := k.1 c33
        show rx_aw 127 263 [.ref 134, .int x1, .int x2, .long x3, rx_no, .ref (rx_ct q1), .long x6, rx_no, .int x8, .int x9, .int (hi 10 j24), .int (-1 : Int32)] [.int ((((x1 * (21 : Int32)) + x8) * (5 : Int32)) + x9), .ref 136] (rx_hp L rx_tr hi32 hl32 v32) Q
        refine rx_aw_s 1 (pc := 263) rfl ?_
        show rx_aw 127 264 [.ref 134, .int x1, .int x2, .long x3, rx_no, .ref (rx_ct q1), .long x6, rx_no, .int x8, .int x9, .int (hi 10 j24), .int (-1 : Int32)] [.int (-1 : Int32), .int ((((x1 * (21 : Int32)) + x8) * (5 : Int32)) + x9), .ref 136] (rx_hp L rx_tr hi32 hl32 v32) Q
        obtain ⟨j34, ej34, hj34, k⟩ := k
        refine rx_aw_iast (pc := 264) (n := 315) j34 ej34 rfl rfl (by decide) rfl hj34 (by decide) ?_
        show rx_aw 127 265 [.ref 134, .int x1, .int x2, .long x3, rx_no, .ref (rx_ct q1), .long x6, rx_no, .int x8, .int x9, .int (hi 10 j24), .int (-1 : Int32)] [] (rx_hp L rx_tr (rx_u hi32 136 j34 (-1 : Int32)) hl32 v32) Q
        refine rx_aw_s 2 (pc := 265) rfl ?_
        show rx_aw 127 179 [.ref 134, .int x1, .int x2, .long x3, rx_no, .ref (rx_ct q1), .long x6, rx_no, .int x8, .int (x9 + (1 : Int32)), .int (hi 10 j24), .int (-1 : Int32)] [] (rx_hp L rx_tr (rx_u hi32 136 j34 (-1 : Int32)) hl32 v32) Q
        exact rx_aw_le (ls := [.ref 134, .int x1, .int x2, .long x3, rx_no, .ref (rx_ct q1), .long x6, rx_no, .int x8, .int (x9 + (1 : Int32)), rx_no, rx_no]) ⟨Or.inr rfl, ⟨Or.inr rfl, ⟨Or.inr rfl, ⟨Or.inr rfl, ⟨Or.inl rfl, ⟨Or.inr rfl, ⟨Or.inr rfl, ⟨Or.inl rfl, ⟨Or.inr rfl, ⟨Or.inr rfl, ⟨Or.inl rfl, ⟨Or.inl rfl, trivial⟩⟩⟩⟩⟩⟩⟩⟩⟩⟩⟩⟩ k
      · have k := k.2 c33
        show rx_aw 127 254 [.ref 134, .int x1, .int x2, .long x3, rx_no, .ref (rx_ct q1), .long x6, rx_no, .int x8, .int x9, .int (hi 10 j24), .int (-1 : Int32)] [.int ((((x1 * (21 : Int32)) + x8) * (5 : Int32)) + x9), .ref 136] (rx_hp L rx_tr hi32 hl32 v32) Q
        refine rx_aw_s 2 (pc := 254) rfl ?_
        show rx_aw 127 257 [.ref 134, .int x1, .int x2, .long x3, rx_no, .ref (rx_ct q1), .long x6, rx_no, .int x8, .int x9, .int (hi 10 j24), .int (-1 : Int32)] [.int (-1 : Int32), .ref 134, .int ((((x1 * (21 : Int32)) + x8) * (5 : Int32)) + x9), .ref 136] (rx_hp L rx_tr hi32 hl32 v32) Q
        refine rx_w_callI (j := 129) (pc := 257) rfl rfl rfl rfl rfl ?_
        refine rx_aw.mono k (fun r h2 k => ?_)
        obtain ⟨z35, rfl, hi35, hl35, v35, rfl, k⟩ := k
        refine ⟨z35, rfl, ?_⟩
        show rx_aw 127 260 [.ref 134, .int x1, .int x2, .long x3, rx_no, .ref (rx_ct q1), .long x6, rx_no, .int x8, .int x9, .int (hi 10 j24), .int (-1 : Int32)] [.int z35, .int ((((x1 * (21 : Int32)) + x8) * (5 : Int32)) + x9), .ref 136] (rx_hp L rx_tr hi35 hl35 v35) Q
        refine rx_aw_s 1 (pc := 260) rfl ?_
        show rx_aw 127 264 [.ref 134, .int x1, .int x2, .long x3, rx_no, .ref (rx_ct q1), .long x6, rx_no, .int x8, .int x9, .int (hi 10 j24), .int (-1 : Int32)] [.int z35, .int ((((x1 * (21 : Int32)) + x8) * (5 : Int32)) + x9), .ref 136] (rx_hp L rx_tr hi35 hl35 v35) Q
        obtain ⟨j36, ej36, hj36, k⟩ := k
        refine rx_aw_iast (pc := 264) (n := 315) j36 ej36 rfl rfl (by decide) rfl hj36 (by decide) ?_
        show rx_aw 127 265 [.ref 134, .int x1, .int x2, .long x3, rx_no, .ref (rx_ct q1), .long x6, rx_no, .int x8, .int x9, .int (hi 10 j24), .int (-1 : Int32)] [] (rx_hp L rx_tr (rx_u hi35 136 j36 z35) hl35 v35) Q
        refine rx_aw_s 2 (pc := 265) rfl ?_
        show rx_aw 127 179 [.ref 134, .int x1, .int x2, .long x3, rx_no, .ref (rx_ct q1), .long x6, rx_no, .int x8, .int (x9 + (1 : Int32)), .int (hi 10 j24), .int (-1 : Int32)] [] (rx_hp L rx_tr (rx_u hi35 136 j36 z35) hl35 v35) Q
        exact rx_aw_le (ls := [.ref 134, .int x1, .int x2, .long x3, rx_no, .ref (rx_ct q1), .long x6, rx_no, .int x8, .int (x9 + (1 : Int32)), rx_no, rx_no]) ⟨Or.inr rfl, ⟨Or.inr rfl, ⟨Or.inr rfl, ⟨Or.inr rfl, ⟨Or.inl rfl, ⟨Or.inr rfl, ⟨Or.inr rfl, ⟨Or.inl rfl, ⟨Or.inr rfl, ⟨Or.inr rfl, ⟨Or.inl rfl, ⟨Or.inl rfl, trivial⟩⟩⟩⟩⟩⟩⟩⟩⟩⟩⟩⟩ k
set_option maxRecDepth 100000 in
/-- java/util/Arrays.fill([IIII)V -/
theorem w128_fill_at136 {L : Nat} {hi : Nat → Nat → Int32} {hl : Nat → Nat → Int64} {v : Nat → Nat → Option Nat} {Q : Option Value → rx_H → Prop} {a1 : Int32} {a2 : Int32} {a3 : Int32} (k : rx_me 33 [.int (315 : Int32), .int a1, .int a2] (rx_hp L rx_tr hi hl v) (fun r h2 => r = none ∧ rx_ok2 L rx_tr h2 (fun hi1 hl1 v1 => rx_aw 128 10 [.ref 136, .int a1, .int a2, .int a3, .int a1] [] (rx_hp L rx_tr hi1 hl1 v1) Q))) : rx_me 128 [.ref 136, .int a1, .int a2, .int a3] (rx_hp L rx_tr hi hl v) Q := by
  show rx_aw 128 0 [.ref 136, .int a1, .int a2, .int a3, rx_no] [] (rx_hp L rx_tr hi hl v) Q
  refine rx_aw_s 1 (pc := 0) rfl ?_
  show rx_aw 128 1 [.ref 136, .int a1, .int a2, .int a3, rx_no] [.ref 136] (rx_hp L rx_tr hi hl v) Q
  refine rx_aw_s 1 (pc := 1) rfl ?_
  show rx_aw 128 2 [.ref 136, .int a1, .int a2, .int a3, rx_no] [.int (315 : Int32)] (rx_hp L rx_tr hi hl v) Q
  refine rx_aw_s 2 (pc := 2) rfl ?_
  show rx_aw 128 4 [.ref 136, .int a1, .int a2, .int a3, rx_no] [.int a2, .int a1, .int (315 : Int32)] (rx_hp L rx_tr hi hl v) Q
  refine rx_w_callV (j := 33) (pc := 4) rfl rfl rfl rfl rfl ?_
  refine rx_aw.mono k (fun r h2 k => ?_)
  obtain ⟨rfl, hi1, hl1, v1, rfl, k⟩ := k
  refine ⟨rfl, ?_⟩
  show rx_aw 128 7 [.ref 136, .int a1, .int a2, .int a3, rx_no] [] (rx_hp L rx_tr hi1 hl1 v1) Q
  refine rx_aw_s 2 (pc := 7) rfl ?_
  show rx_aw 128 10 [.ref 136, .int a1, .int a2, .int a3, .int a1] [] (rx_hp L rx_tr hi1 hl1 v1) Q
  exact k
set_option maxRecDepth 100000 in
theorem w128_fill_at136_10 {L : Nat} {hi : Nat → Nat → Int32} {hl : Nat → Nat → Int64} {v : Nat → Nat → Option Nat} {Q : Option Value → rx_H → Prop} {x1 : Int32} {x2 : Int32} {x3 : Int32} {x4 : Int32} (k : ((x2 ≤ x4 → Q none (rx_hp L rx_tr hi hl v)) ∧ (¬ (x2 ≤ x4) → (∃ j3 : Nat, x4 = nI j3 ∧ j3 < 315 ∧ rx_aw 128 10 [.ref 136, .int x1, .int x2, .int x3, .int (x4 + (1 : Int32))] [] (rx_hp L rx_tr (rx_u hi 136 j3 x3) hl v) Q)))) : rx_aw 128 10 [.ref 136, .int x1, .int x2, .int x3, .int x4] [] (rx_hp L rx_tr hi hl v) Q := by
  refine rx_aw_s 3 (pc := 10) rfl ?_
  refine rx_w_if (c := x2 ≤ x4) ⟨fun c2 => ?_, fun c2 => ?_⟩
  · have k := k.1 c2
    show rx_aw 128 27 [.ref 136, .int x1, .int x2, .int x3, .int x4] [] (rx_hp L rx_tr hi hl v) Q
    exact rx_aw_ret (pc := 27) rfl k
  · have k := k.2 c2
    show rx_aw 128 16 [.ref 136, .int x1, .int x2, .int x3, .int x4] [] (rx_hp L rx_tr hi hl v) Q
    refine rx_aw_s 3 (pc := 16) rfl ?_
    show rx_aw 128 20 [.ref 136, .int x1, .int x2, .int x3, .int x4] [.int x3, .int x4, .ref 136] (rx_hp L rx_tr hi hl v) Q
    obtain ⟨j3, ej3, hj3, k⟩ := k
    refine rx_aw_iast (pc := 20) (n := 315) j3 ej3 rfl rfl (by decide) rfl hj3 (by decide) ?_
    show rx_aw 128 21 [.ref 136, .int x1, .int x2, .int x3, .int x4] [] (rx_hp L rx_tr (rx_u hi 136 j3 x3) hl v) Q
    refine rx_aw_s 2 (pc := 21) rfl ?_
    show rx_aw 128 10 [.ref 136, .int x1, .int x2, .int x3, .int (x4 + (1 : Int32))] [] (rx_hp L rx_tr (rx_u hi 136 j3 x3) hl v) Q
    exact k
set_option maxRecDepth 100000 in
/-- java/util/Arrays.fill([IIII)V -/
theorem w128_fill_at137 {L : Nat} {hi : Nat → Nat → Int32} {hl : Nat → Nat → Int64} {v : Nat → Nat → Option Nat} {Q : Option Value → rx_H → Prop} {a1 : Int32} {a2 : Int32} {a3 : Int32} (k : rx_me 33 [.int (63 : Int32), .int a1, .int a2] (rx_hp L rx_tr hi hl v) (fun r h2 => r = none ∧ rx_ok2 L rx_tr h2 (fun hi1 hl1 v1 => rx_aw 128 10 [.ref 137, .int a1, .int a2, .int a3, .int a1] [] (rx_hp L rx_tr hi1 hl1 v1) Q))) : rx_me 128 [.ref 137, .int a1, .int a2, .int a3] (rx_hp L rx_tr hi hl v) Q := by
  show rx_aw 128 0 [.ref 137, .int a1, .int a2, .int a3, rx_no] [] (rx_hp L rx_tr hi hl v) Q
  refine rx_aw_s 1 (pc := 0) rfl ?_
  show rx_aw 128 1 [.ref 137, .int a1, .int a2, .int a3, rx_no] [.ref 137] (rx_hp L rx_tr hi hl v) Q
  refine rx_aw_s 1 (pc := 1) rfl ?_
  show rx_aw 128 2 [.ref 137, .int a1, .int a2, .int a3, rx_no] [.int (63 : Int32)] (rx_hp L rx_tr hi hl v) Q
  refine rx_aw_s 2 (pc := 2) rfl ?_
  show rx_aw 128 4 [.ref 137, .int a1, .int a2, .int a3, rx_no] [.int a2, .int a1, .int (63 : Int32)] (rx_hp L rx_tr hi hl v) Q
  refine rx_w_callV (j := 33) (pc := 4) rfl rfl rfl rfl rfl ?_
  refine rx_aw.mono k (fun r h2 k => ?_)
  obtain ⟨rfl, hi1, hl1, v1, rfl, k⟩ := k
  refine ⟨rfl, ?_⟩
  show rx_aw 128 7 [.ref 137, .int a1, .int a2, .int a3, rx_no] [] (rx_hp L rx_tr hi1 hl1 v1) Q
  refine rx_aw_s 2 (pc := 7) rfl ?_
  show rx_aw 128 10 [.ref 137, .int a1, .int a2, .int a3, .int a1] [] (rx_hp L rx_tr hi1 hl1 v1) Q
  exact k
set_option maxRecDepth 100000 in
theorem w128_fill_at137_10 {L : Nat} {hi : Nat → Nat → Int32} {hl : Nat → Nat → Int64} {v : Nat → Nat → Option Nat} {Q : Option Value → rx_H → Prop} {x1 : Int32} {x2 : Int32} {x3 : Int32} {x4 : Int32} (k : ((x2 ≤ x4 → Q none (rx_hp L rx_tr hi hl v)) ∧ (¬ (x2 ≤ x4) → (∃ j3 : Nat, x4 = nI j3 ∧ j3 < 63 ∧ rx_aw 128 10 [.ref 137, .int x1, .int x2, .int x3, .int (x4 + (1 : Int32))] [] (rx_hp L rx_tr (rx_u hi 137 j3 x3) hl v) Q)))) : rx_aw 128 10 [.ref 137, .int x1, .int x2, .int x3, .int x4] [] (rx_hp L rx_tr hi hl v) Q := by
  refine rx_aw_s 3 (pc := 10) rfl ?_
  refine rx_w_if (c := x2 ≤ x4) ⟨fun c2 => ?_, fun c2 => ?_⟩
  · have k := k.1 c2
    show rx_aw 128 27 [.ref 137, .int x1, .int x2, .int x3, .int x4] [] (rx_hp L rx_tr hi hl v) Q
    exact rx_aw_ret (pc := 27) rfl k
  · have k := k.2 c2
    show rx_aw 128 16 [.ref 137, .int x1, .int x2, .int x3, .int x4] [] (rx_hp L rx_tr hi hl v) Q
    refine rx_aw_s 3 (pc := 16) rfl ?_
    show rx_aw 128 20 [.ref 137, .int x1, .int x2, .int x3, .int x4] [.int x3, .int x4, .ref 137] (rx_hp L rx_tr hi hl v) Q
    obtain ⟨j3, ej3, hj3, k⟩ := k
    refine rx_aw_iast (pc := 20) (n := 63) j3 ej3 rfl rfl (by decide) rfl hj3 (by decide) ?_
    show rx_aw 128 21 [.ref 137, .int x1, .int x2, .int x3, .int x4] [] (rx_hp L rx_tr (rx_u hi 137 j3 x3) hl v) Q
    refine rx_aw_s 2 (pc := 21) rfl ?_
    show rx_aw 128 10 [.ref 137, .int x1, .int x2, .int x3, .int (x4 + (1 : Int32))] [] (rx_hp L rx_tr (rx_u hi 137 j3 x3) hl v) Q
    exact k
set_option maxRecDepth 100000 in
/-- CartFloor$Trio.seatOf(I)I -/
theorem w129_seatOf {L : Nat} {hi : Nat → Nat → Int32} {hl : Nat → Nat → Int64} {v : Nat → Nat → Option Nat} {Q : Option Value → rx_H → Prop} {a0 : Int32} (k : rx_aw 129 2 [.ref 134, .int a0, .int (0 : Int32)] [] (rx_hp L rx_tr hi hl v) Q) : rx_me 129 [.ref 134, .int a0] (rx_hp L rx_tr hi hl v) Q := by
  show rx_aw 129 0 [.ref 134, .int a0, rx_no] [] (rx_hp L rx_tr hi hl v) Q
  refine rx_aw_s 2 (pc := 0) rfl ?_
  show rx_aw 129 2 [.ref 134, .int a0, .int (0 : Int32)] [] (rx_hp L rx_tr hi hl v) Q
  exact k
set_option maxRecDepth 100000 in
theorem w129_seatOf_2 {L : Nat} {hi : Nat → Nat → Int32} {hl : Nat → Nat → Int64} {v : Nat → Nat → Option Nat} {Q : Option Value → rx_H → Prop} {x1 : Int32} {x2 : Int32} (k : (((hi 134 10) ≤ x2 → Q (some (.int (-1 : Int32))) (rx_hp L rx_tr hi hl v)) ∧ (¬ ((hi 134 10) ≤ x2) → (∃ j2 : Nat, x2 = nI j2 ∧ j2 < 20 ∧ (((hi 135 j2) = x1 → Q (some (.int x2)) (rx_hp L rx_tr hi hl v)) ∧ (¬ ((hi 135 j2) = x1) → rx_aw 129 2 [.ref 134, .int x1, .int (x2 + (1 : Int32))] [] (rx_hp L rx_tr hi hl v) Q)))))) : rx_aw 129 2 [.ref 134, .int x1, .int x2] [] (rx_hp L rx_tr hi hl v) Q := by
  refine rx_aw_s 4 (pc := 2) rfl ?_
  refine rx_w_if (c := (hi 134 10) ≤ x2) ⟨fun c1 => ?_, fun c1 => ?_⟩
  · have k := k.1 c1
    show rx_aw 129 28 [.ref 134, .int x1, .int x2] [] (rx_hp L rx_tr hi hl v) Q
    refine rx_aw_s 1 (pc := 28) rfl ?_
    show rx_aw 129 29 [.ref 134, .int x1, .int x2] [.int (-1 : Int32)] (rx_hp L rx_tr hi hl v) Q
    exact rx_aw_ret (pc := 29) rfl k
  · have k := k.2 c1
    show rx_aw 129 10 [.ref 134, .int x1, .int x2] [] (rx_hp L rx_tr hi hl v) Q
    refine rx_aw_s 3 (pc := 10) rfl ?_
    show rx_aw 129 15 [.ref 134, .int x1, .int x2] [.int x2, .ref 135] (rx_hp L rx_tr hi hl v) Q
    obtain ⟨j2, ej2, hj2, k⟩ := k
    refine rx_aw_iald (pc := 15) (n := 20) j2 ej2 rfl rfl rfl hj2 (by decide) ?_
    show rx_aw 129 16 [.ref 134, .int x1, .int x2] [.int (hi 135 j2)] (rx_hp L rx_tr hi hl v) Q
    refine rx_aw_s 2 (pc := 16) rfl ?_
    refine rx_w_ifn (c := (hi 135 j2) = x1) ⟨fun c3 => ?_, fun c3 => ?_⟩
    · have k := k.1 c3
      show rx_aw 129 20 [.ref 134, .int x1, .int x2] [] (rx_hp L rx_tr hi hl v) Q
      refine rx_aw_s 1 (pc := 20) rfl ?_
      show rx_aw 129 21 [.ref 134, .int x1, .int x2] [.int x2] (rx_hp L rx_tr hi hl v) Q
      exact rx_aw_ret (pc := 21) rfl k
    · have k := k.2 c3
      show rx_aw 129 22 [.ref 134, .int x1, .int x2] [] (rx_hp L rx_tr hi hl v) Q
      refine rx_aw_s 2 (pc := 22) rfl ?_
      show rx_aw 129 2 [.ref 134, .int x1, .int (x2 + (1 : Int32))] [] (rx_hp L rx_tr hi hl v) Q
      exact k
set_option maxRecDepth 100000 in
/-- CartFloor$Trio.findToGo(IJJ)V -/
theorem w130_findToGo {L : Nat} {hi : Nat → Nat → Int32} {hl : Nat → Nat → Int64} {v : Nat → Nat → Option Nat} {Q : Option Value → rx_H → Prop} {a0 : Int32} {a1 : Int64} {a2 : Int64} (k : rx_aw 130 6 [.ref 134, .int a0, .long a1, rx_no, .long a2, rx_no, .long a1, rx_no, .int (0 : Int32), rx_no, rx_no] [] (rx_hp L rx_tr hi hl v) Q) : rx_me 130 [.ref 134, .int a0, .long a1, .long a2] (rx_hp L rx_tr hi hl v) Q := by
  show rx_aw 130 0 [.ref 134, .int a0, .long a1, rx_no, .long a2, rx_no, rx_no, rx_no, rx_no, rx_no, rx_no] [] (rx_hp L rx_tr hi hl v) Q
  refine rx_aw_s 4 (pc := 0) rfl ?_
  show rx_aw 130 6 [.ref 134, .int a0, .long a1, rx_no, .long a2, rx_no, .long a1, rx_no, .int (0 : Int32), rx_no, rx_no] [] (rx_hp L rx_tr hi hl v) Q
  exact k
set_option maxRecDepth 100000 in
theorem w130_findToGo_6 {L : Nat} {hi : Nat → Nat → Int32} {hl : Nat → Nat → Int64} {v : Nat → Nat → Option Nat} {Q : Option Value → rx_H → Prop} {x1 : Int32} {x2 : Int64} {x4 : Int64} {x6 : Int64} {x8 : Int32} (k : (((64 : Int32) ≤ x8 → Q none (rx_hp L rx_tr hi hl v)) ∧ (¬ ((64 : Int32) ≤ x8) → rx_aw 130 16 [.ref 134, .int x1, .long x2, rx_no, .long x4, rx_no, .long x6, rx_no, .int x8, .int (0 : Int32), rx_no] [] (rx_hp L rx_tr hi hl v) Q))) : rx_aw 130 6 [.ref 134, .int x1, .long x2, rx_no, .long x4, rx_no, .long x6, rx_no, .int x8, rx_no, rx_no] [] (rx_hp L rx_tr hi hl v) Q := by
  refine rx_aw_s 3 (pc := 6) rfl ?_
  refine rx_w_if (c := (64 : Int32) ≤ x8) ⟨fun c1 => ?_, fun c1 => ?_⟩
  · have k := k.1 c1
    show rx_aw 130 99 [.ref 134, .int x1, .long x2, rx_no, .long x4, rx_no, .long x6, rx_no, .int x8, rx_no, rx_no] [] (rx_hp L rx_tr hi hl v) Q
    exact rx_aw_ret (pc := 99) rfl k
  · have k := k.2 c1
    show rx_aw 130 13 [.ref 134, .int x1, .long x2, rx_no, .long x4, rx_no, .long x6, rx_no, .int x8, rx_no, rx_no] [] (rx_hp L rx_tr hi hl v) Q
    refine rx_aw_s 2 (pc := 13) rfl ?_
    show rx_aw 130 16 [.ref 134, .int x1, .long x2, rx_no, .long x4, rx_no, .long x6, rx_no, .int x8, .int (0 : Int32), rx_no] [] (rx_hp L rx_tr hi hl v) Q
    exact k
set_option maxRecDepth 100000 in
theorem w130_findToGo_16 {L : Nat} {hi : Nat → Nat → Int32} {hl : Nat → Nat → Int64} {v : Nat → Nat → Option Nat} {Q : Option Value → rx_H → Prop} {x1 : Int32} {x2 : Int64} {x4 : Int64} {x6 : Int64} {x8 : Int32} {x9 : Int32} (k : (((hi 134 10) ≤ x9 → rx_me 78 [.ref 7, .long x6] (rx_hp L rx_tr hi hl v) (fun r h2 => ∃ z3 : Int64, r = some (.long z3) ∧ rx_ok2 L rx_tr h2 (fun hi3 hl3 v3 => rx_aw 130 6 [.ref 134, .int x1, .long x2, rx_no, .long x4, rx_no, .long (z3 &&& x4), rx_no, .int (x8 + (1 : Int32)), rx_no, rx_no] [] (rx_hp L rx_tr hi3 hl3 v3) Q))) ∧ (¬ ((hi 134 10) ≤ x9) → (∃ j4 : Nat, x9 = nI j4 ∧ j4 < 20 ∧ rx_me 9 [.int (hi 135 j4)] (rx_hp L rx_tr hi hl v) (fun r h2 => ∃ z5 : Int64, r = some (.long z5) ∧ rx_ok2 L rx_tr h2 (fun hi5 hl5 v5 => (((lg_cmp (x6 &&& z5) (0 : Int64)) = 0 → rx_aw 130 16 [.ref 134, .int x1, .long x2, rx_no, .long x4, rx_no, .long x6, rx_no, .int x8, .int (x9 + (1 : Int32)), rx_no] [] (rx_hp L rx_tr hi5 hl5 v5) Q) ∧ (¬ ((lg_cmp (x6 &&& z5) (0 : Int64)) = 0) → (∃ j7 : Nat, ((x1 * (21 : Int32)) + x9) = nI j7 ∧ j7 < 63 ∧ (((hi5 137 j7) = (1000000 : Int32) → (∃ j9 : Nat, ((x1 * (21 : Int32)) + x9) = nI j9 ∧ j9 < 63 ∧ rx_aw 130 16 [.ref 134, .int x1, .long x2, rx_no, .long x4, rx_no, .long x6, rx_no, .int x8, .int (x9 + (1 : Int32)), rx_no] [] (rx_hp L rx_tr (rx_u hi5 137 j9 x8) hl5 v5) Q)) ∧ (¬ ((hi5 137 j7) = (1000000 : Int32)) → rx_aw 130 16 [.ref 134, .int x1, .long x2, rx_no, .long x4, rx_no, .long x6, rx_no, .int x8, .int (x9 + (1 : Int32)), rx_no] [] (rx_hp L rx_tr hi5 hl5 v5) Q))))))))))) : rx_aw 130 16 [.ref 134, .int x1, .long x2, rx_no, .long x4, rx_no, .long x6, rx_no, .int x8, .int x9, rx_no] [] (rx_hp L rx_tr hi hl v) Q := by
  refine rx_aw_s 4 (pc := 16) rfl ?_
  refine rx_w_if (c := (hi 134 10) ≤ x9) ⟨fun c2 => ?_, fun c2 => ?_⟩
  · have k := k.1 c2
    show rx_aw 130 79 [.ref 134, .int x1, .long x2, rx_no, .long x4, rx_no, .long x6, rx_no, .int x8, .int x9, rx_no] [] (rx_hp L rx_tr hi hl v) Q
    refine rx_aw_s 3 (pc := 79) rfl ?_
    show rx_aw 130 85 [.ref 134, .int x1, .long x2, rx_no, .long x4, rx_no, .long x6, rx_no, .int x8, .int x9, rx_no] [.long x6, .ref 7] (rx_hp L rx_tr hi hl v) Q
    refine rx_w_callL (j := 78) (pc := 85) rfl rfl rfl rfl rfl ?_
    refine rx_aw.mono k (fun r h2 k => ?_)
    obtain ⟨z3, rfl, hi3, hl3, v3, rfl, k⟩ := k
    refine ⟨z3, rfl, ?_⟩
    show rx_aw 130 88 [.ref 134, .int x1, .long x2, rx_no, .long x4, rx_no, .long x6, rx_no, .int x8, .int x9, rx_no] [.long z3] (rx_hp L rx_tr hi3 hl3 v3) Q
    refine rx_aw_s 5 (pc := 88) rfl ?_
    show rx_aw 130 6 [.ref 134, .int x1, .long x2, rx_no, .long x4, rx_no, .long (z3 &&& x4), rx_no, .int (x8 + (1 : Int32)), .int x9, rx_no] [] (rx_hp L rx_tr hi3 hl3 v3) Q
    exact rx_aw_le (ls := [.ref 134, .int x1, .long x2, rx_no, .long x4, rx_no, .long (z3 &&& x4), rx_no, .int (x8 + (1 : Int32)), rx_no, rx_no]) ⟨Or.inr rfl, ⟨Or.inr rfl, ⟨Or.inr rfl, ⟨Or.inl rfl, ⟨Or.inr rfl, ⟨Or.inl rfl, ⟨Or.inr rfl, ⟨Or.inl rfl, ⟨Or.inr rfl, ⟨Or.inl rfl, ⟨Or.inl rfl, trivial⟩⟩⟩⟩⟩⟩⟩⟩⟩⟩⟩ k
  · have k := k.2 c2
    show rx_aw 130 25 [.ref 134, .int x1, .long x2, rx_no, .long x4, rx_no, .long x6, rx_no, .int x8, .int x9, rx_no] [] (rx_hp L rx_tr hi hl v) Q
    refine rx_aw_s 10 (pc := 25) rfl ?_
    show rx_aw 130 42 [.ref 134, .int x1, .long x2, rx_no, .long x4, rx_no, .long x6, rx_no, .int x8, .int x9, .int ((x1 * (21 : Int32)) + x9)] [.int x9, .ref 135, .long x6] (rx_hp L rx_tr hi hl v) Q
    obtain ⟨j4, ej4, hj4, k⟩ := k
    refine rx_aw_iald (pc := 42) (n := 20) j4 ej4 rfl rfl rfl hj4 (by decide) ?_
    show rx_aw 130 43 [.ref 134, .int x1, .long x2, rx_no, .long x4, rx_no, .long x6, rx_no, .int x8, .int x9, .int ((x1 * (21 : Int32)) + x9)] [.int (hi 135 j4), .long x6] (rx_hp L rx_tr hi hl v) Q
    refine rx_w_callL (j := 9) (pc := 43) rfl rfl rfl rfl rfl ?_
    refine rx_aw.mono k (fun r h2 k => ?_)
    obtain ⟨z5, rfl, hi5, hl5, v5, rfl, k⟩ := k
    refine ⟨z5, rfl, ?_⟩
    show rx_aw 130 46 [.ref 134, .int x1, .long x2, rx_no, .long x4, rx_no, .long x6, rx_no, .int x8, .int x9, .int ((x1 * (21 : Int32)) + x9)] [.long z5, .long x6] (rx_hp L rx_tr hi5 hl5 v5) Q
    refine rx_aw_s 4 (pc := 46) rfl ?_
    refine rx_w_if (c := (lg_cmp (x6 &&& z5) (0 : Int64)) = 0) ⟨fun c6 => ?_, fun c6 => ?_⟩
    · have k := k.1 c6
      show rx_aw 130 73 [.ref 134, .int x1, .long x2, rx_no, .long x4, rx_no, .long x6, rx_no, .int x8, .int x9, .int ((x1 * (21 : Int32)) + x9)] [] (rx_hp L rx_tr hi5 hl5 v5) Q
      refine rx_aw_s 2 (pc := 73) rfl ?_
      show rx_aw 130 16 [.ref 134, .int x1, .long x2, rx_no, .long x4, rx_no, .long x6, rx_no, .int x8, .int (x9 + (1 : Int32)), .int ((x1 * (21 : Int32)) + x9)] [] (rx_hp L rx_tr hi5 hl5 v5) Q
      exact rx_aw_le (ls := [.ref 134, .int x1, .long x2, rx_no, .long x4, rx_no, .long x6, rx_no, .int x8, .int (x9 + (1 : Int32)), rx_no]) ⟨Or.inr rfl, ⟨Or.inr rfl, ⟨Or.inr rfl, ⟨Or.inl rfl, ⟨Or.inr rfl, ⟨Or.inl rfl, ⟨Or.inr rfl, ⟨Or.inl rfl, ⟨Or.inr rfl, ⟨Or.inr rfl, ⟨Or.inl rfl, trivial⟩⟩⟩⟩⟩⟩⟩⟩⟩⟩⟩ k
    · have k := k.2 c6
      show rx_aw 130 52 [.ref 134, .int x1, .long x2, rx_no, .long x4, rx_no, .long x6, rx_no, .int x8, .int x9, .int ((x1 * (21 : Int32)) + x9)] [] (rx_hp L rx_tr hi5 hl5 v5) Q
      refine rx_aw_s 3 (pc := 52) rfl ?_
      show rx_aw 130 58 [.ref 134, .int x1, .long x2, rx_no, .long x4, rx_no, .long x6, rx_no, .int x8, .int x9, .int ((x1 * (21 : Int32)) + x9)] [.int ((x1 * (21 : Int32)) + x9), .ref 137] (rx_hp L rx_tr hi5 hl5 v5) Q
      obtain ⟨j7, ej7, hj7, k⟩ := k
      refine rx_aw_iald (pc := 58) (n := 63) j7 ej7 rfl rfl rfl hj7 (by decide) ?_
      show rx_aw 130 59 [.ref 134, .int x1, .long x2, rx_no, .long x4, rx_no, .long x6, rx_no, .int x8, .int x9, .int ((x1 * (21 : Int32)) + x9)] [.int (hi5 137 j7)] (rx_hp L rx_tr hi5 hl5 v5) Q
      refine rx_aw_s 2 (pc := 59) rfl ?_
      refine rx_w_ifn (c := (hi5 137 j7) = (1000000 : Int32)) ⟨fun c8 => ?_, fun c8 => ?_⟩
      · have k := k.1 c8
        show rx_aw 130 64 [.ref 134, .int x1, .long x2, rx_no, .long x4, rx_no, .long x6, rx_no, .int x8, .int x9, .int ((x1 * (21 : Int32)) + x9)] [] (rx_hp L rx_tr hi5 hl5 v5) Q
        refine rx_aw_s 4 (pc := 64) rfl ?_
        show rx_aw 130 72 [.ref 134, .int x1, .long x2, rx_no, .long x4, rx_no, .long x6, rx_no, .int x8, .int x9, .int ((x1 * (21 : Int32)) + x9)] [.int x8, .int ((x1 * (21 : Int32)) + x9), .ref 137] (rx_hp L rx_tr hi5 hl5 v5) Q
        obtain ⟨j9, ej9, hj9, k⟩ := k
        refine rx_aw_iast (pc := 72) (n := 63) j9 ej9 rfl rfl (by decide) rfl hj9 (by decide) ?_
        show rx_aw 130 73 [.ref 134, .int x1, .long x2, rx_no, .long x4, rx_no, .long x6, rx_no, .int x8, .int x9, .int ((x1 * (21 : Int32)) + x9)] [] (rx_hp L rx_tr (rx_u hi5 137 j9 x8) hl5 v5) Q
        refine rx_aw_s 2 (pc := 73) rfl ?_
        show rx_aw 130 16 [.ref 134, .int x1, .long x2, rx_no, .long x4, rx_no, .long x6, rx_no, .int x8, .int (x9 + (1 : Int32)), .int ((x1 * (21 : Int32)) + x9)] [] (rx_hp L rx_tr (rx_u hi5 137 j9 x8) hl5 v5) Q
        exact rx_aw_le (ls := [.ref 134, .int x1, .long x2, rx_no, .long x4, rx_no, .long x6, rx_no, .int x8, .int (x9 + (1 : Int32)), rx_no]) ⟨Or.inr rfl, ⟨Or.inr rfl, ⟨Or.inr rfl, ⟨Or.inl rfl, ⟨Or.inr rfl, ⟨Or.inl rfl, ⟨Or.inr rfl, ⟨Or.inl rfl, ⟨Or.inr rfl, ⟨Or.inr rfl, ⟨Or.inl rfl, trivial⟩⟩⟩⟩⟩⟩⟩⟩⟩⟩⟩ k
      · have k := k.2 c8
        show rx_aw 130 73 [.ref 134, .int x1, .long x2, rx_no, .long x4, rx_no, .long x6, rx_no, .int x8, .int x9, .int ((x1 * (21 : Int32)) + x9)] [] (rx_hp L rx_tr hi5 hl5 v5) Q
        refine rx_aw_s 2 (pc := 73) rfl ?_
        show rx_aw 130 16 [.ref 134, .int x1, .long x2, rx_no, .long x4, rx_no, .long x6, rx_no, .int x8, .int (x9 + (1 : Int32)), .int ((x1 * (21 : Int32)) + x9)] [] (rx_hp L rx_tr hi5 hl5 v5) Q
        exact rx_aw_le (ls := [.ref 134, .int x1, .long x2, rx_no, .long x4, rx_no, .long x6, rx_no, .int x8, .int (x9 + (1 : Int32)), rx_no]) ⟨Or.inr rfl, ⟨Or.inr rfl, ⟨Or.inr rfl, ⟨Or.inl rfl, ⟨Or.inr rfl, ⟨Or.inl rfl, ⟨Or.inr rfl, ⟨Or.inl rfl, ⟨Or.inr rfl, ⟨Or.inr rfl, ⟨Or.inl rfl, trivial⟩⟩⟩⟩⟩⟩⟩⟩⟩⟩⟩ k
set_option maxRecDepth 100000 in
/-- CartFloor$Trio.clear()V -/
theorem w131_clear {L : Nat} {hi : Nat → Nat → Int32} {hl : Nat → Nat → Int64} {v : Nat → Nat → Option Nat} {Q : Option Value → rx_H → Prop}  (k : rx_me 7 [.ref 140, .int (1000000 : Int32)] (rx_hp L rx_tr hi hl v) (fun r h2 => r = none ∧ rx_ok2 L rx_tr h2 (fun hi1 hl1 v1 => rx_aw 131 11 [.ref 134, .int (0 : Int32)] [] (rx_hp L rx_tr hi1 hl1 v1) Q))) : rx_me 131 [.ref 134] (rx_hp L rx_tr hi hl v) Q := by
  show rx_aw 131 0 [.ref 134, rx_no] [] (rx_hp L rx_tr hi hl v) Q
  refine rx_aw_s 3 (pc := 0) rfl ?_
  show rx_aw 131 6 [.ref 134, rx_no] [.int (1000000 : Int32), .ref 140] (rx_hp L rx_tr hi hl v) Q
  refine rx_w_callV (j := 7) (pc := 6) rfl rfl rfl rfl rfl ?_
  refine rx_aw.mono k (fun r h2 k => ?_)
  obtain ⟨rfl, hi1, hl1, v1, rfl, k⟩ := k
  refine ⟨rfl, ?_⟩
  show rx_aw 131 9 [.ref 134, rx_no] [] (rx_hp L rx_tr hi1 hl1 v1) Q
  refine rx_aw_s 2 (pc := 9) rfl ?_
  show rx_aw 131 11 [.ref 134, .int (0 : Int32)] [] (rx_hp L rx_tr hi1 hl1 v1) Q
  exact k
set_option maxRecDepth 100000 in
theorem w131_clear_11 {L : Nat} {hi : Nat → Nat → Int32} {hl : Nat → Nat → Int64} {v : Nat → Nat → Option Nat} {Q : Option Value → rx_H → Prop} {x1 : Int32} (k : (((8 : Int32) ≤ x1 → Q none (rx_hp L rx_tr hi hl v)) ∧ (¬ ((8 : Int32) ≤ x1) → (∃ j3 : Nat, ((9261 : Int32) + x1) = nI j3 ∧ j3 < 9269 ∧ (∃ j4 : Nat, ((9261 : Int32) + x1) = nI j4 ∧ j4 < 9269 ∧ rx_aw 131 11 [.ref 134, .int (x1 + (1 : Int32))] [] (rx_hp L rx_tr (rx_u (rx_u hi 141 j3 ((9261 : Int32) + x1)) 142 j4 ((9261 : Int32) + x1)) hl v) Q))))) : rx_aw 131 11 [.ref 134, .int x1] [] (rx_hp L rx_tr hi hl v) Q := by
  refine rx_aw_s 3 (pc := 11) rfl ?_
  refine rx_w_if (c := (8 : Int32) ≤ x1) ⟨fun c2 => ?_, fun c2 => ?_⟩
  · have k := k.1 c2
    show rx_aw 131 53 [.ref 134, .int x1] [] (rx_hp L rx_tr hi hl v) Q
    exact rx_aw_ret (pc := 53) rfl k
  · have k := k.2 c2
    show rx_aw 131 17 [.ref 134, .int x1] [] (rx_hp L rx_tr hi hl v) Q
    refine rx_aw_s 8 (pc := 17) rfl ?_
    show rx_aw 131 31 [.ref 134, .int x1] [.int ((9261 : Int32) + x1), .int ((9261 : Int32) + x1), .ref 141] (rx_hp L rx_tr hi hl v) Q
    obtain ⟨j3, ej3, hj3, k⟩ := k
    refine rx_aw_iast (pc := 31) (n := 9269) j3 ej3 rfl rfl (by decide) rfl hj3 (by decide) ?_
    show rx_aw 131 32 [.ref 134, .int x1] [] (rx_hp L rx_tr (rx_u hi 141 j3 ((9261 : Int32) + x1)) hl v) Q
    refine rx_aw_s 8 (pc := 32) rfl ?_
    show rx_aw 131 46 [.ref 134, .int x1] [.int ((9261 : Int32) + x1), .int ((9261 : Int32) + x1), .ref 142] (rx_hp L rx_tr (rx_u hi 141 j3 ((9261 : Int32) + x1)) hl v) Q
    obtain ⟨j4, ej4, hj4, k⟩ := k
    refine rx_aw_iast (pc := 46) (n := 9269) j4 ej4 rfl rfl (by decide) rfl hj4 (by decide) ?_
    show rx_aw 131 47 [.ref 134, .int x1] [] (rx_hp L rx_tr (rx_u (rx_u hi 141 j3 ((9261 : Int32) + x1)) 142 j4 ((9261 : Int32) + x1)) hl v) Q
    refine rx_aw_s 2 (pc := 47) rfl ?_
    show rx_aw 131 11 [.ref 134, .int (x1 + (1 : Int32))] [] (rx_hp L rx_tr (rx_u (rx_u hi 141 j3 ((9261 : Int32) + x1)) 142 j4 ((9261 : Int32) + x1)) hl v) Q
    exact k
set_option maxRecDepth 100000 in
/-- CartFloor$Trio.farFrom(I)I -/
theorem w132_farFrom {L : Nat} {hi : Nat → Nat → Int32} {hl : Nat → Nat → Int64} {v : Nat → Nat → Option Nat} {Q : Option Value → rx_H → Prop} {a0 : Int32} (k : rx_aw 132 4 [.ref 134, .int a0, .int (0 : Int32), .int (0 : Int32)] [] (rx_hp L rx_tr hi hl v) Q) : rx_me 132 [.ref 134, .int a0] (rx_hp L rx_tr hi hl v) Q := by
  show rx_aw 132 0 [.ref 134, .int a0, rx_no, rx_no] [] (rx_hp L rx_tr hi hl v) Q
  refine rx_aw_s 4 (pc := 0) rfl ?_
  show rx_aw 132 4 [.ref 134, .int a0, .int (0 : Int32), .int (0 : Int32)] [] (rx_hp L rx_tr hi hl v) Q
  exact k
set_option maxRecDepth 100000 in
theorem w132_farFrom_4 {L : Nat} {hi : Nat → Nat → Int32} {hl : Nat → Nat → Int64} {v : Nat → Nat → Option Nat} {Q : Option Value → rx_H → Prop} {x1 : Int32} {x2 : Int32} {x3 : Int32} (k : (((3 : Int32) ≤ x3 → Q (some (.int x2)) (rx_hp L rx_tr hi hl v)) ∧ (¬ ((3 : Int32) ≤ x3) → rx_me 133 [.ref 134, .int x1, .int x3] (rx_hp L rx_tr hi hl v) (fun r h2 => ∃ z2 : Int32, r = some (.int z2) ∧ rx_ok2 L rx_tr h2 (fun hi2 hl2 v2 => (∃ j3 : Nat, ((x3 * (21 : Int32)) + z2) = nI j3 ∧ j3 < 63 ∧ rx_aw 132 4 [.ref 134, .int x1, .int (x2 + (hi2 137 j3)), .int (x3 + (1 : Int32))] [] (rx_hp L rx_tr hi2 hl2 v2) Q)))))) : rx_aw 132 4 [.ref 134, .int x1, .int x2, .int x3] [] (rx_hp L rx_tr hi hl v) Q := by
  refine rx_aw_s 3 (pc := 4) rfl ?_
  refine rx_w_if (c := (3 : Int32) ≤ x3) ⟨fun c1 => ?_, fun c1 => ?_⟩
  · have k := k.1 c1
    show rx_aw 132 34 [.ref 134, .int x1, .int x2, .int x3] [] (rx_hp L rx_tr hi hl v) Q
    refine rx_aw_s 1 (pc := 34) rfl ?_
    show rx_aw 132 35 [.ref 134, .int x1, .int x2, .int x3] [.int x2] (rx_hp L rx_tr hi hl v) Q
    exact rx_aw_ret (pc := 35) rfl k
  · have k := k.2 c1
    show rx_aw 132 9 [.ref 134, .int x1, .int x2, .int x3] [] (rx_hp L rx_tr hi hl v) Q
    refine rx_aw_s 9 (pc := 9) rfl ?_
    show rx_aw 132 21 [.ref 134, .int x1, .int x2, .int x3] [.int x3, .int x1, .ref 134, .int (x3 * (21 : Int32)), .ref 137, .int x2] (rx_hp L rx_tr hi hl v) Q
    refine rx_w_callI (j := 133) (pc := 21) rfl rfl rfl rfl rfl ?_
    refine rx_aw.mono k (fun r h2 k => ?_)
    obtain ⟨z2, rfl, hi2, hl2, v2, rfl, k⟩ := k
    refine ⟨z2, rfl, ?_⟩
    show rx_aw 132 24 [.ref 134, .int x1, .int x2, .int x3] [.int z2, .int (x3 * (21 : Int32)), .ref 137, .int x2] (rx_hp L rx_tr hi2 hl2 v2) Q
    refine rx_aw_s 1 (pc := 24) rfl ?_
    show rx_aw 132 25 [.ref 134, .int x1, .int x2, .int x3] [.int ((x3 * (21 : Int32)) + z2), .ref 137, .int x2] (rx_hp L rx_tr hi2 hl2 v2) Q
    obtain ⟨j3, ej3, hj3, k⟩ := k
    refine rx_aw_iald (pc := 25) (n := 63) j3 ej3 rfl rfl rfl hj3 (by decide) ?_
    show rx_aw 132 26 [.ref 134, .int x1, .int x2, .int x3] [.int (hi2 137 j3), .int x2] (rx_hp L rx_tr hi2 hl2 v2) Q
    refine rx_aw_s 4 (pc := 26) rfl ?_
    show rx_aw 132 4 [.ref 134, .int x1, .int (x2 + (hi2 137 j3)), .int (x3 + (1 : Int32))] [] (rx_hp L rx_tr hi2 hl2 v2) Q
    exact k
set_option maxRecDepth 100000 in
/-- CartFloor$Trio.seatIn(II)I -/
theorem w133_seatIn {L : Nat} {hi : Nat → Nat → Int32} {hl : Nat → Nat → Int64} {v : Nat → Nat → Option Nat} {Q : Option Value → rx_H → Prop} {a0 : Int32} {a1 : Int32} (k : ((a1 = 0 → Q (some (.int (a0 - a0 / (21 : Int32) * (21 : Int32)))) (rx_hp L rx_tr hi hl v)) ∧ (¬ (a1 = 0) → ((a1 = (1 : Int32) → Q (some (.int ((a0 / (21 : Int32)) - (a0 / (21 : Int32)) / (21 : Int32) * (21 : Int32)))) (rx_hp L rx_tr hi hl v)) ∧ (¬ (a1 = (1 : Int32)) → Q (some (.int ((a0 / (441 : Int32)) - (a0 / (441 : Int32)) / (21 : Int32) * (21 : Int32)))) (rx_hp L rx_tr hi hl v)))))) : rx_me 133 [.ref 134, .int a0, .int a1] (rx_hp L rx_tr hi hl v) Q := by
  show rx_aw 133 0 [.ref 134, .int a0, .int a1, rx_no] [] (rx_hp L rx_tr hi hl v) Q
  refine rx_aw_s 2 (pc := 0) rfl ?_
  refine rx_w_ifn (c := a1 = 0) ⟨fun c1 => ?_, fun c1 => ?_⟩
  · have k := k.1 c1
    show rx_aw 133 4 [.ref 134, .int a0, .int a1, rx_no] [] (rx_hp L rx_tr hi hl v) Q
    refine rx_aw_s 5 (pc := 4) rfl ?_
    show rx_aw 133 29 [.ref 134, .int a0, .int a1, .int a0] [.int (21 : Int32), .int a0] (rx_hp L rx_tr hi hl v) Q
    refine rx_aw_rem (pc := 29) rfl (by decide) ?_
    show rx_aw 133 30 [.ref 134, .int a0, .int a1, .int a0] [.int (a0 - a0 / (21 : Int32) * (21 : Int32))] (rx_hp L rx_tr hi hl v) Q
    exact rx_aw_ret (pc := 30) rfl k
  · have k := k.2 c1
    show rx_aw 133 8 [.ref 134, .int a0, .int a1, rx_no] [] (rx_hp L rx_tr hi hl v) Q
    refine rx_aw_s 3 (pc := 8) rfl ?_
    refine rx_w_ifn (c := a1 = (1 : Int32)) ⟨fun c2 => ?_, fun c2 => ?_⟩
    · have k := k.1 c2
      show rx_aw 133 13 [.ref 134, .int a0, .int a1, rx_no] [] (rx_hp L rx_tr hi hl v) Q
      refine rx_aw_s 2 (pc := 13) rfl ?_
      show rx_aw 133 16 [.ref 134, .int a0, .int a1, rx_no] [.int (21 : Int32), .int a0] (rx_hp L rx_tr hi hl v) Q
      refine rx_aw_div (pc := 16) rfl (by decide) ?_
      show rx_aw 133 17 [.ref 134, .int a0, .int a1, rx_no] [.int (a0 / (21 : Int32))] (rx_hp L rx_tr hi hl v) Q
      refine rx_aw_s 4 (pc := 17) rfl ?_
      show rx_aw 133 29 [.ref 134, .int a0, .int a1, .int (a0 / (21 : Int32))] [.int (21 : Int32), .int (a0 / (21 : Int32))] (rx_hp L rx_tr hi hl v) Q
      refine rx_aw_rem (pc := 29) rfl (by decide) ?_
      show rx_aw 133 30 [.ref 134, .int a0, .int a1, .int (a0 / (21 : Int32))] [.int ((a0 / (21 : Int32)) - (a0 / (21 : Int32)) / (21 : Int32) * (21 : Int32))] (rx_hp L rx_tr hi hl v) Q
      exact rx_aw_ret (pc := 30) rfl k
    · have k := k.2 c2
      show rx_aw 133 20 [.ref 134, .int a0, .int a1, rx_no] [] (rx_hp L rx_tr hi hl v) Q
      refine rx_aw_s 2 (pc := 20) rfl ?_
      show rx_aw 133 24 [.ref 134, .int a0, .int a1, rx_no] [.int (441 : Int32), .int a0] (rx_hp L rx_tr hi hl v) Q
      refine rx_aw_div (pc := 24) rfl (by decide) ?_
      show rx_aw 133 25 [.ref 134, .int a0, .int a1, rx_no] [.int (a0 / (441 : Int32))] (rx_hp L rx_tr hi hl v) Q
      refine rx_aw_s 3 (pc := 25) rfl ?_
      show rx_aw 133 29 [.ref 134, .int a0, .int a1, .int (a0 / (441 : Int32))] [.int (21 : Int32), .int (a0 / (441 : Int32))] (rx_hp L rx_tr hi hl v) Q
      refine rx_aw_rem (pc := 29) rfl (by decide) ?_
      show rx_aw 133 30 [.ref 134, .int a0, .int a1, .int (a0 / (441 : Int32))] [.int ((a0 / (441 : Int32)) - (a0 / (441 : Int32)) / (21 : Int32) * (21 : Int32))] (rx_hp L rx_tr hi hl v) Q
      exact rx_aw_ret (pc := 30) rfl k
set_option maxRecDepth 100000 in
/-- CartFloor$Trio.enter(II)V -/
theorem w134_enter {L : Nat} {hi : Nat → Nat → Int32} {hl : Nat → Nat → Int64} {v : Nat → Nat → Option Nat} {Q : Option Value → rx_H → Prop} {a0 : Int32} {a1 : Int32} (k : (∃ j1 : Nat, ((9261 : Int32) + (a1 - a1 / (8 : Int32) * (8 : Int32))) = nI j1 ∧ j1 < 9269 ∧ (∃ j2 : Nat, a0 = nI j2 ∧ j2 < 9269 ∧ (∃ j3 : Nat, a0 = nI j3 ∧ j3 < 9269 ∧ (∃ j4 : Nat, ((9261 : Int32) + (a1 - a1 / (8 : Int32) * (8 : Int32))) = nI j4 ∧ j4 < 9269 ∧ (∃ j5 : Nat, ((rx_u (rx_u hi 141 j2 (hi 141 j1)) 142 j3 ((9261 : Int32) + (a1 - a1 / (8 : Int32) * (8 : Int32)))) 141 j4) = nI j5 ∧ j5 < 9269 ∧ (∃ j6 : Nat, ((9261 : Int32) + (a1 - a1 / (8 : Int32) * (8 : Int32))) = nI j6 ∧ j6 < 9269 ∧ Q none (rx_hp L rx_tr (rx_u (rx_u (rx_u (rx_u hi 141 j2 (hi 141 j1)) 142 j3 ((9261 : Int32) + (a1 - a1 / (8 : Int32) * (8 : Int32)))) 142 j5 a0) 141 j6 a0) hl v)))))))) : rx_me 134 [.ref 134, .int a0, .int a1] (rx_hp L rx_tr hi hl v) Q := by
  show rx_aw 134 0 [.ref 134, .int a0, .int a1, rx_no] [] (rx_hp L rx_tr hi hl v) Q
  refine rx_aw_s 3 (pc := 0) rfl ?_
  show rx_aw 134 6 [.ref 134, .int a0, .int a1, rx_no] [.int (8 : Int32), .int a1, .int (9261 : Int32)] (rx_hp L rx_tr hi hl v) Q
  refine rx_aw_rem (pc := 6) rfl (by decide) ?_
  show rx_aw 134 7 [.ref 134, .int a0, .int a1, rx_no] [.int (a1 - a1 / (8 : Int32) * (8 : Int32)), .int (9261 : Int32)] (rx_hp L rx_tr hi hl v) Q
  refine rx_aw_s 8 (pc := 7) rfl ?_
  show rx_aw 134 19 [.ref 134, .int a0, .int a1, .int ((9261 : Int32) + (a1 - a1 / (8 : Int32) * (8 : Int32)))] [.int ((9261 : Int32) + (a1 - a1 / (8 : Int32) * (8 : Int32))), .ref 141, .int a0, .ref 141] (rx_hp L rx_tr hi hl v) Q
  obtain ⟨j1, ej1, hj1, k⟩ := k
  refine rx_aw_iald (pc := 19) (n := 9269) j1 ej1 rfl rfl rfl hj1 (by decide) ?_
  show rx_aw 134 20 [.ref 134, .int a0, .int a1, .int ((9261 : Int32) + (a1 - a1 / (8 : Int32) * (8 : Int32)))] [.int (hi 141 j1), .int a0, .ref 141] (rx_hp L rx_tr hi hl v) Q
  obtain ⟨j2, ej2, hj2, k⟩ := k
  refine rx_aw_iast (pc := 20) (n := 9269) j2 ej2 rfl rfl (by decide) rfl hj2 (by decide) ?_
  show rx_aw 134 21 [.ref 134, .int a0, .int a1, .int ((9261 : Int32) + (a1 - a1 / (8 : Int32) * (8 : Int32)))] [] (rx_hp L rx_tr (rx_u hi 141 j2 (hi 141 j1)) hl v) Q
  refine rx_aw_s 4 (pc := 21) rfl ?_
  show rx_aw 134 27 [.ref 134, .int a0, .int a1, .int ((9261 : Int32) + (a1 - a1 / (8 : Int32) * (8 : Int32)))] [.int ((9261 : Int32) + (a1 - a1 / (8 : Int32) * (8 : Int32))), .int a0, .ref 142] (rx_hp L rx_tr (rx_u hi 141 j2 (hi 141 j1)) hl v) Q
  obtain ⟨j3, ej3, hj3, k⟩ := k
  refine rx_aw_iast (pc := 27) (n := 9269) j3 ej3 rfl rfl (by decide) rfl hj3 (by decide) ?_
  show rx_aw 134 28 [.ref 134, .int a0, .int a1, .int ((9261 : Int32) + (a1 - a1 / (8 : Int32) * (8 : Int32)))] [] (rx_hp L rx_tr (rx_u (rx_u hi 141 j2 (hi 141 j1)) 142 j3 ((9261 : Int32) + (a1 - a1 / (8 : Int32) * (8 : Int32)))) hl v) Q
  refine rx_aw_s 5 (pc := 28) rfl ?_
  show rx_aw 134 37 [.ref 134, .int a0, .int a1, .int ((9261 : Int32) + (a1 - a1 / (8 : Int32) * (8 : Int32)))] [.int ((9261 : Int32) + (a1 - a1 / (8 : Int32) * (8 : Int32))), .ref 141, .ref 142] (rx_hp L rx_tr (rx_u (rx_u hi 141 j2 (hi 141 j1)) 142 j3 ((9261 : Int32) + (a1 - a1 / (8 : Int32) * (8 : Int32)))) hl v) Q
  obtain ⟨j4, ej4, hj4, k⟩ := k
  refine rx_aw_iald (pc := 37) (n := 9269) j4 ej4 rfl rfl rfl hj4 (by decide) ?_
  show rx_aw 134 38 [.ref 134, .int a0, .int a1, .int ((9261 : Int32) + (a1 - a1 / (8 : Int32) * (8 : Int32)))] [.int ((rx_u (rx_u hi 141 j2 (hi 141 j1)) 142 j3 ((9261 : Int32) + (a1 - a1 / (8 : Int32) * (8 : Int32)))) 141 j4), .ref 142] (rx_hp L rx_tr (rx_u (rx_u hi 141 j2 (hi 141 j1)) 142 j3 ((9261 : Int32) + (a1 - a1 / (8 : Int32) * (8 : Int32)))) hl v) Q
  refine rx_aw_s 1 (pc := 38) rfl ?_
  show rx_aw 134 39 [.ref 134, .int a0, .int a1, .int ((9261 : Int32) + (a1 - a1 / (8 : Int32) * (8 : Int32)))] [.int a0, .int ((rx_u (rx_u hi 141 j2 (hi 141 j1)) 142 j3 ((9261 : Int32) + (a1 - a1 / (8 : Int32) * (8 : Int32)))) 141 j4), .ref 142] (rx_hp L rx_tr (rx_u (rx_u hi 141 j2 (hi 141 j1)) 142 j3 ((9261 : Int32) + (a1 - a1 / (8 : Int32) * (8 : Int32)))) hl v) Q
  obtain ⟨j5, ej5, hj5, k⟩ := k
  refine rx_aw_iast (pc := 39) (n := 9269) j5 ej5 rfl rfl (by decide) rfl hj5 (by decide) ?_
  show rx_aw 134 40 [.ref 134, .int a0, .int a1, .int ((9261 : Int32) + (a1 - a1 / (8 : Int32) * (8 : Int32)))] [] (rx_hp L rx_tr (rx_u (rx_u (rx_u hi 141 j2 (hi 141 j1)) 142 j3 ((9261 : Int32) + (a1 - a1 / (8 : Int32) * (8 : Int32)))) 142 j5 a0) hl v) Q
  refine rx_aw_s 4 (pc := 40) rfl ?_
  show rx_aw 134 46 [.ref 134, .int a0, .int a1, .int ((9261 : Int32) + (a1 - a1 / (8 : Int32) * (8 : Int32)))] [.int a0, .int ((9261 : Int32) + (a1 - a1 / (8 : Int32) * (8 : Int32))), .ref 141] (rx_hp L rx_tr (rx_u (rx_u (rx_u hi 141 j2 (hi 141 j1)) 142 j3 ((9261 : Int32) + (a1 - a1 / (8 : Int32) * (8 : Int32)))) 142 j5 a0) hl v) Q
  obtain ⟨j6, ej6, hj6, k⟩ := k
  refine rx_aw_iast (pc := 46) (n := 9269) j6 ej6 rfl rfl (by decide) rfl hj6 (by decide) ?_
  show rx_aw 134 47 [.ref 134, .int a0, .int a1, .int ((9261 : Int32) + (a1 - a1 / (8 : Int32) * (8 : Int32)))] [] (rx_hp L rx_tr (rx_u (rx_u (rx_u (rx_u hi 141 j2 (hi 141 j1)) 142 j3 ((9261 : Int32) + (a1 - a1 / (8 : Int32) * (8 : Int32)))) 142 j5 a0) 141 j6 a0) hl v) Q
  exact rx_aw_ret (pc := 47) rfl k
set_option maxRecDepth 100000 in
/-- CartFloor$Trio.leave(I)V -/
theorem w135_leave {L : Nat} {hi : Nat → Nat → Int32} {hl : Nat → Nat → Int64} {v : Nat → Nat → Option Nat} {Q : Option Value → rx_H → Prop} {a0 : Int32} (k : (∃ j1 : Nat, a0 = nI j1 ∧ j1 < 9269 ∧ (∃ j2 : Nat, a0 = nI j2 ∧ j2 < 9269 ∧ (∃ j3 : Nat, (hi 142 j1) = nI j3 ∧ j3 < 9269 ∧ (∃ j4 : Nat, a0 = nI j4 ∧ j4 < 9269 ∧ (∃ j5 : Nat, a0 = nI j5 ∧ j5 < 9269 ∧ (∃ j6 : Nat, ((rx_u hi 141 j3 (hi 141 j2)) 141 j4) = nI j6 ∧ j6 < 9269 ∧ Q none (rx_hp L rx_tr (rx_u (rx_u hi 141 j3 (hi 141 j2)) 142 j6 ((rx_u hi 141 j3 (hi 141 j2)) 142 j5)) hl v)))))))) : rx_me 135 [.ref 134, .int a0] (rx_hp L rx_tr hi hl v) Q := by
  show rx_aw 135 0 [.ref 134, .int a0] [] (rx_hp L rx_tr hi hl v) Q
  refine rx_aw_s 5 (pc := 0) rfl ?_
  show rx_aw 135 9 [.ref 134, .int a0] [.int a0, .ref 142, .ref 141] (rx_hp L rx_tr hi hl v) Q
  obtain ⟨j1, ej1, hj1, k⟩ := k
  refine rx_aw_iald (pc := 9) (n := 9269) j1 ej1 rfl rfl rfl hj1 (by decide) ?_
  show rx_aw 135 10 [.ref 134, .int a0] [.int (hi 142 j1), .ref 141] (rx_hp L rx_tr hi hl v) Q
  refine rx_aw_s 3 (pc := 10) rfl ?_
  show rx_aw 135 15 [.ref 134, .int a0] [.int a0, .ref 141, .int (hi 142 j1), .ref 141] (rx_hp L rx_tr hi hl v) Q
  obtain ⟨j2, ej2, hj2, k⟩ := k
  refine rx_aw_iald (pc := 15) (n := 9269) j2 ej2 rfl rfl rfl hj2 (by decide) ?_
  show rx_aw 135 16 [.ref 134, .int a0] [.int (hi 141 j2), .int (hi 142 j1), .ref 141] (rx_hp L rx_tr hi hl v) Q
  obtain ⟨j3, ej3, hj3, k⟩ := k
  refine rx_aw_iast (pc := 16) (n := 9269) j3 ej3 rfl rfl (by decide) rfl hj3 (by decide) ?_
  show rx_aw 135 17 [.ref 134, .int a0] [] (rx_hp L rx_tr (rx_u hi 141 j3 (hi 141 j2)) hl v) Q
  refine rx_aw_s 5 (pc := 17) rfl ?_
  show rx_aw 135 26 [.ref 134, .int a0] [.int a0, .ref 141, .ref 142] (rx_hp L rx_tr (rx_u hi 141 j3 (hi 141 j2)) hl v) Q
  obtain ⟨j4, ej4, hj4, k⟩ := k
  refine rx_aw_iald (pc := 26) (n := 9269) j4 ej4 rfl rfl rfl hj4 (by decide) ?_
  show rx_aw 135 27 [.ref 134, .int a0] [.int ((rx_u hi 141 j3 (hi 141 j2)) 141 j4), .ref 142] (rx_hp L rx_tr (rx_u hi 141 j3 (hi 141 j2)) hl v) Q
  refine rx_aw_s 3 (pc := 27) rfl ?_
  show rx_aw 135 32 [.ref 134, .int a0] [.int a0, .ref 142, .int ((rx_u hi 141 j3 (hi 141 j2)) 141 j4), .ref 142] (rx_hp L rx_tr (rx_u hi 141 j3 (hi 141 j2)) hl v) Q
  obtain ⟨j5, ej5, hj5, k⟩ := k
  refine rx_aw_iald (pc := 32) (n := 9269) j5 ej5 rfl rfl rfl hj5 (by decide) ?_
  show rx_aw 135 33 [.ref 134, .int a0] [.int ((rx_u hi 141 j3 (hi 141 j2)) 142 j5), .int ((rx_u hi 141 j3 (hi 141 j2)) 141 j4), .ref 142] (rx_hp L rx_tr (rx_u hi 141 j3 (hi 141 j2)) hl v) Q
  obtain ⟨j6, ej6, hj6, k⟩ := k
  refine rx_aw_iast (pc := 33) (n := 9269) j6 ej6 rfl rfl (by decide) rfl hj6 (by decide) ?_
  show rx_aw 135 34 [.ref 134, .int a0] [] (rx_hp L rx_tr (rx_u (rx_u hi 141 j3 (hi 141 j2)) 142 j6 ((rx_u hi 141 j3 (hi 141 j2)) 142 j5)) hl v) Q
  exact rx_aw_ret (pc := 34) rfl k
set_option maxRecDepth 100000 in
/-- CartFloor$Trio.expand(I)V -/
theorem w136_expand {L : Nat} {hi : Nat → Nat → Int32} {hl : Nat → Nat → Int64} {v : Nat → Nat → Option Nat} {Q : Option Value → rx_H → Prop} {a0 : Int32} (k : rx_aw 136 7 [.ref 134, .int a0, .int (0 : Int32), .int (1 : Int32), .int (0 : Int32), rx_no, rx_no, rx_no] [] (rx_hp L rx_tr hi hl v) Q) : rx_me 136 [.ref 134, .int a0] (rx_hp L rx_tr hi hl v) Q := by
  show rx_aw 136 0 [.ref 134, .int a0, rx_no, rx_no, rx_no, rx_no, rx_no, rx_no] [] (rx_hp L rx_tr hi hl v) Q
  refine rx_aw_s 6 (pc := 0) rfl ?_
  show rx_aw 136 7 [.ref 134, .int a0, .int (0 : Int32), .int (1 : Int32), .int (0 : Int32), rx_no, rx_no, rx_no] [] (rx_hp L rx_tr hi hl v) Q
  exact k
set_option maxRecDepth 100000 in
theorem w136_expand_7 {L : Nat} {hi : Nat → Nat → Int32} {hl : Nat → Nat → Int64} {v : Nat → Nat → Option Nat} {Q : Option Value → rx_H → Prop} {x1 : Int32} {x2 : Int32} {x3 : Int32} {x4 : Int32} (k : (((3 : Int32) ≤ x4 → rx_aw 136 102 [.ref 134, .int x1, .int x2, .int x3, .int (0 : Int32), rx_no, rx_no, rx_no] [] (rx_hp L rx_tr hi hl v) Q) ∧ (¬ ((3 : Int32) ≤ x4) → rx_me 133 [.ref 134, .int x1, .int x4] (rx_hp L rx_tr hi hl v) (fun r h2 => ∃ z2 : Int32, r = some (.int z2) ∧ rx_ok2 L rx_tr h2 (fun hi2 hl2 v2 => (∃ j3 : Nat, x4 = nI j3 ∧ j3 < 3 ∧ (∃ j4 : Nat, x4 = nI j4 ∧ j4 < 3 ∧ (∃ j5 : Nat, x4 = nI j5 ∧ j5 < 3 ∧ ((((rx_u hi2 139 j3 z2) 139 j4) = ((rx_u hi2 139 j3 z2) 138 j5) → (∃ j7 : Nat, x4 = nI j7 ∧ j7 < 3 ∧ (∃ j8 : Nat, x1 = nI j8 ∧ j8 < 9261 ∧ rx_me 137 [.ref 134, .int (x1 + (((20 : Int32) - ((rx_u hi2 139 j3 z2) 139 j7)) * x3)), .int ((rx_u hi2 139 j3 z2) 140 j8)] (rx_hp L rx_tr (rx_u hi2 139 j3 z2) hl2 v2) (fun r h2 => r = none ∧ rx_ok2 L rx_tr h2 (fun hi9 hl9 v9 => (∃ j10 : Nat, x4 = nI j10 ∧ j10 < 3 ∧ (((hi9 139 j10) = (20 : Int32) → rx_aw 136 7 [.ref 134, .int x1, .int (x2 + (0 : Int32)), .int (x3 * (21 : Int32)), .int (x4 + (1 : Int32)), rx_no, rx_no, rx_no] [] (rx_hp L rx_tr hi9 hl9 v9) Q) ∧ (¬ ((hi9 139 j10) = (20 : Int32)) → rx_aw 136 7 [.ref 134, .int x1, .int (x2 + (1 : Int32)), .int (x3 * (21 : Int32)), .int (x4 + (1 : Int32)), rx_no, rx_no, rx_no] [] (rx_hp L rx_tr hi9 hl9 v9) Q)))))))) ∧ (¬ (((rx_u hi2 139 j3 z2) 139 j4) = ((rx_u hi2 139 j3 z2) 138 j5)) → (∃ j12 : Nat, x4 = nI j12 ∧ j12 < 3 ∧ ((((rx_u hi2 139 j3 z2) 139 j12) = (20 : Int32) → rx_aw 136 7 [.ref 134, .int x1, .int (x2 + (0 : Int32)), .int (x3 * (21 : Int32)), .int (x4 + (1 : Int32)), rx_no, rx_no, rx_no] [] (rx_hp L rx_tr (rx_u hi2 139 j3 z2) hl2 v2) Q) ∧ (¬ (((rx_u hi2 139 j3 z2) 139 j12) = (20 : Int32)) → rx_aw 136 7 [.ref 134, .int x1, .int (x2 + (1 : Int32)), .int (x3 * (21 : Int32)), .int (x4 + (1 : Int32)), rx_no, rx_no, rx_no] [] (rx_hp L rx_tr (rx_u hi2 139 j3 z2) hl2 v2) Q))))))))))))) : rx_aw 136 7 [.ref 134, .int x1, .int x2, .int x3, .int x4, rx_no, rx_no, rx_no] [] (rx_hp L rx_tr hi hl v) Q := by
  refine rx_aw_s 3 (pc := 7) rfl ?_
  refine rx_w_if (c := (3 : Int32) ≤ x4) ⟨fun c1 => ?_, fun c1 => ?_⟩
  · have k := k.1 c1
    show rx_aw 136 99 [.ref 134, .int x1, .int x2, .int x3, .int x4, rx_no, rx_no, rx_no] [] (rx_hp L rx_tr hi hl v) Q
    refine rx_aw_s 2 (pc := 99) rfl ?_
    show rx_aw 136 102 [.ref 134, .int x1, .int x2, .int x3, .int (0 : Int32), rx_no, rx_no, rx_no] [] (rx_hp L rx_tr hi hl v) Q
    exact k
  · have k := k.2 c1
    show rx_aw 136 13 [.ref 134, .int x1, .int x2, .int x3, .int x4, rx_no, rx_no, rx_no] [] (rx_hp L rx_tr hi hl v) Q
    refine rx_aw_s 6 (pc := 13) rfl ?_
    show rx_aw 136 23 [.ref 134, .int x1, .int x2, .int x3, .int x4, rx_no, rx_no, rx_no] [.int x4, .int x1, .ref 134, .int x4, .ref 139] (rx_hp L rx_tr hi hl v) Q
    refine rx_w_callI (j := 133) (pc := 23) rfl rfl rfl rfl rfl ?_
    refine rx_aw.mono k (fun r h2 k => ?_)
    obtain ⟨z2, rfl, hi2, hl2, v2, rfl, k⟩ := k
    refine ⟨z2, rfl, ?_⟩
    show rx_aw 136 26 [.ref 134, .int x1, .int x2, .int x3, .int x4, rx_no, rx_no, rx_no] [.int z2, .int x4, .ref 139] (rx_hp L rx_tr hi2 hl2 v2) Q
    obtain ⟨j3, ej3, hj3, k⟩ := k
    refine rx_aw_iast (pc := 26) (n := 3) j3 ej3 rfl rfl (by decide) rfl hj3 (by decide) ?_
    show rx_aw 136 27 [.ref 134, .int x1, .int x2, .int x3, .int x4, rx_no, rx_no, rx_no] [] (rx_hp L rx_tr (rx_u hi2 139 j3 z2) hl2 v2) Q
    refine rx_aw_s 3 (pc := 27) rfl ?_
    show rx_aw 136 33 [.ref 134, .int x1, .int x2, .int x3, .int x4, rx_no, rx_no, rx_no] [.int x4, .ref 139] (rx_hp L rx_tr (rx_u hi2 139 j3 z2) hl2 v2) Q
    obtain ⟨j4, ej4, hj4, k⟩ := k
    refine rx_aw_iald (pc := 33) (n := 3) j4 ej4 rfl rfl rfl hj4 (by decide) ?_
    show rx_aw 136 34 [.ref 134, .int x1, .int x2, .int x3, .int x4, rx_no, rx_no, rx_no] [.int ((rx_u hi2 139 j3 z2) 139 j4)] (rx_hp L rx_tr (rx_u hi2 139 j3 z2) hl2 v2) Q
    refine rx_aw_s 3 (pc := 34) rfl ?_
    show rx_aw 136 40 [.ref 134, .int x1, .int x2, .int x3, .int x4, rx_no, rx_no, rx_no] [.int x4, .ref 138, .int ((rx_u hi2 139 j3 z2) 139 j4)] (rx_hp L rx_tr (rx_u hi2 139 j3 z2) hl2 v2) Q
    obtain ⟨j5, ej5, hj5, k⟩ := k
    refine rx_aw_iald (pc := 40) (n := 3) j5 ej5 rfl rfl rfl hj5 (by decide) ?_
    show rx_aw 136 41 [.ref 134, .int x1, .int x2, .int x3, .int x4, rx_no, rx_no, rx_no] [.int ((rx_u hi2 139 j3 z2) 138 j5), .int ((rx_u hi2 139 j3 z2) 139 j4)] (rx_hp L rx_tr (rx_u hi2 139 j3 z2) hl2 v2) Q
    refine rx_aw_s 1 (pc := 41) rfl ?_
    refine rx_w_ifn (c := ((rx_u hi2 139 j3 z2) 139 j4) = ((rx_u hi2 139 j3 z2) 138 j5)) ⟨fun c6 => ?_, fun c6 => ?_⟩
    · have k := k.1 c6
      show rx_aw 136 44 [.ref 134, .int x1, .int x2, .int x3, .int x4, rx_no, rx_no, rx_no] [] (rx_hp L rx_tr (rx_u hi2 139 j3 z2) hl2 v2) Q
      refine rx_aw_s 6 (pc := 44) rfl ?_
      show rx_aw 136 54 [.ref 134, .int x1, .int x2, .int x3, .int x4, rx_no, rx_no, rx_no] [.int x4, .ref 139, .int (20 : Int32), .int x1, .ref 134] (rx_hp L rx_tr (rx_u hi2 139 j3 z2) hl2 v2) Q
      obtain ⟨j7, ej7, hj7, k⟩ := k
      refine rx_aw_iald (pc := 54) (n := 3) j7 ej7 rfl rfl rfl hj7 (by decide) ?_
      show rx_aw 136 55 [.ref 134, .int x1, .int x2, .int x3, .int x4, rx_no, rx_no, rx_no] [.int ((rx_u hi2 139 j3 z2) 139 j7), .int (20 : Int32), .int x1, .ref 134] (rx_hp L rx_tr (rx_u hi2 139 j3 z2) hl2 v2) Q
      refine rx_aw_s 7 (pc := 55) rfl ?_
      show rx_aw 136 64 [.ref 134, .int x1, .int x2, .int x3, .int x4, rx_no, rx_no, rx_no] [.int x1, .ref 140, .int (x1 + (((20 : Int32) - ((rx_u hi2 139 j3 z2) 139 j7)) * x3)), .ref 134] (rx_hp L rx_tr (rx_u hi2 139 j3 z2) hl2 v2) Q
      obtain ⟨j8, ej8, hj8, k⟩ := k
      refine rx_aw_iald (pc := 64) (n := 9261) j8 ej8 rfl rfl rfl hj8 (by decide) ?_
      show rx_aw 136 65 [.ref 134, .int x1, .int x2, .int x3, .int x4, rx_no, rx_no, rx_no] [.int ((rx_u hi2 139 j3 z2) 140 j8), .int (x1 + (((20 : Int32) - ((rx_u hi2 139 j3 z2) 139 j7)) * x3)), .ref 134] (rx_hp L rx_tr (rx_u hi2 139 j3 z2) hl2 v2) Q
      refine rx_w_callV (j := 137) (pc := 65) rfl rfl rfl rfl rfl ?_
      refine rx_aw.mono k (fun r h2 k => ?_)
      obtain ⟨rfl, hi9, hl9, v9, rfl, k⟩ := k
      refine ⟨rfl, ?_⟩
      show rx_aw 136 68 [.ref 134, .int x1, .int x2, .int x3, .int x4, rx_no, rx_no, rx_no] [] (rx_hp L rx_tr hi9 hl9 v9) Q
      refine rx_aw_s 4 (pc := 68) rfl ?_
      show rx_aw 136 75 [.ref 134, .int x1, .int x2, .int x3, .int x4, rx_no, rx_no, rx_no] [.int x4, .ref 139, .int x2] (rx_hp L rx_tr hi9 hl9 v9) Q
      obtain ⟨j10, ej10, hj10, k⟩ := k
      refine rx_aw_iald (pc := 75) (n := 3) j10 ej10 rfl rfl rfl hj10 (by decide) ?_
      show rx_aw 136 76 [.ref 134, .int x1, .int x2, .int x3, .int x4, rx_no, rx_no, rx_no] [.int (hi9 139 j10), .int x2] (rx_hp L rx_tr hi9 hl9 v9) Q
      refine rx_aw_s 2 (pc := 76) rfl ?_
      refine rx_w_ifn (c := (hi9 139 j10) = (20 : Int32)) ⟨fun c11 => ?_, fun c11 => ?_⟩
      · have k := k.1 c11
        show rx_aw 136 81 [.ref 134, .int x1, .int x2, .int x3, .int x4, rx_no, rx_no, rx_no] [.int x2] (rx_hp L rx_tr hi9 hl9 v9) Q
        refine rx_aw_s 10 (pc := 81) rfl ?_
        show rx_aw 136 7 [.ref 134, .int x1, .int (x2 + (0 : Int32)), .int (x3 * (21 : Int32)), .int (x4 + (1 : Int32)), rx_no, rx_no, rx_no] [] (rx_hp L rx_tr hi9 hl9 v9) Q
        exact k
      · have k := k.2 c11
        show rx_aw 136 85 [.ref 134, .int x1, .int x2, .int x3, .int x4, rx_no, rx_no, rx_no] [.int x2] (rx_hp L rx_tr hi9 hl9 v9) Q
        refine rx_aw_s 9 (pc := 85) rfl ?_
        show rx_aw 136 7 [.ref 134, .int x1, .int (x2 + (1 : Int32)), .int (x3 * (21 : Int32)), .int (x4 + (1 : Int32)), rx_no, rx_no, rx_no] [] (rx_hp L rx_tr hi9 hl9 v9) Q
        exact k
    · have k := k.2 c6
      show rx_aw 136 68 [.ref 134, .int x1, .int x2, .int x3, .int x4, rx_no, rx_no, rx_no] [] (rx_hp L rx_tr (rx_u hi2 139 j3 z2) hl2 v2) Q
      refine rx_aw_s 4 (pc := 68) rfl ?_
      show rx_aw 136 75 [.ref 134, .int x1, .int x2, .int x3, .int x4, rx_no, rx_no, rx_no] [.int x4, .ref 139, .int x2] (rx_hp L rx_tr (rx_u hi2 139 j3 z2) hl2 v2) Q
      obtain ⟨j12, ej12, hj12, k⟩ := k
      refine rx_aw_iald (pc := 75) (n := 3) j12 ej12 rfl rfl rfl hj12 (by decide) ?_
      show rx_aw 136 76 [.ref 134, .int x1, .int x2, .int x3, .int x4, rx_no, rx_no, rx_no] [.int ((rx_u hi2 139 j3 z2) 139 j12), .int x2] (rx_hp L rx_tr (rx_u hi2 139 j3 z2) hl2 v2) Q
      refine rx_aw_s 2 (pc := 76) rfl ?_
      refine rx_w_ifn (c := ((rx_u hi2 139 j3 z2) 139 j12) = (20 : Int32)) ⟨fun c13 => ?_, fun c13 => ?_⟩
      · have k := k.1 c13
        show rx_aw 136 81 [.ref 134, .int x1, .int x2, .int x3, .int x4, rx_no, rx_no, rx_no] [.int x2] (rx_hp L rx_tr (rx_u hi2 139 j3 z2) hl2 v2) Q
        refine rx_aw_s 10 (pc := 81) rfl ?_
        show rx_aw 136 7 [.ref 134, .int x1, .int (x2 + (0 : Int32)), .int (x3 * (21 : Int32)), .int (x4 + (1 : Int32)), rx_no, rx_no, rx_no] [] (rx_hp L rx_tr (rx_u hi2 139 j3 z2) hl2 v2) Q
        exact k
      · have k := k.2 c13
        show rx_aw 136 85 [.ref 134, .int x1, .int x2, .int x3, .int x4, rx_no, rx_no, rx_no] [.int x2] (rx_hp L rx_tr (rx_u hi2 139 j3 z2) hl2 v2) Q
        refine rx_aw_s 9 (pc := 85) rfl ?_
        show rx_aw 136 7 [.ref 134, .int x1, .int (x2 + (1 : Int32)), .int (x3 * (21 : Int32)), .int (x4 + (1 : Int32)), rx_no, rx_no, rx_no] [] (rx_hp L rx_tr (rx_u hi2 139 j3 z2) hl2 v2) Q
        exact k
set_option maxRecDepth 100000 in
theorem w136_expand_102 {L : Nat} {hi : Nat → Nat → Int32} {hl : Nat → Nat → Int64} {v : Nat → Nat → Option Nat} {Q : Option Value → rx_H → Prop} {x1 : Int32} {x2 : Int32} {x3 : Int32} {x4 : Int32} (k : (((5 : Int32) ≤ x4 → Q none (rx_hp L rx_tr hi hl v)) ∧ (¬ ((5 : Int32) ≤ x4) → rx_me 138 [.ref 134, .int (0 : Int32), .int x4] (rx_hp L rx_tr hi hl v) (fun r h2 => ∃ z15 : Int32, r = some (.int z15) ∧ rx_ok2 L rx_tr h2 (fun hi15 hl15 v15 => rx_aw 136 120 [.ref 134, .int x1, .int x2, .int x3, .int x4, .int z15, .int (0 : Int32), rx_no] [] (rx_hp L rx_tr hi15 hl15 v15) Q))))) : rx_aw 136 102 [.ref 134, .int x1, .int x2, .int x3, .int x4, rx_no, rx_no, rx_no] [] (rx_hp L rx_tr hi hl v) Q := by
  refine rx_aw_s 3 (pc := 102) rfl ?_
  refine rx_w_if (c := (5 : Int32) ≤ x4) ⟨fun c14 => ?_, fun c14 => ?_⟩
  · have k := k.1 c14
    show rx_aw 136 186 [.ref 134, .int x1, .int x2, .int x3, .int x4, rx_no, rx_no, rx_no] [] (rx_hp L rx_tr hi hl v) Q
    exact rx_aw_ret (pc := 186) rfl k
  · have k := k.2 c14
    show rx_aw 136 108 [.ref 134, .int x1, .int x2, .int x3, .int x4, rx_no, rx_no, rx_no] [] (rx_hp L rx_tr hi hl v) Q
    refine rx_aw_s 3 (pc := 108) rfl ?_
    show rx_aw 136 112 [.ref 134, .int x1, .int x2, .int x3, .int x4, rx_no, rx_no, rx_no] [.int x4, .int (0 : Int32), .ref 134] (rx_hp L rx_tr hi hl v) Q
    refine rx_w_callI (j := 138) (pc := 112) rfl rfl rfl rfl rfl ?_
    refine rx_aw.mono k (fun r h2 k => ?_)
    obtain ⟨z15, rfl, hi15, hl15, v15, rfl, k⟩ := k
    refine ⟨z15, rfl, ?_⟩
    show rx_aw 136 115 [.ref 134, .int x1, .int x2, .int x3, .int x4, rx_no, rx_no, rx_no] [.int z15] (rx_hp L rx_tr hi15 hl15 v15) Q
    refine rx_aw_s 3 (pc := 115) rfl ?_
    show rx_aw 136 120 [.ref 134, .int x1, .int x2, .int x3, .int x4, .int z15, .int (0 : Int32), rx_no] [] (rx_hp L rx_tr hi15 hl15 v15) Q
    exact k
set_option maxRecDepth 100000 in
theorem w136_expand_120 {L : Nat} {hi : Nat → Nat → Int32} {hl : Nat → Nat → Int64} {v : Nat → Nat → Option Nat} {Q : Option Value → rx_H → Prop} {x1 : Int32} {x2 : Int32} {x3 : Int32} {x4 : Int32} {x5 : Int32} {x6 : Int32} (k : (((5 : Int32) ≤ x6 → rx_aw 136 102 [.ref 134, .int x1, .int x2, .int x3, .int (x4 + (1 : Int32)), rx_no, rx_no, rx_no] [] (rx_hp L rx_tr hi hl v) Q) ∧ (¬ ((5 : Int32) ≤ x6) → ((x5 < 0 → rx_aw 136 102 [.ref 134, .int x1, .int x2, .int x3, .int (x4 + (1 : Int32)), rx_no, rx_no, rx_no] [] (rx_hp L rx_tr hi hl v) Q) ∧ (¬ (x5 < 0) → rx_me 138 [.ref 134, .int (1 : Int32), .int x6] (rx_hp L rx_tr hi hl v) (fun r h2 => ∃ z18 : Int32, r = some (.int z18) ∧ rx_ok2 L rx_tr h2 (fun hi18 hl18 v18 => ((z18 < 0 → rx_aw 136 120 [.ref 134, .int x1, .int x2, .int x3, .int x4, .int x5, .int (x6 + (1 : Int32)), rx_no] [] (rx_hp L rx_tr hi18 hl18 v18) Q) ∧ (¬ (z18 < 0) → rx_me 139 [.ref 134, .int (0 : Int32), .int x5, .int (1 : Int32), .int z18] (rx_hp L rx_tr hi18 hl18 v18) (fun r h2 => ∃ z20 : Int32, r = some (.int z20) ∧ rx_ok2 L rx_tr h2 (fun hi20 hl20 v20 => ((z20 = 0 → (∃ j22 : Nat, x1 = nI j22 ∧ j22 < 9261 ∧ rx_me 141 [.ref 134, .int x5, .int z18, .int ((hi20 140 j22) + x2)] (rx_hp L rx_tr hi20 hl20 v20) (fun r h2 => r = none ∧ rx_ok2 L rx_tr h2 (fun hi23 hl23 v23 => rx_aw 136 120 [.ref 134, .int x1, .int x2, .int x3, .int x4, .int x5, .int (x6 + (1 : Int32)), rx_no] [] (rx_hp L rx_tr hi23 hl23 v23) Q)))) ∧ (¬ (z20 = 0) → rx_aw 136 120 [.ref 134, .int x1, .int x2, .int x3, .int x4, .int x5, .int (x6 + (1 : Int32)), rx_no] [] (rx_hp L rx_tr hi20 hl20 v20) Q))))))))))))) : rx_aw 136 120 [.ref 134, .int x1, .int x2, .int x3, .int x4, .int x5, .int x6, rx_no] [] (rx_hp L rx_tr hi hl v) Q := by
  refine rx_aw_s 3 (pc := 120) rfl ?_
  refine rx_w_if (c := (5 : Int32) ≤ x6) ⟨fun c16 => ?_, fun c16 => ?_⟩
  · have k := k.1 c16
    show rx_aw 136 180 [.ref 134, .int x1, .int x2, .int x3, .int x4, .int x5, .int x6, rx_no] [] (rx_hp L rx_tr hi hl v) Q
    refine rx_aw_s 2 (pc := 180) rfl ?_
    show rx_aw 136 102 [.ref 134, .int x1, .int x2, .int x3, .int (x4 + (1 : Int32)), .int x5, .int x6, rx_no] [] (rx_hp L rx_tr hi hl v) Q
    exact rx_aw_le (ls := [.ref 134, .int x1, .int x2, .int x3, .int (x4 + (1 : Int32)), rx_no, rx_no, rx_no]) ⟨Or.inr rfl, ⟨Or.inr rfl, ⟨Or.inr rfl, ⟨Or.inr rfl, ⟨Or.inr rfl, ⟨Or.inl rfl, ⟨Or.inl rfl, ⟨Or.inl rfl, trivial⟩⟩⟩⟩⟩⟩⟩⟩ k
  · have k := k.2 c16
    show rx_aw 136 126 [.ref 134, .int x1, .int x2, .int x3, .int x4, .int x5, .int x6, rx_no] [] (rx_hp L rx_tr hi hl v) Q
    refine rx_aw_s 2 (pc := 126) rfl ?_
    refine rx_w_if (c := x5 < 0) ⟨fun c17 => ?_, fun c17 => ?_⟩
    · have k := k.1 c17
      show rx_aw 136 180 [.ref 134, .int x1, .int x2, .int x3, .int x4, .int x5, .int x6, rx_no] [] (rx_hp L rx_tr hi hl v) Q
      refine rx_aw_s 2 (pc := 180) rfl ?_
      show rx_aw 136 102 [.ref 134, .int x1, .int x2, .int x3, .int (x4 + (1 : Int32)), .int x5, .int x6, rx_no] [] (rx_hp L rx_tr hi hl v) Q
      exact rx_aw_le (ls := [.ref 134, .int x1, .int x2, .int x3, .int (x4 + (1 : Int32)), rx_no, rx_no, rx_no]) ⟨Or.inr rfl, ⟨Or.inr rfl, ⟨Or.inr rfl, ⟨Or.inr rfl, ⟨Or.inr rfl, ⟨Or.inl rfl, ⟨Or.inl rfl, ⟨Or.inl rfl, trivial⟩⟩⟩⟩⟩⟩⟩⟩ k
    · have k := k.2 c17
      show rx_aw 136 131 [.ref 134, .int x1, .int x2, .int x3, .int x4, .int x5, .int x6, rx_no] [] (rx_hp L rx_tr hi hl v) Q
      refine rx_aw_s 3 (pc := 131) rfl ?_
      show rx_aw 136 135 [.ref 134, .int x1, .int x2, .int x3, .int x4, .int x5, .int x6, rx_no] [.int x6, .int (1 : Int32), .ref 134] (rx_hp L rx_tr hi hl v) Q
      refine rx_w_callI (j := 138) (pc := 135) rfl rfl rfl rfl rfl ?_
      refine rx_aw.mono k (fun r h2 k => ?_)
      obtain ⟨z18, rfl, hi18, hl18, v18, rfl, k⟩ := k
      refine ⟨z18, rfl, ?_⟩
      show rx_aw 136 138 [.ref 134, .int x1, .int x2, .int x3, .int x4, .int x5, .int x6, rx_no] [.int z18] (rx_hp L rx_tr hi18 hl18 v18) Q
      refine rx_aw_s 3 (pc := 138) rfl ?_
      refine rx_w_if (c := z18 < 0) ⟨fun c19 => ?_, fun c19 => ?_⟩
      · have k := k.1 c19
        show rx_aw 136 174 [.ref 134, .int x1, .int x2, .int x3, .int x4, .int x5, .int x6, .int z18] [] (rx_hp L rx_tr hi18 hl18 v18) Q
        refine rx_aw_s 2 (pc := 174) rfl ?_
        show rx_aw 136 120 [.ref 134, .int x1, .int x2, .int x3, .int x4, .int x5, .int (x6 + (1 : Int32)), .int z18] [] (rx_hp L rx_tr hi18 hl18 v18) Q
        exact rx_aw_le (ls := [.ref 134, .int x1, .int x2, .int x3, .int x4, .int x5, .int (x6 + (1 : Int32)), rx_no]) ⟨Or.inr rfl, ⟨Or.inr rfl, ⟨Or.inr rfl, ⟨Or.inr rfl, ⟨Or.inr rfl, ⟨Or.inr rfl, ⟨Or.inr rfl, ⟨Or.inl rfl, trivial⟩⟩⟩⟩⟩⟩⟩⟩ k
      · have k := k.2 c19
        show rx_aw 136 145 [.ref 134, .int x1, .int x2, .int x3, .int x4, .int x5, .int x6, .int z18] [] (rx_hp L rx_tr hi18 hl18 v18) Q
        refine rx_aw_s 5 (pc := 145) rfl ?_
        show rx_aw 136 152 [.ref 134, .int x1, .int x2, .int x3, .int x4, .int x5, .int x6, .int z18] [.int z18, .int (1 : Int32), .int x5, .int (0 : Int32), .ref 134] (rx_hp L rx_tr hi18 hl18 v18) Q
        refine rx_w_callI (j := 139) (pc := 152) rfl rfl rfl rfl rfl ?_
        refine rx_aw.mono k (fun r h2 k => ?_)
        obtain ⟨z20, rfl, hi20, hl20, v20, rfl, k⟩ := k
        refine ⟨z20, rfl, ?_⟩
        show rx_aw 136 155 [.ref 134, .int x1, .int x2, .int x3, .int x4, .int x5, .int x6, .int z18] [.int z20] (rx_hp L rx_tr hi20 hl20 v20) Q
        refine rx_aw_s 1 (pc := 155) rfl ?_
        refine rx_w_ifn (c := z20 = 0) ⟨fun c21 => ?_, fun c21 => ?_⟩
        · have k := k.1 c21
          show rx_aw 136 158 [.ref 134, .int x1, .int x2, .int x3, .int x4, .int x5, .int x6, .int z18] [] (rx_hp L rx_tr hi20 hl20 v20) Q
          refine rx_aw_s 6 (pc := 158) rfl ?_
          show rx_aw 136 168 [.ref 134, .int x1, .int x2, .int x3, .int x4, .int x5, .int x6, .int z18] [.int x1, .ref 140, .int z18, .int x5, .ref 134] (rx_hp L rx_tr hi20 hl20 v20) Q
          obtain ⟨j22, ej22, hj22, k⟩ := k
          refine rx_aw_iald (pc := 168) (n := 9261) j22 ej22 rfl rfl rfl hj22 (by decide) ?_
          show rx_aw 136 169 [.ref 134, .int x1, .int x2, .int x3, .int x4, .int x5, .int x6, .int z18] [.int (hi20 140 j22), .int z18, .int x5, .ref 134] (rx_hp L rx_tr hi20 hl20 v20) Q
          refine rx_aw_s 2 (pc := 169) rfl ?_
          show rx_aw 136 171 [.ref 134, .int x1, .int x2, .int x3, .int x4, .int x5, .int x6, .int z18] [.int ((hi20 140 j22) + x2), .int z18, .int x5, .ref 134] (rx_hp L rx_tr hi20 hl20 v20) Q
          refine rx_w_callV (j := 141) (pc := 171) rfl rfl rfl rfl rfl ?_
          refine rx_aw.mono k (fun r h2 k => ?_)
          obtain ⟨rfl, hi23, hl23, v23, rfl, k⟩ := k
          refine ⟨rfl, ?_⟩
          show rx_aw 136 174 [.ref 134, .int x1, .int x2, .int x3, .int x4, .int x5, .int x6, .int z18] [] (rx_hp L rx_tr hi23 hl23 v23) Q
          refine rx_aw_s 2 (pc := 174) rfl ?_
          show rx_aw 136 120 [.ref 134, .int x1, .int x2, .int x3, .int x4, .int x5, .int (x6 + (1 : Int32)), .int z18] [] (rx_hp L rx_tr hi23 hl23 v23) Q
          exact rx_aw_le (ls := [.ref 134, .int x1, .int x2, .int x3, .int x4, .int x5, .int (x6 + (1 : Int32)), rx_no]) ⟨Or.inr rfl, ⟨Or.inr rfl, ⟨Or.inr rfl, ⟨Or.inr rfl, ⟨Or.inr rfl, ⟨Or.inr rfl, ⟨Or.inr rfl, ⟨Or.inl rfl, trivial⟩⟩⟩⟩⟩⟩⟩⟩ k
        · have k := k.2 c21
          show rx_aw 136 174 [.ref 134, .int x1, .int x2, .int x3, .int x4, .int x5, .int x6, .int z18] [] (rx_hp L rx_tr hi20 hl20 v20) Q
          refine rx_aw_s 2 (pc := 174) rfl ?_
          show rx_aw 136 120 [.ref 134, .int x1, .int x2, .int x3, .int x4, .int x5, .int (x6 + (1 : Int32)), .int z18] [] (rx_hp L rx_tr hi20 hl20 v20) Q
          exact rx_aw_le (ls := [.ref 134, .int x1, .int x2, .int x3, .int x4, .int x5, .int (x6 + (1 : Int32)), rx_no]) ⟨Or.inr rfl, ⟨Or.inr rfl, ⟨Or.inr rfl, ⟨Or.inr rfl, ⟨Or.inr rfl, ⟨Or.inr rfl, ⟨Or.inr rfl, ⟨Or.inl rfl, trivial⟩⟩⟩⟩⟩⟩⟩⟩ k
