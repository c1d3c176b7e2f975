/-! Methods walked by program (gen/wp.py): what is left to show of each. -/
/-- CartFloor$Search.go(LCartFloor$Cart;IIIIZ)I -/
theorem w64_go {L : Nat} {t : List (Nat × Nat)} {hi : Nat → Nat → Int32} {hl : Nat → Nat → Int64} {v : Nat → Nat → Option Nat} {Q : Option Value → rx_H → Prop} {c0 : Nat} (hc0 : c0 < 6) {a1 : Int32} {a2 : Int32} {a3 : Int32} {a4 : Int32} {a5 : Int32} (k : ((a5 = 0 ∨ a5 = 1) ∧ rx_me 48 [.int a1] (rx_hp L t (rx_u (rx_u (rx_u hi 77 10 a3) 77 11 a4) 77 12 a5) hl (rx_u v 77 8 (some (rx_ct c0)))) (fun r h2 => ∃ z1 : Int32, r = some (.int z1) ∧ rx_ok2 L t h2 (fun hi1 hl1 v1 => rx_me 65 [.ref 77, .int z1, .int a2] (rx_hp L t hi1 hl1 v1) (fun r h2 => r = none ∧ rx_ok2 L t h2 (fun hi2 hl2 v2 => rx_me 42 [.ref 7, .int (hi2 (rx_ct c0) 5), .int a1] (rx_hp L t hi2 hl2 v2) (fun r h2 => ∃ z3 : Int64, r = some (.long z3) ∧ rx_ok2 L t h2 (fun hi3 hl3 v3 => (((hi3 (rx_ct c0) 5) < 2 → (∃ j5 : Nat, a2 = nI j5 ∧ j5 < 402 ∧ (((lg_cmp (z3 &&& (hl3 78 j5)) 0) = 0 → rx_aw 64 84 [.ref 77, .ref (rx_ct c0), .int a1, .int a2, .int a3, .int a4, .int a5, .long z3, rx_no, .int 0, rx_no] [] (rx_hp L t hi3 hl3 v3) Q) ∧ (¬ ((lg_cmp (z3 &&& (hl3 78 j5)) 0) = 0) → Q (some (.int (-1))) (rx_hp L t hi3 hl3 v3))))) ∧ (¬ ((hi3 (rx_ct c0) 5) < 2) → (∃ j7 : Nat, a2 = nI j7 ∧ j7 < 402 ∧ (∃ j8 : Nat, a2 = nI j8 ∧ j8 < 402 ∧ (((lg_cmp ((z3 ||| (hl3 (rx_ct c0 + 5) j7)) &&& (hl3 78 j8)) 0) = 0 → rx_aw 64 84 [.ref 77, .ref (rx_ct c0), .int a1, .int a2, .int a3, .int a4, .int a5, .long (z3 ||| (hl3 (rx_ct c0 + 5) j7)), rx_no, .int 0, rx_no] [] (rx_hp L t hi3 hl3 v3) Q) ∧ (¬ ((lg_cmp ((z3 ||| (hl3 (rx_ct c0 + 5) j7)) &&& (hl3 78 j8)) 0) = 0) → Q (some (.int (-1))) (rx_hp L t hi3 hl3 v3))))))))))))))) : rx_me 64 [.ref 77, .ref (rx_ct c0), .int a1, .int a2, .int a3, .int a4, .int a5] (rx_hp L t hi hl v) Q := by
  show rx_aw 64 0 [.ref 77, .ref (rx_ct c0), .int a1, .int a2, .int a3, .int a4, .int a5, rx_no, rx_no, rx_no, rx_no] [] (rx_hp L t hi hl v) Q
  refine rx_aw_s 2 (pc := 0) rfl ?_
  show rx_aw 64 2 [.ref 77, .ref (rx_ct c0), .int a1, .int a2, .int a3, .int a4, .int a5, rx_no, rx_no, rx_no, rx_no] [.ref (rx_ct c0), .ref 77] (rx_hp L t hi hl v) Q
  refine rx_w_pr (x := (some (rx_ct c0))) (pc := 2) rfl rfl rfl rfl ?_
  show rx_aw 64 5 [.ref 77, .ref (rx_ct c0), .int a1, .int a2, .int a3, .int a4, .int a5, rx_no, rx_no, rx_no, rx_no] [] (rx_hp L t hi hl (rx_u v 77 8 (some (rx_ct c0)))) Q
  refine rx_aw_s 8 (pc := 5) rfl ?_
  show rx_aw 64 20 [.ref 77, .ref (rx_ct c0), .int a1, .int a2, .int a3, .int a4, .int a5, rx_no, rx_no, rx_no, rx_no] [.int a5, .ref 77] (rx_hp L t (rx_u (rx_u hi 77 10 a3) 77 11 a4) hl (rx_u v 77 8 (some (rx_ct c0)))) Q
  refine rx_aw_putZ (pc := 20) rfl rfl rfl k.1 ?_
  have k := k.2
  show rx_aw 64 23 [.ref 77, .ref (rx_ct c0), .int a1, .int a2, .int a3, .int a4, .int a5, rx_no, rx_no, rx_no, rx_no] [] (rx_hp L t (rx_u (rx_u (rx_u hi 77 10 a3) 77 11 a4) 77 12 a5) hl (rx_u v 77 8 (some (rx_ct c0)))) Q
  refine rx_aw_s 2 (pc := 23) rfl ?_
  show rx_aw 64 25 [.ref 77, .ref (rx_ct c0), .int a1, .int a2, .int a3, .int a4, .int a5, rx_no, rx_no, rx_no, rx_no] [.int a1, .ref 77] (rx_hp L t (rx_u (rx_u (rx_u hi 77 10 a3) 77 11 a4) 77 12 a5) hl (rx_u v 77 8 (some (rx_ct c0)))) Q
  refine rx_w_callI (j := 48) (pc := 25) rfl rfl rfl rfl rfl ?_
  refine rx_aw.mono k (fun r h2 k => ?_)
  obtain ⟨z1, rfl, hi1, hl1, v1, rfl, k⟩ := k
  refine ⟨z1, rfl, ?_⟩
  show rx_aw 64 28 [.ref 77, .ref (rx_ct c0), .int a1, .int a2, .int a3, .int a4, .int a5, rx_no, rx_no, rx_no, rx_no] [.int z1, .ref 77] (rx_hp L t hi1 hl1 v1) Q
  refine rx_aw_s 1 (pc := 28) rfl ?_
  show rx_aw 64 29 [.ref 77, .ref (rx_ct c0), .int a1, .int a2, .int a3, .int a4, .int a5, rx_no, rx_no, rx_no, rx_no] [.int a2, .int z1, .ref 77] (rx_hp L t hi1 hl1 v1) Q
  refine rx_w_callV (j := 65) (pc := 29) rfl rfl rfl rfl rfl ?_
  refine rx_aw.mono k (fun r h2 k => ?_)
  obtain ⟨rfl, hi2, hl2, v2, rfl, k⟩ := k
  refine ⟨rfl, ?_⟩
  show rx_aw 64 32 [.ref 77, .ref (rx_ct c0), .int a1, .int a2, .int a3, .int a4, .int a5, rx_no, rx_no, rx_no, rx_no] [] (rx_hp L t hi2 hl2 v2) Q
  refine rx_aw_s 3 (pc := 32) rfl ?_
  show rx_aw 64 37 [.ref 77, .ref (rx_ct c0), .int a1, .int a2, .int a3, .int a4, .int a5, rx_no, rx_no, rx_no, rx_no] [.ref (rx_ct c0), .ref 7] (rx_hp L t hi2 hl2 v2) Q
  refine rx_w_cg hc0 (pc := 37) rfl (by decide) (by decide) ?_
  show rx_aw 64 40 [.ref 77, .ref (rx_ct c0), .int a1, .int a2, .int a3, .int a4, .int a5, rx_no, rx_no, rx_no, rx_no] [.int (hi2 (rx_ct c0) 5), .ref 7] (rx_hp L t hi2 hl2 v2) Q
  refine rx_aw_s 1 (pc := 40) rfl ?_
  show rx_aw 64 41 [.ref 77, .ref (rx_ct c0), .int a1, .int a2, .int a3, .int a4, .int a5, rx_no, rx_no, rx_no, rx_no] [.int a1, .int (hi2 (rx_ct c0) 5), .ref 7] (rx_hp L t hi2 hl2 v2) Q
  refine rx_w_callL (j := 42) (pc := 41) rfl rfl rfl rfl rfl ?_
  refine rx_aw.mono k (fun r h2 k => ?_)
  obtain ⟨z3, rfl, hi3, hl3, v3, rfl, k⟩ := k
  refine ⟨z3, rfl, ?_⟩
  show rx_aw 64 44 [.ref 77, .ref (rx_ct c0), .int a1, .int a2, .int a3, .int a4, .int a5, rx_no, rx_no, rx_no, rx_no] [.long z3] (rx_hp L t hi3 hl3 v3) Q
  refine rx_aw_s 2 (pc := 44) rfl ?_
  show rx_aw 64 47 [.ref 77, .ref (rx_ct c0), .int a1, .int a2, .int a3, .int a4, .int a5, .long z3, rx_no, rx_no, rx_no] [.ref (rx_ct c0)] (rx_hp L t hi3 hl3 v3) Q
  refine rx_w_cg hc0 (pc := 47) rfl (by decide) (by decide) ?_
  show rx_aw 64 50 [.ref 77, .ref (rx_ct c0), .int a1, .int a2, .int a3, .int a4, .int a5, .long z3, rx_no, rx_no, rx_no] [.int (hi3 (rx_ct c0) 5)] (rx_hp L t hi3 hl3 v3) Q
  refine rx_aw_s 2 (pc := 50) rfl ?_
  refine rx_w_if (c := (hi3 (rx_ct c0) 5) < 2) ⟨fun c4 => ?_, fun c4 => ?_⟩
  · have k := k.1 c4
    show rx_aw 64 65 [.ref 77, .ref (rx_ct c0), .int a1, .int a2, .int a3, .int a4, .int a5, .long z3, rx_no, rx_no, rx_no] [] (rx_hp L t hi3 hl3 v3) Q
    refine rx_aw_s 4 (pc := 65) rfl ?_
    show rx_aw 64 72 [.ref 77, .ref (rx_ct c0), .int a1, .int a2, .int a3, .int a4, .int a5, .long z3, rx_no, rx_no, rx_no] [.int a2, .ref 78, .long z3] (rx_hp L t hi3 hl3 v3) Q
    obtain ⟨j5, ej5, hj5, k⟩ := k
    refine rx_aw_lald (pc := 72) (n := 402) j5 ej5 rfl rfl (by decide) rfl hj5 (by decide) ?_
    show rx_aw 64 73 [.ref 77, .ref (rx_ct c0), .int a1, .int a2, .int a3, .int a4, .int a5, .long z3, rx_no, rx_no, rx_no] [.long (hl3 78 j5), .long z3] (rx_hp L t hi3 hl3 v3) Q
    refine rx_aw_s 4 (pc := 73) rfl ?_
    refine rx_w_if (c := (lg_cmp (z3 &&& (hl3 78 j5)) 0) = 0) ⟨fun c6 => ?_, fun c6 => ?_⟩
    · have k := k.1 c6
      show rx_aw 64 81 [.ref 77, .ref (rx_ct c0), .int a1, .int a2, .int a3, .int a4, .int a5, .long z3, rx_no, rx_no, rx_no] [] (rx_hp L t hi3 hl3 v3) Q
      refine rx_aw_s 2 (pc := 81) rfl ?_
      show rx_aw 64 84 [.ref 77, .ref (rx_ct c0), .int a1, .int a2, .int a3, .int a4, .int a5, .long z3, rx_no, .int 0, rx_no] [] (rx_hp L t hi3 hl3 v3) Q
      exact k
    · have k := k.2 c6
      show rx_aw 64 79 [.ref 77, .ref (rx_ct c0), .int a1, .int a2, .int a3, .int a4, .int a5, .long z3, rx_no, rx_no, rx_no] [] (rx_hp L t hi3 hl3 v3) Q
      refine rx_aw_s 1 (pc := 79) rfl ?_
      show rx_aw 64 80 [.ref 77, .ref (rx_ct c0), .int a1, .int a2, .int a3, .int a4, .int a5, .long z3, rx_no, rx_no, rx_no] [.int (-1)] (rx_hp L t hi3 hl3 v3) Q
      exact rx_aw_ret (pc := 80) rfl k
  · have k := k.2 c4
    show rx_aw 64 54 [.ref 77, .ref (rx_ct c0), .int a1, .int a2, .int a3, .int a4, .int a5, .long z3, rx_no, rx_no, rx_no] [] (rx_hp L t hi3 hl3 v3) Q
    refine rx_aw_s 2 (pc := 54) rfl ?_
    show rx_aw 64 57 [.ref 77, .ref (rx_ct c0), .int a1, .int a2, .int a3, .int a4, .int a5, .long z3, rx_no, rx_no, rx_no] [.ref (rx_ct c0), .long z3] (rx_hp L t hi3 hl3 v3) Q
    refine rx_w_cr hc0 (pc := 57) rfl (by decide) ?_
    show rx_aw 64 60 [.ref 77, .ref (rx_ct c0), .int a1, .int a2, .int a3, .int a4, .int a5, .long z3, rx_no, rx_no, rx_no] [.ref (rx_ct c0 + 5), .long z3] (rx_hp L t hi3 hl3 v3) Q
    refine rx_aw_s 1 (pc := 60) rfl ?_
    show rx_aw 64 61 [.ref 77, .ref (rx_ct c0), .int a1, .int a2, .int a3, .int a4, .int a5, .long z3, rx_no, rx_no, rx_no] [.int a2, .ref (rx_ct c0 + 5), .long z3] (rx_hp L t hi3 hl3 v3) Q
    obtain ⟨j7, ej7, hj7, k⟩ := k
    refine rx_aw_lald (pc := 61) (n := 402) j7 ej7 rfl (rx_ck (rx_cart_s hc0).2.2.2.2.2) (Nat.lt_of_lt_of_le (rx_ct_pos _) (Nat.le_add_right _ _)) (rx_cle (rx_cart_s hc0).2.2.2.2.2) hj7 (by decide) ?_
    show rx_aw 64 62 [.ref 77, .ref (rx_ct c0), .int a1, .int a2, .int a3, .int a4, .int a5, .long z3, rx_no, rx_no, rx_no] [.long (hl3 (rx_ct c0 + 5) j7), .long z3] (rx_hp L t hi3 hl3 v3) Q
    refine rx_aw_s 6 (pc := 62) rfl ?_
    show rx_aw 64 72 [.ref 77, .ref (rx_ct c0), .int a1, .int a2, .int a3, .int a4, .int a5, .long (z3 ||| (hl3 (rx_ct c0 + 5) j7)), rx_no, rx_no, rx_no] [.int a2, .ref 78, .long (z3 ||| (hl3 (rx_ct c0 + 5) j7))] (rx_hp L t hi3 hl3 v3) Q
    obtain ⟨j8, ej8, hj8, k⟩ := k
    refine rx_aw_lald (pc := 72) (n := 402) j8 ej8 rfl rfl (by decide) rfl hj8 (by decide) ?_
    show rx_aw 64 73 [.ref 77, .ref (rx_ct c0), .int a1, .int a2, .int a3, .int a4, .int a5, .long (z3 ||| (hl3 (rx_ct c0 + 5) j7)), rx_no, rx_no, rx_no] [.long (hl3 78 j8), .long (z3 ||| (hl3 (rx_ct c0 + 5) j7))] (rx_hp L t hi3 hl3 v3) Q
    refine rx_aw_s 4 (pc := 73) rfl ?_
    refine rx_w_if (c := (lg_cmp ((z3 ||| (hl3 (rx_ct c0 + 5) j7)) &&& (hl3 78 j8)) 0) = 0) ⟨fun c9 => ?_, fun c9 => ?_⟩
    · have k := k.1 c9
      show rx_aw 64 81 [.ref 77, .ref (rx_ct c0), .int a1, .int a2, .int a3, .int a4, .int a5, .long (z3 ||| (hl3 (rx_ct c0 + 5) j7)), rx_no, rx_no, rx_no] [] (rx_hp L t hi3 hl3 v3) Q
      refine rx_aw_s 2 (pc := 81) rfl ?_
      show rx_aw 64 84 [.ref 77, .ref (rx_ct c0), .int a1, .int a2, .int a3, .int a4, .int a5, .long (z3 ||| (hl3 (rx_ct c0 + 5) j7)), rx_no, .int 0, rx_no] [] (rx_hp L t hi3 hl3 v3) Q
      exact k
    · have k := k.2 c9
      show rx_aw 64 79 [.ref 77, .ref (rx_ct c0), .int a1, .int a2, .int a3, .int a4, .int a5, .long (z3 ||| (hl3 (rx_ct c0 + 5) j7)), rx_no, rx_no, rx_no] [] (rx_hp L t hi3 hl3 v3) Q
      refine rx_aw_s 1 (pc := 79) rfl ?_
      show rx_aw 64 80 [.ref 77, .ref (rx_ct c0), .int a1, .int a2, .int a3, .int a4, .int a5, .long (z3 ||| (hl3 (rx_ct c0 + 5) j7)), rx_no, rx_no, rx_no] [.int (-1)] (rx_hp L t hi3 hl3 v3) Q
      exact rx_aw_ret (pc := 80) rfl k
theorem w64_go_84 {L : Nat} {t : List (Nat × Nat)} {hi : Nat → Nat → Int32} {hl : Nat → Nat → Int64} {v : Nat → Nat → Option Nat} {Q : Option Value → rx_H → Prop} {c0 : Nat} (hc0 : c0 < 6) {x2 : Int32} {x3 : Int32} {x4 : Int32} {x5 : Int32} {x6 : Int32} {x7 : Int64} {x9 : Int32} (k : ((4 ≤ x9 → rx_me 67 [.ref 77, .int x3] (rx_hp L t hi hl v) (fun r h2 => ∃ z11 : Int32, r = some (.int z11) ∧ rx_ok2 L t h2 (fun hi11 hl11 v11 => ((0 ≤ z11 → rx_aw 64 147 [.ref 77, .ref (rx_ct c0), .int x2, .int x3, .int x4, .int x5, .int x6, .long x7, rx_no, .int z11, .int (z11 - 1)] [] (rx_hp L t hi11 hl11 v11) Q) ∧ (¬ (0 ≤ z11) → Q (some (.int (-1))) (rx_hp L t hi11 hl11 v11)))))) ∧ (¬ (4 ≤ x9) → rx_me 16 [.int x2] (rx_hp L t hi hl v) (fun r h2 => ∃ z13 : Int32, r = some (.int z13) ∧ rx_ok2 L t h2 (fun hi13 hl13 v13 => ((x9 = z13 → rx_me 8 [.int x2] (rx_hp L t hi13 hl13 v13) (fun r h2 => ∃ z15 : Int32, r = some (.int z15) ∧ rx_ok2 L t h2 (fun hi15 hl15 v15 => rx_me 9 [.int z15] (rx_hp L t hi15 hl15 v15) (fun r h2 => ∃ z16 : Int64, r = some (.long z16) ∧ rx_ok2 L t h2 (fun hi16 hl16 v16 => (∃ j17 : Nat, ((4 * x3) + x9) = nI j17 ∧ j17 < 1608 ∧ rx_aw 64 84 [.ref 77, .ref (rx_ct c0), .int x2, .int x3, .int x4, .int x5, .int x6, .long x7, rx_no, .int (x9 + 1), rx_no] [] (rx_hp L t hi16 (rx_u hl16 80 j17 z16) v16) Q)))))) ∧ (¬ (x9 = z13) → (∃ j18 : Nat, ((4 * x3) + x9) = nI j18 ∧ j18 < 1608 ∧ rx_aw 64 84 [.ref 77, .ref (rx_ct c0), .int x2, .int x3, .int x4, .int x5, .int x6, .long x7, rx_no, .int (x9 + 1), rx_no] [] (rx_hp L t hi13 (rx_u hl13 80 j18 0) v13) Q)))))))) : rx_aw 64 84 [.ref 77, .ref (rx_ct c0), .int x2, .int x3, .int x4, .int x5, .int x6, .long x7, rx_no, .int x9, rx_no] [] (rx_hp L t hi hl v) Q := by
  refine rx_aw_s 3 (pc := 84) rfl ?_
  refine rx_w_if (c := 4 ≤ x9) ⟨fun c10 => ?_, fun c10 => ?_⟩
  · have k := k.1 c10
    show rx_aw 64 127 [.ref 77, .ref (rx_ct c0), .int x2, .int x3, .int x4, .int x5, .int x6, .long x7, rx_no, .int x9, rx_no] [] (rx_hp L t hi hl v) Q
    refine rx_aw_s 2 (pc := 127) rfl ?_
    show rx_aw 64 129 [.ref 77, .ref (rx_ct c0), .int x2, .int x3, .int x4, .int x5, .int x6, .long x7, rx_no, .int x9, rx_no] [.int x3, .ref 77] (rx_hp L t hi hl v) Q
    refine rx_w_callI (j := 67) (pc := 129) rfl rfl rfl rfl rfl ?_
    refine rx_aw.mono k (fun r h2 k => ?_)
    obtain ⟨z11, rfl, hi11, hl11, v11, rfl, k⟩ := k
    refine ⟨z11, rfl, ?_⟩
    show rx_aw 64 132 [.ref 77, .ref (rx_ct c0), .int x2, .int x3, .int x4, .int x5, .int x6, .long x7, rx_no, .int x9, rx_no] [.int z11] (rx_hp L t hi11 hl11 v11) Q
    refine rx_aw_s 3 (pc := 132) rfl ?_
    refine rx_w_if (c := 0 ≤ z11) ⟨fun c12 => ?_, fun c12 => ?_⟩
    · have k := k.1 c12
      show rx_aw 64 141 [.ref 77, .ref (rx_ct c0), .int x2, .int x3, .int x4, .int x5, .int x6, .long x7, rx_no, .int z11, rx_no] [] (rx_hp L t hi11 hl11 v11) Q
      refine rx_aw_s 4 (pc := 141) rfl ?_
      show rx_aw 64 147 [.ref 77, .ref (rx_ct c0), .int x2, .int x3, .int x4, .int x5, .int x6, .long x7, rx_no, .int z11, .int (z11 - 1)] [] (rx_hp L t hi11 hl11 v11) Q
      exact k
    · have k := k.2 c12
      show rx_aw 64 139 [.ref 77, .ref (rx_ct c0), .int x2, .int x3, .int x4, .int x5, .int x6, .long x7, rx_no, .int z11, rx_no] [] (rx_hp L t hi11 hl11 v11) Q
      refine rx_aw_s 1 (pc := 139) rfl ?_
      show rx_aw 64 140 [.ref 77, .ref (rx_ct c0), .int x2, .int x3, .int x4, .int x5, .int x6, .long x7, rx_no, .int z11, rx_no] [.int (-1)] (rx_hp L t hi11 hl11 v11) Q
      exact rx_aw_ret (pc := 140) rfl k
  · have k := k.2 c10
    show rx_aw 64 90 [.ref 77, .ref (rx_ct c0), .int x2, .int x3, .int x4, .int x5, .int x6, .long x7, rx_no, .int x9, rx_no] [] (rx_hp L t hi hl v) Q
    refine rx_aw_s 9 (pc := 90) rfl ?_
    show rx_aw 64 103 [.ref 77, .ref (rx_ct c0), .int x2, .int x3, .int x4, .int x5, .int x6, .long x7, rx_no, .int x9, rx_no] [.int x2, .int x9, .int ((4 * x3) + x9), .ref 80] (rx_hp L t hi hl v) Q
    refine rx_w_callI (j := 16) (pc := 103) rfl rfl rfl rfl rfl ?_
    refine rx_aw.mono k (fun r h2 k => ?_)
    obtain ⟨z13, rfl, hi13, hl13, v13, rfl, k⟩ := k
    refine ⟨z13, rfl, ?_⟩
    show rx_aw 64 106 [.ref 77, .ref (rx_ct c0), .int x2, .int x3, .int x4, .int x5, .int x6, .long x7, rx_no, .int x9, rx_no] [.int z13, .int x9, .int ((4 * x3) + x9), .ref 80] (rx_hp L t hi13 hl13 v13) Q
    refine rx_aw_s 1 (pc := 106) rfl ?_
    refine rx_w_ifn (c := x9 = z13) ⟨fun c14 => ?_, fun c14 => ?_⟩
    · have k := k.1 c14
      show rx_aw 64 109 [.ref 77, .ref (rx_ct c0), .int x2, .int x3, .int x4, .int x5, .int x6, .long x7, rx_no, .int x9, rx_no] [.int ((4 * x3) + x9), .ref 80] (rx_hp L t hi13 hl13 v13) Q
      refine rx_aw_s 1 (pc := 109) rfl ?_
      show rx_aw 64 110 [.ref 77, .ref (rx_ct c0), .int x2, .int x3, .int x4, .int x5, .int x6, .long x7, rx_no, .int x9, rx_no] [.int x2, .int ((4 * x3) + x9), .ref 80] (rx_hp L t hi13 hl13 v13) Q
      refine rx_w_callI (j := 8) (pc := 110) rfl rfl rfl rfl rfl ?_
      refine rx_aw.mono k (fun r h2 k => ?_)
      obtain ⟨z15, rfl, hi15, hl15, v15, rfl, k⟩ := k
      refine ⟨z15, rfl, ?_⟩
      show rx_aw 64 113 [.ref 77, .ref (rx_ct c0), .int x2, .int x3, .int x4, .int x5, .int x6, .long x7, rx_no, .int x9, rx_no] [.int z15, .int ((4 * x3) + x9), .ref 80] (rx_hp L t hi15 hl15 v15) Q
      refine rx_w_callL (j := 9) (pc := 113) rfl rfl rfl rfl rfl ?_
      refine rx_aw.mono k (fun r h2 k => ?_)
      obtain ⟨z16, rfl, hi16, hl16, v16, rfl, k⟩ := k
      refine ⟨z16, rfl, ?_⟩
      show rx_aw 64 116 [.ref 77, .ref (rx_ct c0), .int x2, .int x3, .int x4, .int x5, .int x6, .long x7, rx_no, .int x9, rx_no] [.long z16, .int ((4 * x3) + x9), .ref 80] (rx_hp L t hi16 hl16 v16) Q
      refine rx_aw_s 1 (pc := 116) rfl ?_
      show rx_aw 64 120 [.ref 77, .ref (rx_ct c0), .int x2, .int x3, .int x4, .int x5, .int x6, .long x7, rx_no, .int x9, rx_no] [.long z16, .int ((4 * x3) + x9), .ref 80] (rx_hp L t hi16 hl16 v16) Q
      obtain ⟨j17, ej17, hj17, k⟩ := k
      refine rx_aw_last (pc := 120) (n := 1608) j17 ej17 rfl rfl (by decide) rfl hj17 (by decide) ?_
      show rx_aw 64 121 [.ref 77, .ref (rx_ct c0), .int x2, .int x3, .int x4, .int x5, .int x6, .long x7, rx_no, .int x9, rx_no] [] (rx_hp L t hi16 (rx_u hl16 80 j17 z16) v16) Q
      refine rx_aw_s 2 (pc := 121) rfl ?_
      show rx_aw 64 84 [.ref 77, .ref (rx_ct c0), .int x2, .int x3, .int x4, .int x5, .int x6, .long x7, rx_no, .int (x9 + 1), rx_no] [] (rx_hp L t hi16 (rx_u hl16 80 j17 z16) v16) Q
      exact k
    · have k := k.2 c14
      show rx_aw 64 119 [.ref 77, .ref (rx_ct c0), .int x2, .int x3, .int x4, .int x5, .int x6, .long x7, rx_no, .int x9, rx_no] [.int ((4 * x3) + x9), .ref 80] (rx_hp L t hi13 hl13 v13) Q
      refine rx_aw_s 1 (pc := 119) rfl ?_
      show rx_aw 64 120 [.ref 77, .ref (rx_ct c0), .int x2, .int x3, .int x4, .int x5, .int x6, .long x7, rx_no, .int x9, rx_no] [.long 0, .int ((4 * x3) + x9), .ref 80] (rx_hp L t hi13 hl13 v13) Q
      obtain ⟨j18, ej18, hj18, k⟩ := k
      refine rx_aw_last (pc := 120) (n := 1608) j18 ej18 rfl rfl (by decide) rfl hj18 (by decide) ?_
      show rx_aw 64 121 [.ref 77, .ref (rx_ct c0), .int x2, .int x3, .int x4, .int x5, .int x6, .long x7, rx_no, .int x9, rx_no] [] (rx_hp L t hi13 (rx_u hl13 80 j18 0) v13) Q
      refine rx_aw_s 2 (pc := 121) rfl ?_
      show rx_aw 64 84 [.ref 77, .ref (rx_ct c0), .int x2, .int x3, .int x4, .int x5, .int x6, .long x7, rx_no, .int (x9 + 1), rx_no] [] (rx_hp L t hi13 (rx_u hl13 80 j18 0) v13) Q
      exact k
theorem w64_go_147 {L : Nat} {t : List (Nat × Nat)} {hi : Nat → Nat → Int32} {hl : Nat → Nat → Int64} {v : Nat → Nat → Option Nat} {Q : Option Value → rx_H → Prop} {c0 : Nat} (hc0 : c0 < 6) {x2 : Int32} {x3 : Int32} {x4 : Int32} {x5 : Int32} {x6 : Int32} {x7 : Int64} {x9 : Int32} {x10 : Int32} (k : ((x10 < x3 → rx_me 82 [.ref 77, .int x2, .int x3, .int x9] (rx_hp L t hi hl v) (fun r h2 => r = none ∧ rx_ok2 L t h2 (fun hi20 hl20 v20 => Q (some (.int x9)) (rx_hp L t hi20 hl20 v20)))) ∧ (¬ (x10 < x3) → rx_me 77 [.ref 77, .int x10] (rx_hp L t hi hl v) (fun r h2 => r = none ∧ rx_ok2 L t h2 (fun hi21 hl21 v21 => rx_aw 64 147 [.ref 77, .ref (rx_ct c0), .int x2, .int x3, .int x4, .int x5, .int x6, .long x7, rx_no, .int x9, .int (x10 + (-1))] [] (rx_hp L t hi21 hl21 v21) Q))))) : rx_aw 64 147 [.ref 77, .ref (rx_ct c0), .int x2, .int x3, .int x4, .int x5, .int x6, .long x7, rx_no, .int x9, .int x10] [] (rx_hp L t hi hl v) Q := by
  refine rx_aw_s 3 (pc := 147) rfl ?_
  refine rx_w_if (c := x10 < x3) ⟨fun c19 => ?_, fun c19 => ?_⟩
  · have k := k.1 c19
    show rx_aw 64 165 [.ref 77, .ref (rx_ct c0), .int x2, .int x3, .int x4, .int x5, .int x6, .long x7, rx_no, .int x9, .int x10] [] (rx_hp L t hi hl v) Q
    refine rx_aw_s 4 (pc := 165) rfl ?_
    show rx_aw 64 170 [.ref 77, .ref (rx_ct c0), .int x2, .int x3, .int x4, .int x5, .int x6, .long x7, rx_no, .int x9, .int x10] [.int x9, .int x3, .int x2, .ref 77] (rx_hp L t hi hl v) Q
    refine rx_w_callV (j := 82) (pc := 170) rfl rfl rfl rfl rfl ?_
    refine rx_aw.mono k (fun r h2 k => ?_)
    obtain ⟨rfl, hi20, hl20, v20, rfl, k⟩ := k
    refine ⟨rfl, ?_⟩
    show rx_aw 64 173 [.ref 77, .ref (rx_ct c0), .int x2, .int x3, .int x4, .int x5, .int x6, .long x7, rx_no, .int x9, .int x10] [] (rx_hp L t hi20 hl20 v20) Q
    refine rx_aw_s 1 (pc := 173) rfl ?_
    show rx_aw 64 175 [.ref 77, .ref (rx_ct c0), .int x2, .int x3, .int x4, .int x5, .int x6, .long x7, rx_no, .int x9, .int x10] [.int x9] (rx_hp L t hi20 hl20 v20) Q
    exact rx_aw_ret (pc := 175) rfl k
  · have k := k.2 c19
    show rx_aw 64 153 [.ref 77, .ref (rx_ct c0), .int x2, .int x3, .int x4, .int x5, .int x6, .long x7, rx_no, .int x9, .int x10] [] (rx_hp L t hi hl v) Q
    refine rx_aw_s 2 (pc := 153) rfl ?_
    show rx_aw 64 156 [.ref 77, .ref (rx_ct c0), .int x2, .int x3, .int x4, .int x5, .int x6, .long x7, rx_no, .int x9, .int x10] [.int x10, .ref 77] (rx_hp L t hi hl v) Q
    refine rx_w_callV (j := 77) (pc := 156) rfl rfl rfl rfl rfl ?_
    refine rx_aw.mono k (fun r h2 k => ?_)
    obtain ⟨rfl, hi21, hl21, v21, rfl, k⟩ := k
    refine ⟨rfl, ?_⟩
    show rx_aw 64 159 [.ref 77, .ref (rx_ct c0), .int x2, .int x3, .int x4, .int x5, .int x6, .long x7, rx_no, .int x9, .int x10] [] (rx_hp L t hi21 hl21 v21) Q
    refine rx_aw_s 2 (pc := 159) rfl ?_
    show rx_aw 64 147 [.ref 77, .ref (rx_ct c0), .int x2, .int x3, .int x4, .int x5, .int x6, .long x7, rx_no, .int x9, .int (x10 + (-1))] [] (rx_hp L t hi21 hl21 v21) Q
    exact k
/-- CartFloor$Search.findTaboo(II)V -/
theorem w65_findTaboo {L : Nat} {t : List (Nat × Nat)} {hi : Nat → Nat → Int32} {hl : Nat → Nat → Int64} {v : Nat → Nat → Option Nat} {Q : Option Value → rx_H → Prop} {a0 : Int32} {a1 : Int32} (k : (((v 77 8) = none ∧ rx_me 36 [.ref 13, .null] (rx_hp L t hi hl v) (fun r h2 => ∃ z2 : Int32, r = some (.int z2) ∧ rx_ok2 L t h2 (fun hi2 hl2 v2 => rx_aw 65 29 [.ref 77, .int a0, .int a1, .long 0, rx_no, .int ((rx_u hi2 77 9 (if a1 < (z2 + 1) then (z2 + 1) else a1)) 77 9)] [] (rx_hp L t (rx_u hi2 77 9 (if a1 < (z2 + 1) then (z2 + 1) else a1)) hl2 v2) Q))) ∨ (∃ q1 : Nat, q1 < 6 ∧ (v 77 8) = some (rx_ct q1) ∧ rx_me 36 [.ref 13, .ref (rx_ct q1)] (rx_hp L t hi hl v) (fun r h2 => ∃ z3 : Int32, r = some (.int z3) ∧ rx_ok2 L t h2 (fun hi3 hl3 v3 => rx_aw 65 29 [.ref 77, .int a0, .int a1, .long 0, rx_no, .int ((rx_u hi3 77 9 (if a1 < (z3 + 1) then (z3 + 1) else a1)) 77 9)] [] (rx_hp L t (rx_u hi3 77 9 (if a1 < (z3 + 1) then (z3 + 1) else a1)) hl3 v3) Q))))) : rx_me 65 [.ref 77, .int a0, .int a1] (rx_hp L t hi hl v) Q := by
  show rx_aw 65 0 [.ref 77, .int a0, .int a1, rx_no, rx_no, rx_no] [] (rx_hp L t hi hl v) Q
  refine rx_aw_s 6 (pc := 0) rfl ?_
  show rx_aw 65 10 [.ref 77, .int a0, .int a1, rx_no, rx_no, rx_no] [va_rf (v 77 8), .ref 13, .int a1, .ref 77] (rx_hp L t hi hl v) Q
  rcases k with ⟨eq1, k⟩ | ⟨q1, hq1, eq1, k⟩
  · rw [eq1]
    show rx_aw 65 10 [.ref 77, .int a0, .int a1, rx_no, rx_no, rx_no] [.null, .ref 13, .int a1, .ref 77] (rx_hp L t hi hl v) Q
    refine rx_w_callI (j := 36) (pc := 10) rfl rfl rfl rfl rfl ?_
    refine rx_aw.mono k (fun r h2 k => ?_)
    obtain ⟨z2, rfl, hi2, hl2, v2, rfl, k⟩ := k
    refine ⟨z2, rfl, ?_⟩
    show rx_aw 65 13 [.ref 77, .int a0, .int a1, rx_no, rx_no, rx_no] [.int z2, .int a1, .ref 77] (rx_hp L t hi2 hl2 v2) Q
    refine rx_aw_s 9 (pc := 13) rfl ?_
    show rx_aw 65 29 [.ref 77, .int a0, .int a1, .long 0, rx_no, .int ((rx_u hi2 77 9 (if a1 < (z2 + 1) then (z2 + 1) else a1)) 77 9)] [] (rx_hp L t (rx_u hi2 77 9 (if a1 < (z2 + 1) then (z2 + 1) else a1)) hl2 v2) Q
    exact k
  · rw [eq1]
    show rx_aw 65 10 [.ref 77, .int a0, .int a1, rx_no, rx_no, rx_no] [.ref (rx_ct q1), .ref 13, .int a1, .ref 77] (rx_hp L t hi hl v) Q
    refine rx_w_callI (j := 36) (pc := 10) rfl rfl rfl rfl rfl ?_
    refine rx_aw.mono k (fun r h2 k => ?_)
    obtain ⟨z3, rfl, hi3, hl3, v3, rfl, k⟩ := k
    refine ⟨z3, rfl, ?_⟩
    show rx_aw 65 13 [.ref 77, .int a0, .int a1, rx_no, rx_no, rx_no] [.int z3, .int a1, .ref 77] (rx_hp L t hi3 hl3 v3) Q
    refine rx_aw_s 9 (pc := 13) rfl ?_
    show rx_aw 65 29 [.ref 77, .int a0, .int a1, .long 0, rx_no, .int ((rx_u hi3 77 9 (if a1 < (z3 + 1) then (z3 + 1) else a1)) 77 9)] [] (rx_hp L t (rx_u hi3 77 9 (if a1 < (z3 + 1) then (z3 + 1) else a1)) hl3 v3) Q
    exact k
theorem w65_findTaboo_29 {L : Nat} {t : List (Nat × Nat)} {hi : Nat → Nat → Int32} {hl : Nat → Nat → Int64} {v : Nat → Nat → Option Nat} {Q : Option Value → rx_H → Prop} {x1 : Int32} {x2 : Int32} {x3 : Int64} {x5 : Int32} (k : ((x5 < x2 → Q none (rx_hp L t hi hl v)) ∧ (¬ (x5 < x2) → (((v 77 8) = none ∧ rx_me 66 [.ref 13, .null, .int x1, .int x5] (rx_hp L t hi hl v) (fun r h2 => ∃ z6 : Int64, r = some (.long z6) ∧ rx_ok2 L t h2 (fun hi6 hl6 v6 => (∃ j7 : Nat, x5 = nI j7 ∧ j7 < 402 ∧ (∃ j8 : Nat, x5 = nI j8 ∧ j8 < 402 ∧ (∃ j9 : Nat, x5 = nI j9 ∧ j9 < 402 ∧ rx_aw 65 29 [.ref 77, .int x1, .int x2, .long (x3 ||| ((rx_u hl6 78 j7 z6) 78 j8)), rx_no, .int (x5 + (-1))] [] (rx_hp L t hi6 (rx_u (rx_u hl6 78 j7 z6) 79 j9 (x3 ||| ((rx_u hl6 78 j7 z6) 78 j8))) v6) Q)))))) ∨ (∃ q5 : Nat, q5 < 6 ∧ (v 77 8) = some (rx_ct q5) ∧ rx_me 66 [.ref 13, .ref (rx_ct q5), .int x1, .int x5] (rx_hp L t hi hl v) (fun r h2 => ∃ z10 : Int64, r = some (.long z10) ∧ rx_ok2 L t h2 (fun hi10 hl10 v10 => (∃ j11 : Nat, x5 = nI j11 ∧ j11 < 402 ∧ (∃ j12 : Nat, x5 = nI j12 ∧ j12 < 402 ∧ (∃ j13 : Nat, x5 = nI j13 ∧ j13 < 402 ∧ rx_aw 65 29 [.ref 77, .int x1, .int x2, .long (x3 ||| ((rx_u hl10 78 j11 z10) 78 j12)), rx_no, .int (x5 + (-1))] [] (rx_hp L t hi10 (rx_u (rx_u hl10 78 j11 z10) 79 j13 (x3 ||| ((rx_u hl10 78 j11 z10) 78 j12))) v10) Q)))))))))) : rx_aw 65 29 [.ref 77, .int x1, .int x2, .long x3, rx_no, .int x5] [] (rx_hp L t hi hl v) Q := by
  refine rx_aw_s 3 (pc := 29) rfl ?_
  refine rx_w_if (c := x5 < x2) ⟨fun c4 => ?_, fun c4 => ?_⟩
  · have k := k.1 c4
    show rx_aw 65 80 [.ref 77, .int x1, .int x2, .long x3, rx_no, .int x5] [] (rx_hp L t hi hl v) Q
    exact rx_aw_ret (pc := 80) rfl k
  · have k := k.2 c4
    show rx_aw 65 35 [.ref 77, .int x1, .int x2, .long x3, rx_no, .int x5] [] (rx_hp L t hi hl v) Q
    refine rx_aw_s 7 (pc := 35) rfl ?_
    show rx_aw 65 49 [.ref 77, .int x1, .int x2, .long x3, rx_no, .int x5] [va_rf (v 77 8), .ref 13, .int x5, .ref 78] (rx_hp L t hi hl v) Q
    rcases k with ⟨eq5, k⟩ | ⟨q5, hq5, eq5, k⟩
    · rw [eq5]
      show rx_aw 65 49 [.ref 77, .int x1, .int x2, .long x3, rx_no, .int x5] [.null, .ref 13, .int x5, .ref 78] (rx_hp L t hi hl v) Q
      refine rx_aw_s 2 (pc := 49) rfl ?_
      show rx_aw 65 52 [.ref 77, .int x1, .int x2, .long x3, rx_no, .int x5] [.int x5, .int x1, .null, .ref 13, .int x5, .ref 78] (rx_hp L t hi hl v) Q
      refine rx_w_callL (j := 66) (pc := 52) rfl rfl rfl rfl rfl ?_
      refine rx_aw.mono k (fun r h2 k => ?_)
      obtain ⟨z6, rfl, hi6, hl6, v6, rfl, k⟩ := k
      refine ⟨z6, rfl, ?_⟩
      show rx_aw 65 55 [.ref 77, .int x1, .int x2, .long x3, rx_no, .int x5] [.long z6, .int x5, .ref 78] (rx_hp L t hi6 hl6 v6) Q
      obtain ⟨j7, ej7, hj7, k⟩ := k
      refine rx_aw_last (pc := 55) (n := 402) j7 ej7 rfl rfl (by decide) rfl hj7 (by decide) ?_
      show rx_aw 65 56 [.ref 77, .int x1, .int x2, .long x3, rx_no, .int x5] [] (rx_hp L t hi6 (rx_u hl6 78 j7 z6) v6) Q
      refine rx_aw_s 4 (pc := 56) rfl ?_
      show rx_aw 65 63 [.ref 77, .int x1, .int x2, .long x3, rx_no, .int x5] [.int x5, .ref 78, .long x3] (rx_hp L t hi6 (rx_u hl6 78 j7 z6) v6) Q
      obtain ⟨j8, ej8, hj8, k⟩ := k
      refine rx_aw_lald (pc := 63) (n := 402) j8 ej8 rfl rfl (by decide) rfl hj8 (by decide) ?_
      show rx_aw 65 64 [.ref 77, .int x1, .int x2, .long x3, rx_no, .int x5] [.long ((rx_u hl6 78 j7 z6) 78 j8), .long x3] (rx_hp L t hi6 (rx_u hl6 78 j7 z6) v6) Q
      refine rx_aw_s 6 (pc := 64) rfl ?_
      show rx_aw 65 73 [.ref 77, .int x1, .int x2, .long (x3 ||| ((rx_u hl6 78 j7 z6) 78 j8)), rx_no, .int x5] [.long (x3 ||| ((rx_u hl6 78 j7 z6) 78 j8)), .int x5, .ref 79] (rx_hp L t hi6 (rx_u hl6 78 j7 z6) v6) Q
      obtain ⟨j9, ej9, hj9, k⟩ := k
      refine rx_aw_last (pc := 73) (n := 402) j9 ej9 rfl rfl (by decide) rfl hj9 (by decide) ?_
      show rx_aw 65 74 [.ref 77, .int x1, .int x2, .long (x3 ||| ((rx_u hl6 78 j7 z6) 78 j8)), rx_no, .int x5] [] (rx_hp L t hi6 (rx_u (rx_u hl6 78 j7 z6) 79 j9 (x3 ||| ((rx_u hl6 78 j7 z6) 78 j8))) v6) Q
      refine rx_aw_s 2 (pc := 74) rfl ?_
      show rx_aw 65 29 [.ref 77, .int x1, .int x2, .long (x3 ||| ((rx_u hl6 78 j7 z6) 78 j8)), rx_no, .int (x5 + (-1))] [] (rx_hp L t hi6 (rx_u (rx_u hl6 78 j7 z6) 79 j9 (x3 ||| ((rx_u hl6 78 j7 z6) 78 j8))) v6) Q
      exact k
    · rw [eq5]
      show rx_aw 65 49 [.ref 77, .int x1, .int x2, .long x3, rx_no, .int x5] [.ref (rx_ct q5), .ref 13, .int x5, .ref 78] (rx_hp L t hi hl v) Q
      refine rx_aw_s 2 (pc := 49) rfl ?_
      show rx_aw 65 52 [.ref 77, .int x1, .int x2, .long x3, rx_no, .int x5] [.int x5, .int x1, .ref (rx_ct q5), .ref 13, .int x5, .ref 78] (rx_hp L t hi hl v) Q
      refine rx_w_callL (j := 66) (pc := 52) rfl rfl rfl rfl rfl ?_
      refine rx_aw.mono k (fun r h2 k => ?_)
      obtain ⟨z10, rfl, hi10, hl10, v10, rfl, k⟩ := k
      refine ⟨z10, rfl, ?_⟩
      show rx_aw 65 55 [.ref 77, .int x1, .int x2, .long x3, rx_no, .int x5] [.long z10, .int x5, .ref 78] (rx_hp L t hi10 hl10 v10) Q
      obtain ⟨j11, ej11, hj11, k⟩ := k
      refine rx_aw_last (pc := 55) (n := 402) j11 ej11 rfl rfl (by decide) rfl hj11 (by decide) ?_
      show rx_aw 65 56 [.ref 77, .int x1, .int x2, .long x3, rx_no, .int x5] [] (rx_hp L t hi10 (rx_u hl10 78 j11 z10) v10) Q
      refine rx_aw_s 4 (pc := 56) rfl ?_
      show rx_aw 65 63 [.ref 77, .int x1, .int x2, .long x3, rx_no, .int x5] [.int x5, .ref 78, .long x3] (rx_hp L t hi10 (rx_u hl10 78 j11 z10) v10) Q
      obtain ⟨j12, ej12, hj12, k⟩ := k
      refine rx_aw_lald (pc := 63) (n := 402) j12 ej12 rfl rfl (by decide) rfl hj12 (by decide) ?_
      show rx_aw 65 64 [.ref 77, .int x1, .int x2, .long x3, rx_no, .int x5] [.long ((rx_u hl10 78 j11 z10) 78 j12), .long x3] (rx_hp L t hi10 (rx_u hl10 78 j11 z10) v10) Q
      refine rx_aw_s 6 (pc := 64) rfl ?_
      show rx_aw 65 73 [.ref 77, .int x1, .int x2, .long (x3 ||| ((rx_u hl10 78 j11 z10) 78 j12)), rx_no, .int x5] [.long (x3 ||| ((rx_u hl10 78 j11 z10) 78 j12)), .int x5, .ref 79] (rx_hp L t hi10 (rx_u hl10 78 j11 z10) v10) Q
      obtain ⟨j13, ej13, hj13, k⟩ := k
      refine rx_aw_last (pc := 73) (n := 402) j13 ej13 rfl rfl (by decide) rfl hj13 (by decide) ?_
      show rx_aw 65 74 [.ref 77, .int x1, .int x2, .long (x3 ||| ((rx_u hl10 78 j11 z10) 78 j12)), rx_no, .int x5] [] (rx_hp L t hi10 (rx_u (rx_u hl10 78 j11 z10) 79 j13 (x3 ||| ((rx_u hl10 78 j11 z10) 78 j12))) v10) Q
      refine rx_aw_s 2 (pc := 74) rfl ?_
      show rx_aw 65 29 [.ref 77, .int x1, .int x2, .long (x3 ||| ((rx_u hl10 78 j11 z10) 78 j12)), rx_no, .int (x5 + (-1))] [] (rx_hp L t hi10 (rx_u (rx_u hl10 78 j11 z10) 79 j13 (x3 ||| ((rx_u hl10 78 j11 z10) 78 j12))) v10) Q
      exact k
/-- CartFloor$Traffic.blockedFor(LCartFloor$Cart;II)J -/
theorem w66_blockedFor {L : Nat} {t : List (Nat × Nat)} {hi : Nat → Nat → Int32} {hl : Nat → Nat → Int64} {v : Nat → Nat → Option Nat} {Q : Option Value → rx_H → Prop} {c0 : Nat} (hc0 : c0 < 6) {a1 : Int32} {a2 : Int32} (k : rx_aw 66 24 [.ref 13, .ref (rx_ct c0), .int a1, .int a2, .long (((hl 7 2) ^^^ (-1)) ||| (hl 7 10)), rx_no, .int 0] [] (rx_hp L t hi hl v) Q) : rx_me 66 [.ref 13, .ref (rx_ct c0), .int a1, .int a2] (rx_hp L t hi hl v) Q := by
  show rx_aw 66 0 [.ref 13, .ref (rx_ct c0), .int a1, .int a2, rx_no, rx_no, rx_no] [] (rx_hp L t hi hl v) Q
  refine rx_aw_s 12 (pc := 0) rfl ?_
  show rx_aw 66 24 [.ref 13, .ref (rx_ct c0), .int a1, .int a2, .long (((hl 7 2) ^^^ (-1)) ||| (hl 7 10)), rx_no, .int 0] [] (rx_hp L t hi hl v) Q
  exact k
theorem w66_blockedFor_24 {L : Nat} {t : List (Nat × Nat)} {hi : Nat → Nat → Int32} {hl : Nat → Nat → Int64} {v : Nat → Nat → Option Nat} {Q : Option Value → rx_H → Prop} {c0 : Nat} (hc0 : c0 < 6) {x2 : Int32} {x3 : Int32} {x4 : Int64} {x6 : Int32} (k : (((hi 13 3) ≤ x6 → (((hi (rx_ct c0) 5) = 1 → ((0 ≤ x2 → rx_me 37 [.ref 13, .int x3, .int x2] (rx_hp L t hi hl v) (fun r h2 => ∃ z4 : Int64, r = some (.long z4) ∧ rx_ok2 L t h2 (fun hi4 hl4 v4 => Q (some (.long (x4 ||| z4))) (rx_hp L t hi4 hl4 v4)))) ∧ (¬ (0 ≤ x2) → Q (some (.long x4)) (rx_hp L t hi hl v)))) ∧ (¬ ((hi (rx_ct c0) 5) = 1) → rx_me 37 [.ref 13, .int x3, .int x2] (rx_hp L t hi hl v) (fun r h2 => ∃ z5 : Int64, r = some (.long z5) ∧ rx_ok2 L t h2 (fun hi5 hl5 v5 => Q (some (.long (x4 ||| z5))) (rx_hp L t hi5 hl5 v5)))))) ∧ (¬ ((hi 13 3) ≤ x6) → (∃ j6 : Nat, x6 = nI j6 ∧ j6 < 6 ∧ (((some (rx_ct j6) : Option Nat) = (some (rx_ct c0) : Option Nat) → rx_aw 66 24 [.ref 13, .ref (rx_ct c0), .int x2, .int x3, .long x4, rx_no, .int (x6 + 1)] [] (rx_hp L t hi hl v) Q) ∧ (¬ ((some (rx_ct j6) : Option Nat) = (some (rx_ct c0) : Option Nat)) → (∃ j8 : Nat, x6 = nI j8 ∧ j8 < 6 ∧ (∃ j9 : Nat, (if (hi 13 5) < x3 then (hi 13 5) else x3) = nI j9 ∧ j9 < 402 ∧ rx_aw 66 24 [.ref 13, .ref (rx_ct c0), .int x2, .int x3, .long (x4 ||| (hl (rx_ct j8 + 5) j9)), rx_no, .int (x6 + 1)] [] (rx_hp L t hi hl v) Q)))))))) : rx_aw 66 24 [.ref 13, .ref (rx_ct c0), .int x2, .int x3, .long x4, rx_no, .int x6] [] (rx_hp L t hi hl v) Q := by
  refine rx_aw_s 4 (pc := 24) rfl ?_
  refine rx_w_if (c := (hi 13 3) ≤ x6) ⟨fun c1 => ?_, fun c1 => ?_⟩
  · have k := k.1 c1
    show rx_aw 66 74 [.ref 13, .ref (rx_ct c0), .int x2, .int x3, .long x4, rx_no, .int x6] [] (rx_hp L t hi hl v) Q
    refine rx_aw_s 1 (pc := 74) rfl ?_
    show rx_aw 66 75 [.ref 13, .ref (rx_ct c0), .int x2, .int x3, .long x4, rx_no, .int x6] [.ref (rx_ct c0)] (rx_hp L t hi hl v) Q
    refine rx_w_cg hc0 (pc := 75) rfl (by decide) (by decide) ?_
    show rx_aw 66 78 [.ref 13, .ref (rx_ct c0), .int x2, .int x3, .long x4, rx_no, .int x6] [.int (hi (rx_ct c0) 5)] (rx_hp L t hi hl v) Q
    refine rx_aw_s 2 (pc := 78) rfl ?_
    refine rx_w_ifn (c := (hi (rx_ct c0) 5) = 1) ⟨fun c2 => ?_, fun c2 => ?_⟩
    · have k := k.1 c2
      show rx_aw 66 82 [.ref 13, .ref (rx_ct c0), .int x2, .int x3, .long x4, rx_no, .int x6] [] (rx_hp L t hi hl v) Q
      refine rx_aw_s 2 (pc := 82) rfl ?_
      refine rx_w_if (c := 0 ≤ x2) ⟨fun c3 => ?_, fun c3 => ?_⟩
      · have k := k.1 c3
        show rx_aw 66 91 [.ref 13, .ref (rx_ct c0), .int x2, .int x3, .long x4, rx_no, .int x6] [] (rx_hp L t hi hl v) Q
        refine rx_aw_s 4 (pc := 91) rfl ?_
        show rx_aw 66 96 [.ref 13, .ref (rx_ct c0), .int x2, .int x3, .long x4, rx_no, .int x6] [.int x2, .int x3, .ref 13, .long x4] (rx_hp L t hi hl v) Q
        refine rx_w_callL (j := 37) (pc := 96) rfl rfl rfl rfl rfl ?_
        refine rx_aw.mono k (fun r h2 k => ?_)
        obtain ⟨z4, rfl, hi4, hl4, v4, rfl, k⟩ := k
        refine ⟨z4, rfl, ?_⟩
        show rx_aw 66 99 [.ref 13, .ref (rx_ct c0), .int x2, .int x3, .long x4, rx_no, .int x6] [.long z4, .long x4] (rx_hp L t hi4 hl4 v4) Q
        refine rx_aw_s 1 (pc := 99) rfl ?_
        show rx_aw 66 100 [.ref 13, .ref (rx_ct c0), .int x2, .int x3, .long x4, rx_no, .int x6] [.long (x4 ||| z4)] (rx_hp L t hi4 hl4 v4) Q
        exact rx_aw_ret (pc := 100) rfl k
      · have k := k.2 c3
        show rx_aw 66 86 [.ref 13, .ref (rx_ct c0), .int x2, .int x3, .long x4, rx_no, .int x6] [] (rx_hp L t hi hl v) Q
        refine rx_aw_s 2 (pc := 86) rfl ?_
        show rx_aw 66 100 [.ref 13, .ref (rx_ct c0), .int x2, .int x3, .long x4, rx_no, .int x6] [.long x4] (rx_hp L t hi hl v) Q
        exact rx_aw_ret (pc := 100) rfl k
    · have k := k.2 c2
      show rx_aw 66 91 [.ref 13, .ref (rx_ct c0), .int x2, .int x3, .long x4, rx_no, .int x6] [] (rx_hp L t hi hl v) Q
      refine rx_aw_s 4 (pc := 91) rfl ?_
      show rx_aw 66 96 [.ref 13, .ref (rx_ct c0), .int x2, .int x3, .long x4, rx_no, .int x6] [.int x2, .int x3, .ref 13, .long x4] (rx_hp L t hi hl v) Q
      refine rx_w_callL (j := 37) (pc := 96) rfl rfl rfl rfl rfl ?_
      refine rx_aw.mono k (fun r h2 k => ?_)
      obtain ⟨z5, rfl, hi5, hl5, v5, rfl, k⟩ := k
      refine ⟨z5, rfl, ?_⟩
      show rx_aw 66 99 [.ref 13, .ref (rx_ct c0), .int x2, .int x3, .long x4, rx_no, .int x6] [.long z5, .long x4] (rx_hp L t hi5 hl5 v5) Q
      refine rx_aw_s 1 (pc := 99) rfl ?_
      show rx_aw 66 100 [.ref 13, .ref (rx_ct c0), .int x2, .int x3, .long x4, rx_no, .int x6] [.long (x4 ||| z5)] (rx_hp L t hi5 hl5 v5) Q
      exact rx_aw_ret (pc := 100) rfl k
  · have k := k.2 c1
    show rx_aw 66 33 [.ref 13, .ref (rx_ct c0), .int x2, .int x3, .long x4, rx_no, .int x6] [] (rx_hp L t hi hl v) Q
    refine rx_aw_s 3 (pc := 33) rfl ?_
    show rx_aw 66 39 [.ref 13, .ref (rx_ct c0), .int x2, .int x3, .long x4, rx_no, .int x6] [.int x6, .ref 14] (rx_hp L t hi hl v) Q
    obtain ⟨j6, ej6, hj6, k⟩ := k
    refine rx_w_carts (pc := 39) rfl ⟨j6, ej6, hj6, ?_⟩
    show rx_aw 66 40 [.ref 13, .ref (rx_ct c0), .int x2, .int x3, .long x4, rx_no, .int x6] [.ref (rx_ct j6)] (rx_hp L t hi hl v) Q
    refine rx_aw_s 2 (pc := 40) rfl ?_
    refine rx_w_if (c := (some (rx_ct j6) : Option Nat) = (some (rx_ct c0) : Option Nat)) ⟨fun c7 => ?_, fun c7 => ?_⟩
    · have k := k.1 c7
      show rx_aw 66 68 [.ref 13, .ref (rx_ct c0), .int x2, .int x3, .long x4, rx_no, .int x6] [] (rx_hp L t hi hl v) Q
      refine rx_aw_s 2 (pc := 68) rfl ?_
      show rx_aw 66 24 [.ref 13, .ref (rx_ct c0), .int x2, .int x3, .long x4, rx_no, .int (x6 + 1)] [] (rx_hp L t hi hl v) Q
      exact k
    · have k := k.2 c7
      show rx_aw 66 44 [.ref 13, .ref (rx_ct c0), .int x2, .int x3, .long x4, rx_no, .int x6] [] (rx_hp L t hi hl v) Q
      refine rx_aw_s 4 (pc := 44) rfl ?_
      show rx_aw 66 52 [.ref 13, .ref (rx_ct c0), .int x2, .int x3, .long x4, rx_no, .int x6] [.int x6, .ref 14, .long x4] (rx_hp L t hi hl v) Q
      obtain ⟨j8, ej8, hj8, k⟩ := k
      refine rx_w_carts (pc := 52) rfl ⟨j8, ej8, hj8, ?_⟩
      show rx_aw 66 53 [.ref 13, .ref (rx_ct c0), .int x2, .int x3, .long x4, rx_no, .int x6] [.ref (rx_ct j8), .long x4] (rx_hp L t hi hl v) Q
      refine rx_w_cr hj8 (pc := 53) rfl (by decide) ?_
      show rx_aw 66 56 [.ref 13, .ref (rx_ct c0), .int x2, .int x3, .long x4, rx_no, .int x6] [.ref (rx_ct j8 + 5), .long x4] (rx_hp L t hi hl v) Q
      refine rx_aw_s 4 (pc := 56) rfl ?_
      show rx_aw 66 64 [.ref 13, .ref (rx_ct c0), .int x2, .int x3, .long x4, rx_no, .int x6] [.int (if (hi 13 5) < x3 then (hi 13 5) else x3), .ref (rx_ct j8 + 5), .long x4] (rx_hp L t hi hl v) Q
      obtain ⟨j9, ej9, hj9, k⟩ := k
      refine rx_aw_lald (pc := 64) (n := 402) j9 ej9 rfl (rx_ck (rx_cart_s hj8).2.2.2.2.2) (Nat.lt_of_lt_of_le (rx_ct_pos _) (Nat.le_add_right _ _)) (rx_cle (rx_cart_s hj8).2.2.2.2.2) hj9 (by decide) ?_
      show rx_aw 66 65 [.ref 13, .ref (rx_ct c0), .int x2, .int x3, .long x4, rx_no, .int x6] [.long (hl (rx_ct j8 + 5) j9), .long x4] (rx_hp L t hi hl v) Q
      refine rx_aw_s 4 (pc := 65) rfl ?_
      show rx_aw 66 24 [.ref 13, .ref (rx_ct c0), .int x2, .int x3, .long (x4 ||| (hl (rx_ct j8 + 5) j9)), rx_no, .int (x6 + 1)] [] (rx_hp L t hi hl v) Q
      exact k
/-- CartFloor$Search.findArrival(I)I -/
theorem w67_findArrival {L : Nat} {t : List (Nat × Nat)} {hi : Nat → Nat → Int32} {hl : Nat → Nat → Int64} {v : Nat → Nat → Option Nat} {Q : Option Value → rx_H → Prop} {a0 : Int32} (k : rx_aw 67 2 [.ref 77, .int a0, .int a0] [] (rx_hp L t hi hl v) Q) : rx_me 67 [.ref 77, .int a0] (rx_hp L t hi hl v) Q := by
  show rx_aw 67 0 [.ref 77, .int a0, rx_no] [] (rx_hp L t hi hl v) Q
  refine rx_aw_s 2 (pc := 0) rfl ?_
  show rx_aw 67 2 [.ref 77, .int a0, .int a0] [] (rx_hp L t hi hl v) Q
  exact k
theorem w67_findArrival_2 {L : Nat} {t : List (Nat × Nat)} {hi : Nat → Nat → Int32} {hl : Nat → Nat → Int64} {v : Nat → Nat → Option Nat} {Q : Option Value → rx_H → Prop} {x1 : Int32} {x2 : Int32} (k : ((400 < x2 → Q (some (.int (-1))) (rx_hp L t hi hl v)) ∧ (¬ (400 < x2) → rx_me 68 [.ref 77, .int x2] (rx_hp L t hi hl v) (fun r h2 => ∃ z2 : Int32, r = some (.int z2) ∧ rx_ok2 L t h2 (fun hi2 hl2 v2 => ((z2 = 0 → ((x2 = 400 → Q (some (.int (-1))) (rx_hp L t hi2 hl2 v2)) ∧ (¬ (x2 = 400) → (((v2 77 8) = none ∧ False) ∨ (∃ q5 : Nat, q5 < 6 ∧ (v2 77 8) = some (rx_ct q5) ∧ (((hi2 (rx_ct q5) 5) < 2 → rx_me 73 [.ref 77, .int x2] (rx_hp L t hi2 hl2 v2) (fun r h2 => r = none ∧ rx_ok2 L t h2 (fun hi7 hl7 v7 => rx_me 76 [.ref 77, .int x2] (rx_hp L t hi7 hl7 v7) (fun r h2 => ∃ z8 : Int32, r = some (.int z8) ∧ rx_ok2 L t h2 (fun hi8 hl8 v8 => ((z8 = 0 → rx_aw 67 2 [.ref 77, .int x1, .int (x2 + 1)] [] (rx_hp L t hi8 hl8 v8) Q) ∧ (¬ (z8 = 0) → Q (some (.int (-1))) (rx_hp L t hi8 hl8 v8)))))))) ∧ (¬ ((hi2 (rx_ct q5) 5) < 2) → rx_me 70 [.ref 77, .int x2] (rx_hp L t hi2 hl2 v2) (fun r h2 => r = none ∧ rx_ok2 L t h2 (fun hi10 hl10 v10 => rx_me 76 [.ref 77, .int x2] (rx_hp L t hi10 hl10 v10) (fun r h2 => ∃ z11 : Int32, r = some (.int z11) ∧ rx_ok2 L t h2 (fun hi11 hl11 v11 => ((z11 = 0 → rx_aw 67 2 [.ref 77, .int x1, .int (x2 + 1)] [] (rx_hp L t hi11 hl11 v11) Q) ∧ (¬ (z11 = 0) → Q (some (.int (-1))) (rx_hp L t hi11 hl11 v11)))))))))))))) ∧ (¬ (z2 = 0) → Q (some (.int x2)) (rx_hp L t hi2 hl2 v2)))))))) : rx_aw 67 2 [.ref 77, .int x1, .int x2] [] (rx_hp L t hi hl v) Q := by
  refine rx_aw_s 3 (pc := 2) rfl ?_
  refine rx_w_if (c := 400 < x2) ⟨fun c1 => ?_, fun c1 => ?_⟩
  · have k := k.1 c1
    show rx_aw 67 68 [.ref 77, .int x1, .int x2] [] (rx_hp L t hi hl v) Q
    refine rx_aw_s 1 (pc := 68) rfl ?_
    show rx_aw 67 69 [.ref 77, .int x1, .int x2] [.int (-1)] (rx_hp L t hi hl v) Q
    exact rx_aw_ret (pc := 69) rfl k
  · have k := k.2 c1
    show rx_aw 67 9 [.ref 77, .int x1, .int x2] [] (rx_hp L t hi hl v) Q
    refine rx_aw_s 2 (pc := 9) rfl ?_
    show rx_aw 67 11 [.ref 77, .int x1, .int x2] [.int x2, .ref 77] (rx_hp L t hi hl v) Q
    refine rx_w_callI (j := 68) (pc := 11) rfl rfl rfl rfl rfl ?_
    refine rx_aw.mono k (fun r h2 k => ?_)
    obtain ⟨z2, rfl, hi2, hl2, v2, rfl, k⟩ := k
    refine ⟨z2, rfl, ?_⟩
    show rx_aw 67 14 [.ref 77, .int x1, .int x2] [.int z2] (rx_hp L t hi2 hl2 v2) Q
    refine rx_aw_s 1 (pc := 14) rfl ?_
    refine rx_w_if (c := z2 = 0) ⟨fun c3 => ?_, fun c3 => ?_⟩
    · have k := k.1 c3
      show rx_aw 67 19 [.ref 77, .int x1, .int x2] [] (rx_hp L t hi2 hl2 v2) Q
      refine rx_aw_s 3 (pc := 19) rfl ?_
      refine rx_w_ifn (c := x2 = 400) ⟨fun c4 => ?_, fun c4 => ?_⟩
      · have k := k.1 c4
        show rx_aw 67 26 [.ref 77, .int x1, .int x2] [] (rx_hp L t hi2 hl2 v2) Q
        refine rx_aw_s 1 (pc := 26) rfl ?_
        show rx_aw 67 27 [.ref 77, .int x1, .int x2] [.int (-1)] (rx_hp L t hi2 hl2 v2) Q
        exact rx_aw_ret (pc := 27) rfl k
      · have k := k.2 c4
        show rx_aw 67 28 [.ref 77, .int x1, .int x2] [] (rx_hp L t hi2 hl2 v2) Q
        refine rx_aw_s 2 (pc := 28) rfl ?_
        show rx_aw 67 32 [.ref 77, .int x1, .int x2] [va_rf (v2 77 8)] (rx_hp L t hi2 hl2 v2) Q
        rcases k with ⟨eq5, k⟩ | ⟨q5, hq5, eq5, k⟩
        · rw [eq5]
          show rx_aw 67 32 [.ref 77, .int x1, .int x2] [.null] (rx_hp L t hi2 hl2 v2) Q
          exact k.elim
        · rw [eq5]
          show rx_aw 67 32 [.ref 77, .int x1, .int x2] [.ref (rx_ct q5)] (rx_hp L t hi2 hl2 v2) Q
          refine rx_w_cg hq5 (pc := 32) rfl (by decide) (by decide) ?_
          show rx_aw 67 35 [.ref 77, .int x1, .int x2] [.int (hi2 (rx_ct q5) 5)] (rx_hp L t hi2 hl2 v2) Q
          refine rx_aw_s 2 (pc := 35) rfl ?_
          refine rx_w_if (c := (hi2 (rx_ct q5) 5) < 2) ⟨fun c6 => ?_, fun c6 => ?_⟩
          · have k := k.1 c6
            show rx_aw 67 47 [.ref 77, .int x1, .int x2] [] (rx_hp L t hi2 hl2 v2) Q
            refine rx_aw_s 2 (pc := 47) rfl ?_
            show rx_aw 67 49 [.ref 77, .int x1, .int x2] [.int x2, .ref 77] (rx_hp L t hi2 hl2 v2) Q
            refine rx_w_callV (j := 73) (pc := 49) rfl rfl rfl rfl rfl ?_
            refine rx_aw.mono k (fun r h2 k => ?_)
            obtain ⟨rfl, hi7, hl7, v7, rfl, k⟩ := k
            refine ⟨rfl, ?_⟩
            show rx_aw 67 52 [.ref 77, .int x1, .int x2] [] (rx_hp L t hi7 hl7 v7) Q
            refine rx_aw_s 2 (pc := 52) rfl ?_
            show rx_aw 67 54 [.ref 77, .int x1, .int x2] [.int x2, .ref 77] (rx_hp L t hi7 hl7 v7) Q
            refine rx_w_callI (j := 76) (pc := 54) rfl rfl rfl rfl rfl ?_
            refine rx_aw.mono k (fun r h2 k => ?_)
            obtain ⟨z8, rfl, hi8, hl8, v8, rfl, k⟩ := k
            refine ⟨z8, rfl, ?_⟩
            show rx_aw 67 57 [.ref 77, .int x1, .int x2] [.int z8] (rx_hp L t hi8 hl8 v8) Q
            refine rx_aw_s 1 (pc := 57) rfl ?_
            refine rx_w_if (c := z8 = 0) ⟨fun c9 => ?_, fun c9 => ?_⟩
            · have k := k.1 c9
              show rx_aw 67 62 [.ref 77, .int x1, .int x2] [] (rx_hp L t hi8 hl8 v8) Q
              refine rx_aw_s 2 (pc := 62) rfl ?_
              show rx_aw 67 2 [.ref 77, .int x1, .int (x2 + 1)] [] (rx_hp L t hi8 hl8 v8) Q
              exact k
            · have k := k.2 c9
              show rx_aw 67 60 [.ref 77, .int x1, .int x2] [] (rx_hp L t hi8 hl8 v8) Q
              refine rx_aw_s 1 (pc := 60) rfl ?_
              show rx_aw 67 61 [.ref 77, .int x1, .int x2] [.int (-1)] (rx_hp L t hi8 hl8 v8) Q
              exact rx_aw_ret (pc := 61) rfl k
          · have k := k.2 c6
            show rx_aw 67 39 [.ref 77, .int x1, .int x2] [] (rx_hp L t hi2 hl2 v2) Q
            refine rx_aw_s 2 (pc := 39) rfl ?_
            show rx_aw 67 41 [.ref 77, .int x1, .int x2] [.int x2, .ref 77] (rx_hp L t hi2 hl2 v2) Q
            refine rx_w_callV (j := 70) (pc := 41) rfl rfl rfl rfl rfl ?_
            refine rx_aw.mono k (fun r h2 k => ?_)
            obtain ⟨rfl, hi10, hl10, v10, rfl, k⟩ := k
            refine ⟨rfl, ?_⟩
            show rx_aw 67 44 [.ref 77, .int x1, .int x2] [] (rx_hp L t hi10 hl10 v10) Q
            refine rx_aw_s 3 (pc := 44) rfl ?_
            show rx_aw 67 54 [.ref 77, .int x1, .int x2] [.int x2, .ref 77] (rx_hp L t hi10 hl10 v10) Q
            refine rx_w_callI (j := 76) (pc := 54) rfl rfl rfl rfl rfl ?_
            refine rx_aw.mono k (fun r h2 k => ?_)
            obtain ⟨z11, rfl, hi11, hl11, v11, rfl, k⟩ := k
            refine ⟨z11, rfl, ?_⟩
            show rx_aw 67 57 [.ref 77, .int x1, .int x2] [.int z11] (rx_hp L t hi11 hl11 v11) Q
            refine rx_aw_s 1 (pc := 57) rfl ?_
            refine rx_w_if (c := z11 = 0) ⟨fun c12 => ?_, fun c12 => ?_⟩
            · have k := k.1 c12
              show rx_aw 67 62 [.ref 77, .int x1, .int x2] [] (rx_hp L t hi11 hl11 v11) Q
              refine rx_aw_s 2 (pc := 62) rfl ?_
              show rx_aw 67 2 [.ref 77, .int x1, .int (x2 + 1)] [] (rx_hp L t hi11 hl11 v11) Q
              exact k
            · have k := k.2 c12
              show rx_aw 67 60 [.ref 77, .int x1, .int x2] [] (rx_hp L t hi11 hl11 v11) Q
              refine rx_aw_s 1 (pc := 60) rfl ?_
              show rx_aw 67 61 [.ref 77, .int x1, .int x2] [.int (-1)] (rx_hp L t hi11 hl11 v11) Q
              exact rx_aw_ret (pc := 61) rfl k
    · have k := k.2 c3
      show rx_aw 67 17 [.ref 77, .int x1, .int x2] [] (rx_hp L t hi2 hl2 v2) Q
      refine rx_aw_s 1 (pc := 17) rfl ?_
      show rx_aw 67 18 [.ref 77, .int x1, .int x2] [.int x2] (rx_hp L t hi2 hl2 v2) Q
      exact rx_aw_ret (pc := 18) rfl k
/-- CartFloor$Search.arrives(I)Z -/
theorem w68_arrives {L : Nat} {t : List (Nat × Nat)} {hi : Nat → Nat → Int32} {hl : Nat → Nat → Int64} {v : Nat → Nat → Option Nat} {Q : Option Value → rx_H → Prop} {a0 : Int32} (k : (((hi 77 11) < 0 → (((hi 77 12) = 0 → rx_aw 68 59 [.ref 77, .int a0, .long 0, rx_no, .int 0, .int 0, rx_no] [] (rx_hp L t hi hl v) Q) ∧ (¬ ((hi 77 12) = 0) → (∃ j3 : Nat, (if (hi 77 9) < a0 then (hi 77 9) else a0) = nI j3 ∧ j3 < 402 ∧ rx_aw 68 59 [.ref 77, .int a0, .long (hl 79 j3), rx_no, .int 0, .int 0, rx_no] [] (rx_hp L t hi hl v) Q)))) ∧ (¬ ((hi 77 11) < 0) → rx_me 46 [.ref 13, .int (hi 77 11), .int (hi 77 10), .int a0] (rx_hp L t hi hl v) (fun r h2 => ∃ z4 : Int32, r = some (.int z4) ∧ rx_ok2 L t h2 (fun hi4 hl4 v4 => ((z4 = 0 → Q (some (.int 0)) (rx_hp L t hi4 hl4 v4)) ∧ (¬ (z4 = 0) → (((hi4 77 12) = 0 → rx_aw 68 59 [.ref 77, .int a0, .long 0, rx_no, .int 0, .int 0, rx_no] [] (rx_hp L t hi4 hl4 v4) Q) ∧ (¬ ((hi4 77 12) = 0) → (∃ j7 : Nat, (if (hi4 77 9) < a0 then (hi4 77 9) else a0) = nI j7 ∧ j7 < 402 ∧ rx_aw 68 59 [.ref 77, .int a0, .long (hl4 79 j7), rx_no, .int 0, .int 0, rx_no] [] (rx_hp L t hi4 hl4 v4) Q)))))))))) : rx_me 68 [.ref 77, .int a0] (rx_hp L t hi hl v) Q := by
  show rx_aw 68 0 [.ref 77, .int a0, rx_no, rx_no, rx_no, rx_no, rx_no] [] (rx_hp L t hi hl v) Q
  refine rx_aw_s 3 (pc := 0) rfl ?_
  refine rx_w_if (c := (hi 77 11) < 0) ⟨fun c1 => ?_, fun c1 => ?_⟩
  · have k := k.1 c1
    show rx_aw 68 28 [.ref 77, .int a0, rx_no, rx_no, rx_no, rx_no, rx_no] [] (rx_hp L t hi hl v) Q
    refine rx_aw_s 3 (pc := 28) rfl ?_
    refine rx_w_if (c := (hi 77 12) = 0) ⟨fun c2 => ?_, fun c2 => ?_⟩
    · have k := k.1 c2
      show rx_aw 68 51 [.ref 77, .int a0, rx_no, rx_no, rx_no, rx_no, rx_no] [] (rx_hp L t hi hl v) Q
      refine rx_aw_s 6 (pc := 51) rfl ?_
      show rx_aw 68 59 [.ref 77, .int a0, .long 0, rx_no, .int 0, .int 0, rx_no] [] (rx_hp L t hi hl v) Q
      exact k
    · have k := k.2 c2
      show rx_aw 68 35 [.ref 77, .int a0, rx_no, rx_no, rx_no, rx_no, rx_no] [] (rx_hp L t hi hl v) Q
      refine rx_aw_s 6 (pc := 35) rfl ?_
      show rx_aw 68 47 [.ref 77, .int a0, rx_no, rx_no, rx_no, rx_no, rx_no] [.int (if (hi 77 9) < a0 then (hi 77 9) else a0), .ref 79] (rx_hp L t hi hl v) Q
      obtain ⟨j3, ej3, hj3, k⟩ := k
      refine rx_aw_lald (pc := 47) (n := 402) j3 ej3 rfl rfl (by decide) rfl hj3 (by decide) ?_
      show rx_aw 68 48 [.ref 77, .int a0, rx_no, rx_no, rx_no, rx_no, rx_no] [.long (hl 79 j3)] (rx_hp L t hi hl v) Q
      refine rx_aw_s 6 (pc := 48) rfl ?_
      show rx_aw 68 59 [.ref 77, .int a0, .long (hl 79 j3), rx_no, .int 0, .int 0, rx_no] [] (rx_hp L t hi hl v) Q
      exact k
  · have k := k.2 c1
    show rx_aw 68 7 [.ref 77, .int a0, rx_no, rx_no, rx_no, rx_no, rx_no] [] (rx_hp L t hi hl v) Q
    refine rx_aw_s 7 (pc := 7) rfl ?_
    show rx_aw 68 20 [.ref 77, .int a0, rx_no, rx_no, rx_no, rx_no, rx_no] [.int a0, .int (hi 77 10), .int (hi 77 11), .ref 13] (rx_hp L t hi hl v) Q
    refine rx_w_callI (j := 46) (pc := 20) rfl rfl rfl rfl rfl ?_
    refine rx_aw.mono k (fun r h2 k => ?_)
    obtain ⟨z4, rfl, hi4, hl4, v4, rfl, k⟩ := k
    refine ⟨z4, rfl, ?_⟩
    show rx_aw 68 23 [.ref 77, .int a0, rx_no, rx_no, rx_no, rx_no, rx_no] [.int z4] (rx_hp L t hi4 hl4 v4) Q
    refine rx_aw_s 1 (pc := 23) rfl ?_
    refine rx_w_ifn (c := z4 = 0) ⟨fun c5 => ?_, fun c5 => ?_⟩
    · have k := k.1 c5
      show rx_aw 68 26 [.ref 77, .int a0, rx_no, rx_no, rx_no, rx_no, rx_no] [] (rx_hp L t hi4 hl4 v4) Q
      refine rx_aw_s 1 (pc := 26) rfl ?_
      show rx_aw 68 27 [.ref 77, .int a0, rx_no, rx_no, rx_no, rx_no, rx_no] [.int 0] (rx_hp L t hi4 hl4 v4) Q
      exact rx_aw_ret (pc := 27) rfl k
    · have k := k.2 c5
      show rx_aw 68 28 [.ref 77, .int a0, rx_no, rx_no, rx_no, rx_no, rx_no] [] (rx_hp L t hi4 hl4 v4) Q
      refine rx_aw_s 3 (pc := 28) rfl ?_
      refine rx_w_if (c := (hi4 77 12) = 0) ⟨fun c6 => ?_, fun c6 => ?_⟩
      · have k := k.1 c6
        show rx_aw 68 51 [.ref 77, .int a0, rx_no, rx_no, rx_no, rx_no, rx_no] [] (rx_hp L t hi4 hl4 v4) Q
        refine rx_aw_s 6 (pc := 51) rfl ?_
        show rx_aw 68 59 [.ref 77, .int a0, .long 0, rx_no, .int 0, .int 0, rx_no] [] (rx_hp L t hi4 hl4 v4) Q
        exact k
      · have k := k.2 c6
        show rx_aw 68 35 [.ref 77, .int a0, rx_no, rx_no, rx_no, rx_no, rx_no] [] (rx_hp L t hi4 hl4 v4) Q
        refine rx_aw_s 6 (pc := 35) rfl ?_
        show rx_aw 68 47 [.ref 77, .int a0, rx_no, rx_no, rx_no, rx_no, rx_no] [.int (if (hi4 77 9) < a0 then (hi4 77 9) else a0), .ref 79] (rx_hp L t hi4 hl4 v4) Q
        obtain ⟨j7, ej7, hj7, k⟩ := k
        refine rx_aw_lald (pc := 47) (n := 402) j7 ej7 rfl rfl (by decide) rfl hj7 (by decide) ?_
        show rx_aw 68 48 [.ref 77, .int a0, rx_no, rx_no, rx_no, rx_no, rx_no] [.long (hl4 79 j7)] (rx_hp L t hi4 hl4 v4) Q
        refine rx_aw_s 6 (pc := 48) rfl ?_
        show rx_aw 68 59 [.ref 77, .int a0, .long (hl4 79 j7), rx_no, .int 0, .int 0, rx_no] [] (rx_hp L t hi4 hl4 v4) Q
        exact k
theorem w68_arrives_59 {L : Nat} {t : List (Nat × Nat)} {hi : Nat → Nat → Int32} {hl : Nat → Nat → Int64} {v : Nat → Nat → Option Nat} {Q : Option Value → rx_H → Prop} {x1 : Int32} {x2 : Int64} {x4 : Int32} {x5 : Int32} (k : ((4 ≤ x5 → rx_aw 68 87 [.ref 77, .int x1, .long x2, rx_no, .int x4, .int 0, rx_no] [] (rx_hp L t hi hl v) Q) ∧ (¬ (4 ≤ x5) → rx_me 69 [.ref 77, .int x1, .int x5, .long x2] (rx_hp L t hi hl v) (fun r h2 => ∃ z9 : Int32, r = some (.int z9) ∧ rx_ok2 L t h2 (fun hi9 hl9 v9 => rx_aw 68 59 [.ref 77, .int x1, .long x2, rx_no, .int (x4 ||| z9), .int (x5 + 1), rx_no] [] (rx_hp L t hi9 hl9 v9) Q))))) : rx_aw 68 59 [.ref 77, .int x1, .long x2, rx_no, .int x4, .int x5, rx_no] [] (rx_hp L t hi hl v) Q := by
  refine rx_aw_s 3 (pc := 59) rfl ?_
  refine rx_w_if (c := 4 ≤ x5) ⟨fun c8 => ?_, fun c8 => ?_⟩
  · have k := k.1 c8
    show rx_aw 68 84 [.ref 77, .int x1, .long x2, rx_no, .int x4, .int x5, rx_no] [] (rx_hp L t hi hl v) Q
    refine rx_aw_s 2 (pc := 84) rfl ?_
    show rx_aw 68 87 [.ref 77, .int x1, .long x2, rx_no, .int x4, .int 0, rx_no] [] (rx_hp L t hi hl v) Q
    exact k
  · have k := k.2 c8
    show rx_aw 68 65 [.ref 77, .int x1, .long x2, rx_no, .int x4, .int x5, rx_no] [] (rx_hp L t hi hl v) Q
    refine rx_aw_s 5 (pc := 65) rfl ?_
    show rx_aw 68 72 [.ref 77, .int x1, .long x2, rx_no, .int x4, .int x5, rx_no] [.long x2, .int x5, .int x1, .ref 77, .int x4] (rx_hp L t hi hl v) Q
    refine rx_w_callI (j := 69) (pc := 72) rfl rfl rfl rfl rfl ?_
    refine rx_aw.mono k (fun r h2 k => ?_)
    obtain ⟨z9, rfl, hi9, hl9, v9, rfl, k⟩ := k
    refine ⟨z9, rfl, ?_⟩
    show rx_aw 68 75 [.ref 77, .int x1, .long x2, rx_no, .int x4, .int x5, rx_no] [.int z9, .int x4] (rx_hp L t hi9 hl9 v9) Q
    refine rx_aw_s 4 (pc := 75) rfl ?_
    show rx_aw 68 59 [.ref 77, .int x1, .long x2, rx_no, .int (x4 ||| z9), .int (x5 + 1), rx_no] [] (rx_hp L t hi9 hl9 v9) Q
    exact k
theorem w68_arrives_87 {L : Nat} {t : List (Nat × Nat)} {hi : Nat → Nat → Int32} {hl : Nat → Nat → Int64} {v : Nat → Nat → Option Nat} {Q : Option Value → rx_H → Prop} {x1 : Int32} {x2 : Int64} {x4 : Int32} {x5 : Int32} (k : ((4 ≤ x5 → ((x4 = 0 ∨ x4 = 1) ∧ Q (some (.int x4)) (rx_hp L t hi hl v))) ∧ (¬ (4 ≤ x5) → ((x4 = 0 → ((x4 = 0 ∨ x4 = 1) ∧ Q (some (.int x4)) (rx_hp L t hi hl v))) ∧ (¬ (x4 = 0) → rx_me 69 [.ref 77, .int x1, .int x5, .long x2] (rx_hp L t hi hl v) (fun r h2 => ∃ z12 : Int32, r = some (.int z12) ∧ rx_ok2 L t h2 (fun hi12 hl12 v12 => ((z12 = 0 → (∃ j14 : Nat, ((4 * x1) + x5) = nI j14 ∧ j14 < 1608 ∧ (∃ j15 : Nat, (((x1 &&& 1) * 256) + ((x5 <<< (6 &&& 31)) ||| (hi12 77 10))) = nI j15 ∧ j15 < 512 ∧ rx_aw 68 87 [.ref 77, .int x1, .long x2, rx_no, .int x4, .int (x5 + 1), rx_no] [] (rx_hp L t (rx_u hi12 82 j15 0) (rx_u hl12 80 j14 0) v12) Q))) ∧ (¬ (z12 = 0) → rx_me 9 [.int (hi12 77 10)] (rx_hp L t hi12 hl12 v12) (fun r h2 => ∃ z16 : Int64, r = some (.long z16) ∧ rx_ok2 L t h2 (fun hi16 hl16 v16 => (∃ j17 : Nat, ((4 * x1) + x5) = nI j17 ∧ j17 < 1608 ∧ (∃ j18 : Nat, (((x1 &&& 1) * 256) + ((x5 <<< (6 &&& 31)) ||| (hi16 77 10))) = nI j18 ∧ j18 < 512 ∧ rx_aw 68 87 [.ref 77, .int x1, .long x2, rx_no, .int x4, .int (x5 + 1), rx_no] [] (rx_hp L t (rx_u hi16 82 j18 0) (rx_u hl16 80 j17 z16) v16) Q))))))))))))) : rx_aw 68 87 [.ref 77, .int x1, .long x2, rx_no, .int x4, .int x5, rx_no] [] (rx_hp L t hi hl v) Q := by
  refine rx_aw_s 3 (pc := 87) rfl ?_
  refine rx_w_if (c := 4 ≤ x5) ⟨fun c10 => ?_, fun c10 => ?_⟩
  · have k := k.1 c10
    show rx_aw 68 165 [.ref 77, .int x1, .long x2, rx_no, .int x4, .int x5, rx_no] [] (rx_hp L t hi hl v) Q
    refine rx_aw_s 1 (pc := 165) rfl ?_
    show rx_aw 68 167 [.ref 77, .int x1, .long x2, rx_no, .int x4, .int x5, rx_no] [.int x4] (rx_hp L t hi hl v) Q
    exact rx_w_zret (pc := 167) rfl rfl k
  · have k := k.2 c10
    show rx_aw 68 93 [.ref 77, .int x1, .long x2, rx_no, .int x4, .int x5, rx_no] [] (rx_hp L t hi hl v) Q
    refine rx_aw_s 2 (pc := 93) rfl ?_
    refine rx_w_if (c := x4 = 0) ⟨fun c11 => ?_, fun c11 => ?_⟩
    · have k := k.1 c11
      show rx_aw 68 165 [.ref 77, .int x1, .long x2, rx_no, .int x4, .int x5, rx_no] [] (rx_hp L t hi hl v) Q
      refine rx_aw_s 1 (pc := 165) rfl ?_
      show rx_aw 68 167 [.ref 77, .int x1, .long x2, rx_no, .int x4, .int x5, rx_no] [.int x4] (rx_hp L t hi hl v) Q
      exact rx_w_zret (pc := 167) rfl rfl k
    · have k := k.2 c11
      show rx_aw 68 98 [.ref 77, .int x1, .long x2, rx_no, .int x4, .int x5, rx_no] [] (rx_hp L t hi hl v) Q
      refine rx_aw_s 4 (pc := 98) rfl ?_
      show rx_aw 68 103 [.ref 77, .int x1, .long x2, rx_no, .int x4, .int x5, rx_no] [.long x2, .int x5, .int x1, .ref 77] (rx_hp L t hi hl v) Q
      refine rx_w_callI (j := 69) (pc := 103) rfl rfl rfl rfl rfl ?_
      refine rx_aw.mono k (fun r h2 k => ?_)
      obtain ⟨z12, rfl, hi12, hl12, v12, rfl, k⟩ := k
      refine ⟨z12, rfl, ?_⟩
      show rx_aw 68 106 [.ref 77, .int x1, .long x2, rx_no, .int x4, .int x5, rx_no] [.int z12] (rx_hp L t hi12 hl12 v12) Q
      refine rx_aw_s 10 (pc := 106) rfl ?_
      refine rx_w_if (c := z12 = 0) ⟨fun c13 => ?_, fun c13 => ?_⟩
      · have k := k.1 c13
        show rx_aw 68 133 [.ref 77, .int x1, .long x2, rx_no, .int x4, .int x5, .int z12] [.int ((4 * x1) + x5), .ref 80] (rx_hp L t hi12 hl12 v12) Q
        refine rx_aw_s 1 (pc := 133) rfl ?_
        show rx_aw 68 134 [.ref 77, .int x1, .long x2, rx_no, .int x4, .int x5, .int z12] [.long 0, .int ((4 * x1) + x5), .ref 80] (rx_hp L t hi12 hl12 v12) Q
        obtain ⟨j14, ej14, hj14, k⟩ := k
        refine rx_aw_last (pc := 134) (n := 1608) j14 ej14 rfl rfl (by decide) rfl hj14 (by decide) ?_
        show rx_aw 68 135 [.ref 77, .int x1, .long x2, rx_no, .int x4, .int x5, .int z12] [] (rx_hp L t hi12 (rx_u hl12 80 j14 0) v12) Q
        refine rx_aw_s 15 (pc := 135) rfl ?_
        show rx_aw 68 158 [.ref 77, .int x1, .long x2, rx_no, .int x4, .int x5, .int z12] [.int 0, .int (((x1 &&& 1) * 256) + ((x5 <<< (6 &&& 31)) ||| (hi12 77 10))), .ref 82] (rx_hp L t hi12 (rx_u hl12 80 j14 0) v12) Q
        obtain ⟨j15, ej15, hj15, k⟩ := k
        refine rx_aw_iast (pc := 158) (n := 512) j15 ej15 rfl rfl (by decide) rfl hj15 (by decide) ?_
        show rx_aw 68 159 [.ref 77, .int x1, .long x2, rx_no, .int x4, .int x5, .int z12] [] (rx_hp L t (rx_u hi12 82 j15 0) (rx_u hl12 80 j14 0) v12) Q
        refine rx_aw_s 2 (pc := 159) rfl ?_
        show rx_aw 68 87 [.ref 77, .int x1, .long x2, rx_no, .int x4, .int (x5 + 1), .int z12] [] (rx_hp L t (rx_u hi12 82 j15 0) (rx_u hl12 80 j14 0) v12) Q
        exact rx_aw_le (ls := [.ref 77, .int x1, .long x2, rx_no, .int x4, .int (x5 + 1), rx_no]) ⟨Or.inr rfl, ⟨Or.inr rfl, ⟨Or.inr rfl, ⟨Or.inl rfl, ⟨Or.inr rfl, ⟨Or.inr rfl, ⟨Or.inl rfl, trivial⟩⟩⟩⟩⟩⟩⟩ k
      · have k := k.2 c13
        show rx_aw 68 123 [.ref 77, .int x1, .long x2, rx_no, .int x4, .int x5, .int z12] [.int ((4 * x1) + x5), .ref 80] (rx_hp L t hi12 hl12 v12) Q
        refine rx_aw_s 2 (pc := 123) rfl ?_
        show rx_aw 68 127 [.ref 77, .int x1, .long x2, rx_no, .int x4, .int x5, .int z12] [.int (hi12 77 10), .int ((4 * x1) + x5), .ref 80] (rx_hp L t hi12 hl12 v12) Q
        refine rx_w_callL (j := 9) (pc := 127) rfl rfl rfl rfl rfl ?_
        refine rx_aw.mono k (fun r h2 k => ?_)
        obtain ⟨z16, rfl, hi16, hl16, v16, rfl, k⟩ := k
        refine ⟨z16, rfl, ?_⟩
        show rx_aw 68 130 [.ref 77, .int x1, .long x2, rx_no, .int x4, .int x5, .int z12] [.long z16, .int ((4 * x1) + x5), .ref 80] (rx_hp L t hi16 hl16 v16) Q
        refine rx_aw_s 1 (pc := 130) rfl ?_
        show rx_aw 68 134 [.ref 77, .int x1, .long x2, rx_no, .int x4, .int x5, .int z12] [.long z16, .int ((4 * x1) + x5), .ref 80] (rx_hp L t hi16 hl16 v16) Q
        obtain ⟨j17, ej17, hj17, k⟩ := k
        refine rx_aw_last (pc := 134) (n := 1608) j17 ej17 rfl rfl (by decide) rfl hj17 (by decide) ?_
        show rx_aw 68 135 [.ref 77, .int x1, .long x2, rx_no, .int x4, .int x5, .int z12] [] (rx_hp L t hi16 (rx_u hl16 80 j17 z16) v16) Q
        refine rx_aw_s 15 (pc := 135) rfl ?_
        show rx_aw 68 158 [.ref 77, .int x1, .long x2, rx_no, .int x4, .int x5, .int z12] [.int 0, .int (((x1 &&& 1) * 256) + ((x5 <<< (6 &&& 31)) ||| (hi16 77 10))), .ref 82] (rx_hp L t hi16 (rx_u hl16 80 j17 z16) v16) Q
        obtain ⟨j18, ej18, hj18, k⟩ := k
        refine rx_aw_iast (pc := 158) (n := 512) j18 ej18 rfl rfl (by decide) rfl hj18 (by decide) ?_
        show rx_aw 68 159 [.ref 77, .int x1, .long x2, rx_no, .int x4, .int x5, .int z12] [] (rx_hp L t (rx_u hi16 82 j18 0) (rx_u hl16 80 j17 z16) v16) Q
        refine rx_aw_s 2 (pc := 159) rfl ?_
        show rx_aw 68 87 [.ref 77, .int x1, .long x2, rx_no, .int x4, .int (x5 + 1), .int z12] [] (rx_hp L t (rx_u hi16 82 j18 0) (rx_u hl16 80 j17 z16) v16) Q
        exact rx_aw_le (ls := [.ref 77, .int x1, .long x2, rx_no, .int x4, .int (x5 + 1), rx_no]) ⟨Or.inr rfl, ⟨Or.inr rfl, ⟨Or.inr rfl, ⟨Or.inl rfl, ⟨Or.inr rfl, ⟨Or.inr rfl, ⟨Or.inl rfl, trivial⟩⟩⟩⟩⟩⟩⟩ k
/-- CartFloor$Search.arrivesHeaded(IIJ)Z -/
theorem w69_arrivesHeaded {L : Nat} {t : List (Nat × Nat)} {hi : Nat → Nat → Int32} {hl : Nat → Nat → Int64} {v : Nat → Nat → Option Nat} {Q : Option Value → rx_H → Prop} {a0 : Int32} {a1 : Int32} {a2 : Int64} (k : (∃ j1 : Nat, ((4 * a0) + a1) = nI j1 ∧ j1 < 1608 ∧ rx_me 9 [.int (hi 77 10)] (rx_hp L t hi hl v) (fun r h2 => ∃ z2 : Int64, r = some (.long z2) ∧ rx_ok2 L t h2 (fun hi2 hl2 v2 => (((lg_cmp ((hl 80 j1) &&& z2) 0) = 0 → ((0 = 0 → Q (some (.int 0)) (rx_hp L t hi2 hl2 v2)) ∧ (¬ (0 = 0) → (((v2 77 8) = none ∧ False) ∨ (∃ q5 : Nat, q5 < 6 ∧ (v2 77 8) = some (rx_ct q5) ∧ rx_me 55 [.int (hi2 77 10), .int a1, .int (-1)] (rx_hp L t hi2 hl2 v2) (fun r h2 => ∃ z6 : Int32, r = some (.int z6) ∧ rx_ok2 L t h2 (fun hi6 hl6 v6 => rx_me 42 [.ref 7, .int (hi2 (rx_ct q5) 5), .int z6] (rx_hp L t hi6 hl6 v6) (fun r h2 => ∃ z7 : Int64, r = some (.long z7) ∧ rx_ok2 L t h2 (fun hi7 hl7 v7 => (((lg_cmp (z7 &&& a2) 0) = 0 → Q (some (.int 1)) (rx_hp L t hi7 hl7 v7)) ∧ (¬ ((lg_cmp (z7 &&& a2) 0) = 0) → Q (some (.int 0)) (rx_hp L t hi7 hl7 v7)))))))))))) ∧ (¬ ((lg_cmp ((hl 80 j1) &&& z2) 0) = 0) → ((1 = 0 → Q (some (.int 0)) (rx_hp L t hi2 hl2 v2)) ∧ (¬ (1 = 0) → (((v2 77 8) = none ∧ False) ∨ (∃ q10 : Nat, q10 < 6 ∧ (v2 77 8) = some (rx_ct q10) ∧ rx_me 55 [.int (hi2 77 10), .int a1, .int (-1)] (rx_hp L t hi2 hl2 v2) (fun r h2 => ∃ z11 : Int32, r = some (.int z11) ∧ rx_ok2 L t h2 (fun hi11 hl11 v11 => rx_me 42 [.ref 7, .int (hi2 (rx_ct q10) 5), .int z11] (rx_hp L t hi11 hl11 v11) (fun r h2 => ∃ z12 : Int64, r = some (.long z12) ∧ rx_ok2 L t h2 (fun hi12 hl12 v12 => (((lg_cmp (z12 &&& a2) 0) = 0 → Q (some (.int 1)) (rx_hp L t hi12 hl12 v12)) ∧ (¬ ((lg_cmp (z12 &&& a2) 0) = 0) → Q (some (.int 0)) (rx_hp L t hi12 hl12 v12))))))))))))))))) : rx_me 69 [.ref 77, .int a0, .int a1, .long a2] (rx_hp L t hi hl v) Q := by
  show rx_aw 69 0 [.ref 77, .int a0, .int a1, .long a2, rx_no, rx_no] [] (rx_hp L t hi hl v) Q
  refine rx_aw_s 7 (pc := 0) rfl ?_
  show rx_aw 69 9 [.ref 77, .int a0, .int a1, .long a2, rx_no, rx_no] [.int ((4 * a0) + a1), .ref 80] (rx_hp L t hi hl v) Q
  obtain ⟨j1, ej1, hj1, k⟩ := k
  refine rx_aw_lald (pc := 9) (n := 1608) j1 ej1 rfl rfl (by decide) rfl hj1 (by decide) ?_
  show rx_aw 69 10 [.ref 77, .int a0, .int a1, .long a2, rx_no, rx_no] [.long (hl 80 j1)] (rx_hp L t hi hl v) Q
  refine rx_aw_s 2 (pc := 10) rfl ?_
  show rx_aw 69 14 [.ref 77, .int a0, .int a1, .long a2, rx_no, rx_no] [.int (hi 77 10), .long (hl 80 j1)] (rx_hp L t hi hl v) Q
  refine rx_w_callL (j := 9) (pc := 14) rfl rfl rfl rfl rfl ?_
  refine rx_aw.mono k (fun r h2 k => ?_)
  obtain ⟨z2, rfl, hi2, hl2, v2, rfl, k⟩ := k
  refine ⟨z2, rfl, ?_⟩
  show rx_aw 69 17 [.ref 77, .int a0, .int a1, .long a2, rx_no, rx_no] [.long z2, .long (hl 80 j1)] (rx_hp L t hi2 hl2 v2) Q
  refine rx_aw_s 4 (pc := 17) rfl ?_
  refine rx_w_if (c := (lg_cmp ((hl 80 j1) &&& z2) 0) = 0) ⟨fun c3 => ?_, fun c3 => ?_⟩
  · have k := k.1 c3
    show rx_aw 69 27 [.ref 77, .int a0, .int a1, .long a2, rx_no, rx_no] [] (rx_hp L t hi2 hl2 v2) Q
    refine rx_aw_s 4 (pc := 27) rfl ?_
    refine rx_w_if (c := 0 = 0) ⟨fun c4 => ?_, fun c4 => ?_⟩
    · have k := k.1 c4
      show rx_aw 69 69 [.ref 77, .int a0, .int a1, .long a2, rx_no, .int 0] [] (rx_hp L t hi2 hl2 v2) Q
      refine rx_aw_s 1 (pc := 69) rfl ?_
      show rx_aw 69 70 [.ref 77, .int a0, .int a1, .long a2, rx_no, .int 0] [.int 0] (rx_hp L t hi2 hl2 v2) Q
      exact rx_aw_ret (pc := 70) rfl k
    · have k := k.2 c4
      show rx_aw 69 35 [.ref 77, .int a0, .int a1, .long a2, rx_no, .int 0] [] (rx_hp L t hi2 hl2 v2) Q
      refine rx_aw_s 4 (pc := 35) rfl ?_
      show rx_aw 69 43 [.ref 77, .int a0, .int a1, .long a2, rx_no, .int 0] [va_rf (v2 77 8), .ref 7] (rx_hp L t hi2 hl2 v2) Q
      rcases k with ⟨eq5, k⟩ | ⟨q5, hq5, eq5, k⟩
      · rw [eq5]
        show rx_aw 69 43 [.ref 77, .int a0, .int a1, .long a2, rx_no, .int 0] [.null, .ref 7] (rx_hp L t hi2 hl2 v2) Q
        exact k.elim
      · rw [eq5]
        show rx_aw 69 43 [.ref 77, .int a0, .int a1, .long a2, rx_no, .int 0] [.ref (rx_ct q5), .ref 7] (rx_hp L t hi2 hl2 v2) Q
        refine rx_w_cg hq5 (pc := 43) rfl (by decide) (by decide) ?_
        show rx_aw 69 46 [.ref 77, .int a0, .int a1, .long a2, rx_no, .int 0] [.int (hi2 (rx_ct q5) 5), .ref 7] (rx_hp L t hi2 hl2 v2) Q
        refine rx_aw_s 4 (pc := 46) rfl ?_
        show rx_aw 69 52 [.ref 77, .int a0, .int a1, .long a2, rx_no, .int 0] [.int (-1), .int a1, .int (hi2 77 10), .int (hi2 (rx_ct q5) 5), .ref 7] (rx_hp L t hi2 hl2 v2) Q
        refine rx_w_callI (j := 55) (pc := 52) rfl rfl rfl rfl rfl ?_
        refine rx_aw.mono k (fun r h2 k => ?_)
        obtain ⟨z6, rfl, hi6, hl6, v6, rfl, k⟩ := k
        refine ⟨z6, rfl, ?_⟩
        show rx_aw 69 55 [.ref 77, .int a0, .int a1, .long a2, rx_no, .int 0] [.int z6, .int (hi2 (rx_ct q5) 5), .ref 7] (rx_hp L t hi6 hl6 v6) Q
        refine rx_w_callL (j := 42) (pc := 55) rfl rfl rfl rfl rfl ?_
        refine rx_aw.mono k (fun r h2 k => ?_)
        obtain ⟨z7, rfl, hi7, hl7, v7, rfl, k⟩ := k
        refine ⟨z7, rfl, ?_⟩
        show rx_aw 69 58 [.ref 77, .int a0, .int a1, .long a2, rx_no, .int 0] [.long z7] (rx_hp L t hi7 hl7 v7) Q
        refine rx_aw_s 5 (pc := 58) rfl ?_
        refine rx_w_ifn (c := (lg_cmp (z7 &&& a2) 0) = 0) ⟨fun c8 => ?_, fun c8 => ?_⟩
        · have k := k.1 c8
          show rx_aw 69 65 [.ref 77, .int a0, .int a1, .long a2, rx_no, .int 0] [] (rx_hp L t hi7 hl7 v7) Q
          refine rx_aw_s 2 (pc := 65) rfl ?_
          show rx_aw 69 70 [.ref 77, .int a0, .int a1, .long a2, rx_no, .int 0] [.int 1] (rx_hp L t hi7 hl7 v7) Q
          exact rx_aw_ret (pc := 70) rfl k
        · have k := k.2 c8
          show rx_aw 69 69 [.ref 77, .int a0, .int a1, .long a2, rx_no, .int 0] [] (rx_hp L t hi7 hl7 v7) Q
          refine rx_aw_s 1 (pc := 69) rfl ?_
          show rx_aw 69 70 [.ref 77, .int a0, .int a1, .long a2, rx_no, .int 0] [.int 0] (rx_hp L t hi7 hl7 v7) Q
          exact rx_aw_ret (pc := 70) rfl k
  · have k := k.2 c3
    show rx_aw 69 23 [.ref 77, .int a0, .int a1, .long a2, rx_no, rx_no] [] (rx_hp L t hi2 hl2 v2) Q
    refine rx_aw_s 5 (pc := 23) rfl ?_
    refine rx_w_if (c := 1 = 0) ⟨fun c9 => ?_, fun c9 => ?_⟩
    · have k := k.1 c9
      show rx_aw 69 69 [.ref 77, .int a0, .int a1, .long a2, rx_no, .int 1] [] (rx_hp L t hi2 hl2 v2) Q
      refine rx_aw_s 1 (pc := 69) rfl ?_
      show rx_aw 69 70 [.ref 77, .int a0, .int a1, .long a2, rx_no, .int 1] [.int 0] (rx_hp L t hi2 hl2 v2) Q
      exact rx_aw_ret (pc := 70) rfl k
    · have k := k.2 c9
      show rx_aw 69 35 [.ref 77, .int a0, .int a1, .long a2, rx_no, .int 1] [] (rx_hp L t hi2 hl2 v2) Q
      refine rx_aw_s 4 (pc := 35) rfl ?_
      show rx_aw 69 43 [.ref 77, .int a0, .int a1, .long a2, rx_no, .int 1] [va_rf (v2 77 8), .ref 7] (rx_hp L t hi2 hl2 v2) Q
      rcases k with ⟨eq10, k⟩ | ⟨q10, hq10, eq10, k⟩
      · rw [eq10]
        show rx_aw 69 43 [.ref 77, .int a0, .int a1, .long a2, rx_no, .int 1] [.null, .ref 7] (rx_hp L t hi2 hl2 v2) Q
        exact k.elim
      · rw [eq10]
        show rx_aw 69 43 [.ref 77, .int a0, .int a1, .long a2, rx_no, .int 1] [.ref (rx_ct q10), .ref 7] (rx_hp L t hi2 hl2 v2) Q
        refine rx_w_cg hq10 (pc := 43) rfl (by decide) (by decide) ?_
        show rx_aw 69 46 [.ref 77, .int a0, .int a1, .long a2, rx_no, .int 1] [.int (hi2 (rx_ct q10) 5), .ref 7] (rx_hp L t hi2 hl2 v2) Q
        refine rx_aw_s 4 (pc := 46) rfl ?_
        show rx_aw 69 52 [.ref 77, .int a0, .int a1, .long a2, rx_no, .int 1] [.int (-1), .int a1, .int (hi2 77 10), .int (hi2 (rx_ct q10) 5), .ref 7] (rx_hp L t hi2 hl2 v2) Q
        refine rx_w_callI (j := 55) (pc := 52) rfl rfl rfl rfl rfl ?_
        refine rx_aw.mono k (fun r h2 k => ?_)
        obtain ⟨z11, rfl, hi11, hl11, v11, rfl, k⟩ := k
        refine ⟨z11, rfl, ?_⟩
        show rx_aw 69 55 [.ref 77, .int a0, .int a1, .long a2, rx_no, .int 1] [.int z11, .int (hi2 (rx_ct q10) 5), .ref 7] (rx_hp L t hi11 hl11 v11) Q
        refine rx_w_callL (j := 42) (pc := 55) rfl rfl rfl rfl rfl ?_
        refine rx_aw.mono k (fun r h2 k => ?_)
        obtain ⟨z12, rfl, hi12, hl12, v12, rfl, k⟩ := k
        refine ⟨z12, rfl, ?_⟩
        show rx_aw 69 58 [.ref 77, .int a0, .int a1, .long a2, rx_no, .int 1] [.long z12] (rx_hp L t hi12 hl12 v12) Q
        refine rx_aw_s 5 (pc := 58) rfl ?_
        refine rx_w_ifn (c := (lg_cmp (z12 &&& a2) 0) = 0) ⟨fun c13 => ?_, fun c13 => ?_⟩
        · have k := k.1 c13
          show rx_aw 69 65 [.ref 77, .int a0, .int a1, .long a2, rx_no, .int 1] [] (rx_hp L t hi12 hl12 v12) Q
          refine rx_aw_s 2 (pc := 65) rfl ?_
          show rx_aw 69 70 [.ref 77, .int a0, .int a1, .long a2, rx_no, .int 1] [.int 1] (rx_hp L t hi12 hl12 v12) Q
          exact rx_aw_ret (pc := 70) rfl k
        · have k := k.2 c13
          show rx_aw 69 69 [.ref 77, .int a0, .int a1, .long a2, rx_no, .int 1] [] (rx_hp L t hi12 hl12 v12) Q
          refine rx_aw_s 1 (pc := 69) rfl ?_
          show rx_aw 69 70 [.ref 77, .int a0, .int a1, .long a2, rx_no, .int 1] [.int 0] (rx_hp L t hi12 hl12 v12) Q
          exact rx_aw_ret (pc := 70) rfl k
/-- CartFloor$Search.advanceLong(I)V -/
theorem w70_advanceLong {L : Nat} {t : List (Nat × Nat)} {hi : Nat → Nat → Int32} {hl : Nat → Nat → Int64} {v : Nat → Nat → Option Nat} {Q : Option Value → rx_H → Prop} {a0 : Int32} (k : rx_me 71 [.ref 77, .int (a0 + 1)] (rx_hp L t hi hl v) (fun r h2 => ∃ z1 : Int64, r = some (.long z1) ∧ rx_ok2 L t h2 (fun hi1 hl1 v1 => rx_me 71 [.ref 77, .int a0] (rx_hp L t hi1 hl1 v1) (fun r h2 => ∃ z2 : Int64, r = some (.long z2) ∧ rx_ok2 L t h2 (fun hi2 hl2 v2 => rx_aw 70 28 [.ref 77, .int a0, .long (z1 ^^^ (-1)), rx_no, .long ((z1 ^^^ (-1)) &&& (z2 ^^^ (-1))), rx_no, .int 0, rx_no, rx_no, rx_no, rx_no, rx_no, rx_no] [] (rx_hp L t hi2 hl2 v2) Q))))) : rx_me 70 [.ref 77, .int a0] (rx_hp L t hi hl v) Q := by
  show rx_aw 70 0 [.ref 77, .int a0, rx_no, rx_no, rx_no, rx_no, rx_no, rx_no, rx_no, rx_no, rx_no, rx_no, rx_no] [] (rx_hp L t hi hl v) Q
  refine rx_aw_s 4 (pc := 0) rfl ?_
  show rx_aw 70 4 [.ref 77, .int a0, rx_no, rx_no, rx_no, rx_no, rx_no, rx_no, rx_no, rx_no, rx_no, rx_no, rx_no] [.int (a0 + 1), .ref 77] (rx_hp L t hi hl v) Q
  refine rx_w_callL (j := 71) (pc := 4) rfl rfl rfl rfl rfl ?_
  refine rx_aw.mono k (fun r h2 k => ?_)
  obtain ⟨z1, rfl, hi1, hl1, v1, rfl, k⟩ := k
  refine ⟨z1, rfl, ?_⟩
  show rx_aw 70 7 [.ref 77, .int a0, rx_no, rx_no, rx_no, rx_no, rx_no, rx_no, rx_no, rx_no, rx_no, rx_no, rx_no] [.long z1] (rx_hp L t hi1 hl1 v1) Q
  refine rx_aw_s 6 (pc := 7) rfl ?_
  show rx_aw 70 15 [.ref 77, .int a0, .long (z1 ^^^ (-1)), rx_no, rx_no, rx_no, rx_no, rx_no, rx_no, rx_no, rx_no, rx_no, rx_no] [.int a0, .ref 77, .long (z1 ^^^ (-1))] (rx_hp L t hi1 hl1 v1) Q
  refine rx_w_callL (j := 71) (pc := 15) rfl rfl rfl rfl rfl ?_
  refine rx_aw.mono k (fun r h2 k => ?_)
  obtain ⟨z2, rfl, hi2, hl2, v2, rfl, k⟩ := k
  refine ⟨z2, rfl, ?_⟩
  show rx_aw 70 18 [.ref 77, .int a0, .long (z1 ^^^ (-1)), rx_no, rx_no, rx_no, rx_no, rx_no, rx_no, rx_no, rx_no, rx_no, rx_no] [.long z2, .long (z1 ^^^ (-1))] (rx_hp L t hi2 hl2 v2) Q
  refine rx_aw_s 6 (pc := 18) rfl ?_
  show rx_aw 70 28 [.ref 77, .int a0, .long (z1 ^^^ (-1)), rx_no, .long ((z1 ^^^ (-1)) &&& (z2 ^^^ (-1))), rx_no, .int 0, rx_no, rx_no, rx_no, rx_no, rx_no, rx_no] [] (rx_hp L t hi2 hl2 v2) Q
  exact k
theorem w70_advanceLong_28 {L : Nat} {t : List (Nat × Nat)} {hi : Nat → Nat → Int32} {hl : Nat → Nat → Int64} {v : Nat → Nat → Option Nat} {Q : Option Value → rx_H → Prop} {x1 : Int32} {x2 : Int64} {x4 : Int64} {x6 : Int32} (k : ((4 ≤ x6 → Q none (rx_hp L t hi hl v)) ∧ (¬ (4 ≤ x6) → (∃ j4 : Nat, ((4 * x1) + x6) = nI j4 ∧ j4 < 1608 ∧ rx_me 12 [.ref 7, .long (hl 80 j4), .int x6] (rx_hp L t hi hl v) (fun r h2 => ∃ z5 : Int64, r = some (.long z5) ∧ rx_ok2 L t h2 (fun hi5 hl5 v5 => rx_me 12 [.ref 7, .long (hl 80 j4), .int (x6 ^^^ 2)] (rx_hp L t hi5 hl5 v5) (fun r h2 => ∃ z6 : Int64, r = some (.long z6) ∧ rx_ok2 L t h2 (fun hi6 hl6 v6 => rx_me 12 [.ref 7, .long x2, .int x6] (rx_hp L t hi6 hl6 v6) (fun r h2 => ∃ z7 : Int64, r = some (.long z7) ∧ rx_ok2 L t h2 (fun hi7 hl7 v7 => (∃ j8 : Nat, ((4 * x1) + ((x6 + 1) &&& 3)) = nI j8 ∧ j8 < 1608 ∧ rx_me 72 [.ref 77, .long (hl7 80 j8), .int ((x6 + 1) &&& 3), .int x6, .long x4] (rx_hp L t hi7 hl7 v7) (fun r h2 => ∃ z9 : Int64, r = some (.long z9) ∧ rx_ok2 L t h2 (fun hi9 hl9 v9 => (∃ j10 : Nat, ((4 * x1) + ((x6 + 3) &&& 3)) = nI j10 ∧ j10 < 1608 ∧ rx_me 72 [.ref 77, .long (hl9 80 j10), .int ((x6 + 3) &&& 3), .int x6, .long x4] (rx_hp L t hi9 hl9 v9) (fun r h2 => ∃ z11 : Int64, r = some (.long z11) ∧ rx_ok2 L t h2 (fun hi11 hl11 v11 => (∃ j12 : Nat, (((4 * x1) + 4) + x6) = nI j12 ∧ j12 < 1608 ∧ rx_aw 70 28 [.ref 77, .int x1, .long x2, rx_no, .long x4, rx_no, .int (x6 + 1), rx_no, rx_no, rx_no, rx_no, rx_no, rx_no] [] (rx_hp L t hi11 (rx_u hl11 80 j12 (((((((hl 80 j4) ||| z5) ||| z6) &&& x2) &&& z7) ||| z9) ||| z11)) v11) Q))))))))))))))))) : rx_aw 70 28 [.ref 77, .int x1, .long x2, rx_no, .long x4, rx_no, .int x6, rx_no, rx_no, rx_no, rx_no, rx_no, rx_no] [] (rx_hp L t hi hl v) Q := by
  refine rx_aw_s 3 (pc := 28) rfl ?_
  refine rx_w_if (c := 4 ≤ x6) ⟨fun c3 => ?_, fun c3 => ?_⟩
  · have k := k.1 c3
    show rx_aw 70 183 [.ref 77, .int x1, .long x2, rx_no, .long x4, rx_no, .int x6, rx_no, rx_no, rx_no, rx_no, rx_no, rx_no] [] (rx_hp L t hi hl v) Q
    exact rx_aw_ret (pc := 183) rfl k
  · have k := k.2 c3
    show rx_aw 70 34 [.ref 77, .int x1, .long x2, rx_no, .long x4, rx_no, .int x6, rx_no, rx_no, rx_no, rx_no, rx_no, rx_no] [] (rx_hp L t hi hl v) Q
    refine rx_aw_s 7 (pc := 34) rfl ?_
    show rx_aw 70 44 [.ref 77, .int x1, .long x2, rx_no, .long x4, rx_no, .int x6, rx_no, rx_no, rx_no, rx_no, rx_no, rx_no] [.int ((4 * x1) + x6), .ref 80] (rx_hp L t hi hl v) Q
    obtain ⟨j4, ej4, hj4, k⟩ := k
    refine rx_aw_lald (pc := 44) (n := 1608) j4 ej4 rfl rfl (by decide) rfl hj4 (by decide) ?_
    show rx_aw 70 45 [.ref 77, .int x1, .long x2, rx_no, .long x4, rx_no, .int x6, rx_no, rx_no, rx_no, rx_no, rx_no, rx_no] [.long (hl 80 j4)] (rx_hp L t hi hl v) Q
    refine rx_aw_s 6 (pc := 45) rfl ?_
    show rx_aw 70 57 [.ref 77, .int x1, .long x2, rx_no, .long x4, rx_no, .int x6, .long (hl 80 j4), rx_no, rx_no, rx_no, rx_no, rx_no] [.int x6, .long (hl 80 j4), .ref 7, .long (hl 80 j4)] (rx_hp L t hi hl v) Q
    refine rx_w_callL (j := 12) (pc := 57) rfl rfl rfl rfl rfl ?_
    refine rx_aw.mono k (fun r h2 k => ?_)
    obtain ⟨z5, rfl, hi5, hl5, v5, rfl, k⟩ := k
    refine ⟨z5, rfl, ?_⟩
    show rx_aw 70 60 [.ref 77, .int x1, .long x2, rx_no, .long x4, rx_no, .int x6, .long (hl 80 j4), rx_no, rx_no, rx_no, rx_no, rx_no] [.long z5, .long (hl 80 j4)] (rx_hp L t hi5 hl5 v5) Q
    refine rx_aw_s 7 (pc := 60) rfl ?_
    show rx_aw 70 71 [.ref 77, .int x1, .long x2, rx_no, .long x4, rx_no, .int x6, .long (hl 80 j4), rx_no, rx_no, rx_no, rx_no, rx_no] [.int (x6 ^^^ 2), .long (hl 80 j4), .ref 7, .long ((hl 80 j4) ||| z5)] (rx_hp L t hi5 hl5 v5) Q
    refine rx_w_callL (j := 12) (pc := 71) rfl rfl rfl rfl rfl ?_
    refine rx_aw.mono k (fun r h2 k => ?_)
    obtain ⟨z6, rfl, hi6, hl6, v6, rfl, k⟩ := k
    refine ⟨z6, rfl, ?_⟩
    show rx_aw 70 74 [.ref 77, .int x1, .long x2, rx_no, .long x4, rx_no, .int x6, .long (hl 80 j4), rx_no, rx_no, rx_no, rx_no, rx_no] [.long z6, .long ((hl 80 j4) ||| z5)] (rx_hp L t hi6 hl6 v6) Q
    refine rx_aw_s 9 (pc := 74) rfl ?_
    show rx_aw 70 88 [.ref 77, .int x1, .long x2, rx_no, .long x4, rx_no, .int x6, .long (hl 80 j4), rx_no, .long (((hl 80 j4) ||| z5) ||| z6), rx_no, rx_no, rx_no] [.int x6, .long x2, .ref 7, .long ((((hl 80 j4) ||| z5) ||| z6) &&& x2)] (rx_hp L t hi6 hl6 v6) Q
    refine rx_w_callL (j := 12) (pc := 88) rfl rfl rfl rfl rfl ?_
    refine rx_aw.mono k (fun r h2 k => ?_)
    obtain ⟨z7, rfl, hi7, hl7, v7, rfl, k⟩ := k
    refine ⟨z7, rfl, ?_⟩
    show rx_aw 70 91 [.ref 77, .int x1, .long x2, rx_no, .long x4, rx_no, .int x6, .long (hl 80 j4), rx_no, .long (((hl 80 j4) ||| z5) ||| z6), rx_no, rx_no, rx_no] [.long z7, .long ((((hl 80 j4) ||| z5) ||| z6) &&& x2)] (rx_hp L t hi7 hl7 v7) Q
    refine rx_aw_s 15 (pc := 91) rfl ?_
    show rx_aw 70 111 [.ref 77, .int x1, .long x2, rx_no, .long x4, rx_no, .int x6, .long (hl 80 j4), rx_no, .long (((hl 80 j4) ||| z5) ||| z6), rx_no, .long (((((hl 80 j4) ||| z5) ||| z6) &&& x2) &&& z7), rx_no] [.int ((4 * x1) + ((x6 + 1) &&& 3)), .ref 80, .ref 77, .long (((((hl 80 j4) ||| z5) ||| z6) &&& x2) &&& z7)] (rx_hp L t hi7 hl7 v7) Q
    obtain ⟨j8, ej8, hj8, k⟩ := k
    refine rx_aw_lald (pc := 111) (n := 1608) j8 ej8 rfl rfl (by decide) rfl hj8 (by decide) ?_
    show rx_aw 70 112 [.ref 77, .int x1, .long x2, rx_no, .long x4, rx_no, .int x6, .long (hl 80 j4), rx_no, .long (((hl 80 j4) ||| z5) ||| z6), rx_no, .long (((((hl 80 j4) ||| z5) ||| z6) &&& x2) &&& z7), rx_no] [.long (hl7 80 j8), .ref 77, .long (((((hl 80 j4) ||| z5) ||| z6) &&& x2) &&& z7)] (rx_hp L t hi7 hl7 v7) Q
    refine rx_aw_s 7 (pc := 112) rfl ?_
    show rx_aw 70 122 [.ref 77, .int x1, .long x2, rx_no, .long x4, rx_no, .int x6, .long (hl 80 j4), rx_no, .long (((hl 80 j4) ||| z5) ||| z6), rx_no, .long (((((hl 80 j4) ||| z5) ||| z6) &&& x2) &&& z7), rx_no] [.long x4, .int x6, .int ((x6 + 1) &&& 3), .long (hl7 80 j8), .ref 77, .long (((((hl 80 j4) ||| z5) ||| z6) &&& x2) &&& z7)] (rx_hp L t hi7 hl7 v7) Q
    refine rx_w_callL (j := 72) (pc := 122) rfl rfl rfl rfl rfl ?_
    refine rx_aw.mono k (fun r h2 k => ?_)
    obtain ⟨z9, rfl, hi9, hl9, v9, rfl, k⟩ := k
    refine ⟨z9, rfl, ?_⟩
    show rx_aw 70 125 [.ref 77, .int x1, .long x2, rx_no, .long x4, rx_no, .int x6, .long (hl 80 j4), rx_no, .long (((hl 80 j4) ||| z5) ||| z6), rx_no, .long (((((hl 80 j4) ||| z5) ||| z6) &&& x2) &&& z7), rx_no] [.long z9, .long (((((hl 80 j4) ||| z5) ||| z6) &&& x2) &&& z7)] (rx_hp L t hi9 hl9 v9) Q
    refine rx_aw_s 15 (pc := 125) rfl ?_
    show rx_aw 70 145 [.ref 77, .int x1, .long x2, rx_no, .long x4, rx_no, .int x6, .long (hl 80 j4), rx_no, .long (((hl 80 j4) ||| z5) ||| z6), rx_no, .long ((((((hl 80 j4) ||| z5) ||| z6) &&& x2) &&& z7) ||| z9), rx_no] [.int ((4 * x1) + ((x6 + 3) &&& 3)), .ref 80, .ref 77, .long ((((((hl 80 j4) ||| z5) ||| z6) &&& x2) &&& z7) ||| z9)] (rx_hp L t hi9 hl9 v9) Q
    obtain ⟨j10, ej10, hj10, k⟩ := k
    refine rx_aw_lald (pc := 145) (n := 1608) j10 ej10 rfl rfl (by decide) rfl hj10 (by decide) ?_
    show rx_aw 70 146 [.ref 77, .int x1, .long x2, rx_no, .long x4, rx_no, .int x6, .long (hl 80 j4), rx_no, .long (((hl 80 j4) ||| z5) ||| z6), rx_no, .long ((((((hl 80 j4) ||| z5) ||| z6) &&& x2) &&& z7) ||| z9), rx_no] [.long (hl9 80 j10), .ref 77, .long ((((((hl 80 j4) ||| z5) ||| z6) &&& x2) &&& z7) ||| z9)] (rx_hp L t hi9 hl9 v9) Q
    refine rx_aw_s 7 (pc := 146) rfl ?_
    show rx_aw 70 156 [.ref 77, .int x1, .long x2, rx_no, .long x4, rx_no, .int x6, .long (hl 80 j4), rx_no, .long (((hl 80 j4) ||| z5) ||| z6), rx_no, .long ((((((hl 80 j4) ||| z5) ||| z6) &&& x2) &&& z7) ||| z9), rx_no] [.long x4, .int x6, .int ((x6 + 3) &&& 3), .long (hl9 80 j10), .ref 77, .long ((((((hl 80 j4) ||| z5) ||| z6) &&& x2) &&& z7) ||| z9)] (rx_hp L t hi9 hl9 v9) Q
    refine rx_w_callL (j := 72) (pc := 156) rfl rfl rfl rfl rfl ?_
    refine rx_aw.mono k (fun r h2 k => ?_)
    obtain ⟨z11, rfl, hi11, hl11, v11, rfl, k⟩ := k
    refine ⟨z11, rfl, ?_⟩
    show rx_aw 70 159 [.ref 77, .int x1, .long x2, rx_no, .long x4, rx_no, .int x6, .long (hl 80 j4), rx_no, .long (((hl 80 j4) ||| z5) ||| z6), rx_no, .long ((((((hl 80 j4) ||| z5) ||| z6) &&& x2) &&& z7) ||| z9), rx_no] [.long z11, .long ((((((hl 80 j4) ||| z5) ||| z6) &&& x2) &&& z7) ||| z9)] (rx_hp L t hi11 hl11 v11) Q
    refine rx_aw_s 12 (pc := 159) rfl ?_
    show rx_aw 70 176 [.ref 77, .int x1, .long x2, rx_no, .long x4, rx_no, .int x6, .long (hl 80 j4), rx_no, .long (((hl 80 j4) ||| z5) ||| z6), rx_no, .long (((((((hl 80 j4) ||| z5) ||| z6) &&& x2) &&& z7) ||| z9) ||| z11), rx_no] [.long (((((((hl 80 j4) ||| z5) ||| z6) &&& x2) &&& z7) ||| z9) ||| z11), .int (((4 * x1) + 4) + x6), .ref 80] (rx_hp L t hi11 hl11 v11) Q
    obtain ⟨j12, ej12, hj12, k⟩ := k
    refine rx_aw_last (pc := 176) (n := 1608) j12 ej12 rfl rfl (by decide) rfl hj12 (by decide) ?_
    show rx_aw 70 177 [.ref 77, .int x1, .long x2, rx_no, .long x4, rx_no, .int x6, .long (hl 80 j4), rx_no, .long (((hl 80 j4) ||| z5) ||| z6), rx_no, .long (((((((hl 80 j4) ||| z5) ||| z6) &&& x2) &&& z7) ||| z9) ||| z11), rx_no] [] (rx_hp L t hi11 (rx_u hl11 80 j12 (((((((hl 80 j4) ||| z5) ||| z6) &&& x2) &&& z7) ||| z9) ||| z11)) v11) Q
    refine rx_aw_s 2 (pc := 177) rfl ?_
    show rx_aw 70 28 [.ref 77, .int x1, .long x2, rx_no, .long x4, rx_no, .int (x6 + 1), .long (hl 80 j4), rx_no, .long (((hl 80 j4) ||| z5) ||| z6), rx_no, .long (((((((hl 80 j4) ||| z5) ||| z6) &&& x2) &&& z7) ||| z9) ||| z11), rx_no] [] (rx_hp L t hi11 (rx_u hl11 80 j12 (((((((hl 80 j4) ||| z5) ||| z6) &&& x2) &&& z7) ||| z9) ||| z11)) v11) Q
    exact rx_aw_le (ls := [.ref 77, .int x1, .long x2, rx_no, .long x4, rx_no, .int (x6 + 1), rx_no, rx_no, rx_no, rx_no, rx_no, rx_no]) ⟨Or.inr rfl, ⟨Or.inr rfl, ⟨Or.inr rfl, ⟨Or.inl rfl, ⟨Or.inr rfl, ⟨Or.inl rfl, ⟨Or.inr rfl, ⟨Or.inl rfl, ⟨Or.inl rfl, ⟨Or.inl rfl, ⟨Or.inl rfl, ⟨Or.inl rfl, ⟨Or.inl rfl, trivial⟩⟩⟩⟩⟩⟩⟩⟩⟩⟩⟩⟩⟩ k
/-- CartFloor$Search.tabooAt(I)J -/
theorem w71_tabooAt {L : Nat} {t : List (Nat × Nat)} {hi : Nat → Nat → Int32} {hl : Nat → Nat → Int64} {v : Nat → Nat → Option Nat} {Q : Option Value → rx_H → Prop} {a0 : Int32} (k : (∃ j1 : Nat, (if (hi 77 9) < a0 then (hi 77 9) else a0) = nI j1 ∧ j1 < 402 ∧ Q (some (.long (hl 78 j1))) (rx_hp L t hi hl v))) : rx_me 71 [.ref 77, .int a0] (rx_hp L t hi hl v) Q := by
  show rx_aw 71 0 [.ref 77, .int a0] [] (rx_hp L t hi hl v) Q
  refine rx_aw_s 6 (pc := 0) rfl ?_
  show rx_aw 71 12 [.ref 77, .int a0] [.int (if (hi 77 9) < a0 then (hi 77 9) else a0), .ref 78] (rx_hp L t hi hl v) Q
  obtain ⟨j1, ej1, hj1, k⟩ := k
  refine rx_aw_lald (pc := 12) (n := 402) j1 ej1 rfl rfl (by decide) rfl hj1 (by decide) ?_
  show rx_aw 71 13 [.ref 77, .int a0] [.long (hl 78 j1)] (rx_hp L t hi hl v) Q
  exact rx_aw_ret (pc := 13) rfl k
/-- CartFloor$Search.turned(JIIJ)J -/
theorem w72_turned {L : Nat} {t : List (Nat × Nat)} {hi : Nat → Nat → Int32} {hl : Nat → Nat → Int64} {v : Nat → Nat → Option Nat} {Q : Option Value → rx_H → Prop} {a0 : Int64} {a1 : Int32} {a2 : Int32} {a3 : Int64} (k : rx_me 12 [.ref 7, .long a3, .int (a2 ^^^ 2)] (rx_hp L t hi hl v) (fun r h2 => ∃ z1 : Int64, r = some (.long z1) ∧ rx_ok2 L t h2 (fun hi1 hl1 v1 => rx_me 12 [.ref 7, .long a3, .int a1] (rx_hp L t hi1 hl1 v1) (fun r h2 => ∃ z2 : Int64, r = some (.long z2) ∧ rx_ok2 L t h2 (fun hi2 hl2 v2 => rx_me 12 [.ref 7, .long z1, .int a1] (rx_hp L t hi2 hl2 v2) (fun r h2 => ∃ z3 : Int64, r = some (.long z3) ∧ rx_ok2 L t h2 (fun hi3 hl3 v3 => rx_me 12 [.ref 7, .long ((((a0 &&& a3) &&& z2) &&& z1) &&& z3), .int (a1 ^^^ 2)] (rx_hp L t hi3 hl3 v3) (fun r h2 => ∃ z4 : Int64, r = some (.long z4) ∧ rx_ok2 L t h2 (fun hi4 hl4 v4 => rx_me 12 [.ref 7, .long z4, .int a2] (rx_hp L t hi4 hl4 v4) (fun r h2 => ∃ z5 : Int64, r = some (.long z5) ∧ rx_ok2 L t h2 (fun hi5 hl5 v5 => Q (some (.long z5)) (rx_hp L t hi5 hl5 v5)))))))))))) : rx_me 72 [.ref 77, .long a0, .int a1, .int a2, .long a3] (rx_hp L t hi hl v) Q := by
  show rx_aw 72 0 [.ref 77, .long a0, rx_no, .int a1, .int a2, .long a3, rx_no, rx_no, rx_no, rx_no, rx_no] [] (rx_hp L t hi hl v) Q
  refine rx_aw_s 6 (pc := 0) rfl ?_
  show rx_aw 72 10 [.ref 77, .long a0, rx_no, .int a1, .int a2, .long a3, rx_no, rx_no, rx_no, rx_no, rx_no] [.int (a2 ^^^ 2), .long a3, .ref 7] (rx_hp L t hi hl v) Q
  refine rx_w_callL (j := 12) (pc := 10) rfl rfl rfl rfl rfl ?_
  refine rx_aw.mono k (fun r h2 k => ?_)
  obtain ⟨z1, rfl, hi1, hl1, v1, rfl, k⟩ := k
  refine ⟨z1, rfl, ?_⟩
  show rx_aw 72 13 [.ref 77, .long a0, rx_no, .int a1, .int a2, .long a3, rx_no, rx_no, rx_no, rx_no, rx_no] [.long z1] (rx_hp L t hi1 hl1 v1) Q
  refine rx_aw_s 8 (pc := 13) rfl ?_
  show rx_aw 72 26 [.ref 77, .long a0, rx_no, .int a1, .int a2, .long a3, rx_no, .long z1, rx_no, rx_no, rx_no] [.int a1, .long a3, .ref 7, .long (a0 &&& a3)] (rx_hp L t hi1 hl1 v1) Q
  refine rx_w_callL (j := 12) (pc := 26) rfl rfl rfl rfl rfl ?_
  refine rx_aw.mono k (fun r h2 k => ?_)
  obtain ⟨z2, rfl, hi2, hl2, v2, rfl, k⟩ := k
  refine ⟨z2, rfl, ?_⟩
  show rx_aw 72 29 [.ref 77, .long a0, rx_no, .int a1, .int a2, .long a3, rx_no, .long z1, rx_no, rx_no, rx_no] [.long z2, .long (a0 &&& a3)] (rx_hp L t hi2 hl2 v2) Q
  refine rx_aw_s 7 (pc := 29) rfl ?_
  show rx_aw 72 40 [.ref 77, .long a0, rx_no, .int a1, .int a2, .long a3, rx_no, .long z1, rx_no, rx_no, rx_no] [.int a1, .long z1, .ref 7, .long (((a0 &&& a3) &&& z2) &&& z1)] (rx_hp L t hi2 hl2 v2) Q
  refine rx_w_callL (j := 12) (pc := 40) rfl rfl rfl rfl rfl ?_
  refine rx_aw.mono k (fun r h2 k => ?_)
  obtain ⟨z3, rfl, hi3, hl3, v3, rfl, k⟩ := k
  refine ⟨z3, rfl, ?_⟩
  show rx_aw 72 43 [.ref 77, .long a0, rx_no, .int a1, .int a2, .long a3, rx_no, .long z1, rx_no, rx_no, rx_no] [.long z3, .long (((a0 &&& a3) &&& z2) &&& z1)] (rx_hp L t hi3 hl3 v3) Q
  refine rx_aw_s 10 (pc := 43) rfl ?_
  show rx_aw 72 59 [.ref 77, .long a0, rx_no, .int a1, .int a2, .long a3, rx_no, .long z1, rx_no, .long ((((a0 &&& a3) &&& z2) &&& z1) &&& z3), rx_no] [.int (a1 ^^^ 2), .long ((((a0 &&& a3) &&& z2) &&& z1) &&& z3), .ref 7, .ref 7] (rx_hp L t hi3 hl3 v3) Q
  refine rx_w_callL (j := 12) (pc := 59) rfl rfl rfl rfl rfl ?_
  refine rx_aw.mono k (fun r h2 k => ?_)
  obtain ⟨z4, rfl, hi4, hl4, v4, rfl, k⟩ := k
  refine ⟨z4, rfl, ?_⟩
  show rx_aw 72 62 [.ref 77, .long a0, rx_no, .int a1, .int a2, .long a3, rx_no, .long z1, rx_no, .long ((((a0 &&& a3) &&& z2) &&& z1) &&& z3), rx_no] [.long z4, .ref 7] (rx_hp L t hi4 hl4 v4) Q
  refine rx_aw_s 1 (pc := 62) rfl ?_
  show rx_aw 72 64 [.ref 77, .long a0, rx_no, .int a1, .int a2, .long a3, rx_no, .long z1, rx_no, .long ((((a0 &&& a3) &&& z2) &&& z1) &&& z3), rx_no] [.int a2, .long z4, .ref 7] (rx_hp L t hi4 hl4 v4) Q
  refine rx_w_callL (j := 12) (pc := 64) rfl rfl rfl rfl rfl ?_
  refine rx_aw.mono k (fun r h2 k => ?_)
  obtain ⟨z5, rfl, hi5, hl5, v5, rfl, k⟩ := k
  refine ⟨z5, rfl, ?_⟩
  show rx_aw 72 67 [.ref 77, .long a0, rx_no, .int a1, .int a2, .long a3, rx_no, .long z1, rx_no, .long ((((a0 &&& a3) &&& z2) &&& z1) &&& z3), rx_no] [.long z5] (rx_hp L t hi5 hl5 v5) Q
  exact rx_aw_ret (pc := 67) rfl k
/-- CartFloor$Search.advance(I)V -/
theorem w73_advance {L : Nat} {t : List (Nat × Nat)} {hi : Nat → Nat → Int32} {hl : Nat → Nat → Int64} {v : Nat → Nat → Option Nat} {Q : Option Value → rx_H → Prop} {a0 : Int32} (k : rx_me 74 [.ref 77, .int a0] (rx_hp L t hi hl v) (fun r h2 => r = none ∧ rx_ok2 L t h2 (fun hi1 hl1 v1 => rx_me 71 [.ref 77, .int (a0 + 1)] (rx_hp L t hi1 hl1 v1) (fun r h2 => ∃ z2 : Int64, r = some (.long z2) ∧ rx_ok2 L t h2 (fun hi2 hl2 v2 => (∃ j3 : Nat, (4 * a0) = nI j3 ∧ j3 < 1608 ∧ (∃ j4 : Nat, ((4 * a0) + 1) = nI j4 ∧ j4 < 1608 ∧ (∃ j5 : Nat, ((4 * a0) + 2) = nI j5 ∧ j5 < 1608 ∧ (∃ j6 : Nat, ((4 * a0) + 3) = nI j6 ∧ j6 < 1608 ∧ rx_aw 73 64 [.ref 77, .int a0, .long (z2 ^^^ (-1)), rx_no, .int (4 * a0), .long ((((hl2 80 j3) ||| (hl2 80 j4)) ||| (hl2 80 j5)) ||| (hl2 80 j6)), rx_no, .int 0] [] (rx_hp L t hi2 hl2 v2) Q))))))))) : rx_me 73 [.ref 77, .int a0] (rx_hp L t hi hl v) Q := by
  show rx_aw 73 0 [.ref 77, .int a0, rx_no, rx_no, rx_no, rx_no, rx_no, rx_no] [] (rx_hp L t hi hl v) Q
  refine rx_aw_s 2 (pc := 0) rfl ?_
  show rx_aw 73 2 [.ref 77, .int a0, rx_no, rx_no, rx_no, rx_no, rx_no, rx_no] [.int a0, .ref 77] (rx_hp L t hi hl v) Q
  refine rx_w_callV (j := 74) (pc := 2) rfl rfl rfl rfl rfl ?_
  refine rx_aw.mono k (fun r h2 k => ?_)
  obtain ⟨rfl, hi1, hl1, v1, rfl, k⟩ := k
  refine ⟨rfl, ?_⟩
  show rx_aw 73 5 [.ref 77, .int a0, rx_no, rx_no, rx_no, rx_no, rx_no, rx_no] [] (rx_hp L t hi1 hl1 v1) Q
  refine rx_aw_s 4 (pc := 5) rfl ?_
  show rx_aw 73 9 [.ref 77, .int a0, rx_no, rx_no, rx_no, rx_no, rx_no, rx_no] [.int (a0 + 1), .ref 77] (rx_hp L t hi1 hl1 v1) Q
  refine rx_w_callL (j := 71) (pc := 9) rfl rfl rfl rfl rfl ?_
  refine rx_aw.mono k (fun r h2 k => ?_)
  obtain ⟨z2, rfl, hi2, hl2, v2, rfl, k⟩ := k
  refine ⟨z2, rfl, ?_⟩
  show rx_aw 73 12 [.ref 77, .int a0, rx_no, rx_no, rx_no, rx_no, rx_no, rx_no] [.long z2] (rx_hp L t hi2 hl2 v2) Q
  refine rx_aw_s 10 (pc := 12) rfl ?_
  show rx_aw 73 28 [.ref 77, .int a0, .long (z2 ^^^ (-1)), rx_no, .int (4 * a0), rx_no, rx_no, rx_no] [.int (4 * a0), .ref 80] (rx_hp L t hi2 hl2 v2) Q
  obtain ⟨j3, ej3, hj3, k⟩ := k
  refine rx_aw_lald (pc := 28) (n := 1608) j3 ej3 rfl rfl (by decide) rfl hj3 (by decide) ?_
  show rx_aw 73 29 [.ref 77, .int a0, .long (z2 ^^^ (-1)), rx_no, .int (4 * a0), rx_no, rx_no, rx_no] [.long (hl2 80 j3)] (rx_hp L t hi2 hl2 v2) Q
  refine rx_aw_s 5 (pc := 29) rfl ?_
  show rx_aw 73 37 [.ref 77, .int a0, .long (z2 ^^^ (-1)), rx_no, .int (4 * a0), rx_no, rx_no, rx_no] [.int ((4 * a0) + 1), .ref 80, .long (hl2 80 j3)] (rx_hp L t hi2 hl2 v2) Q
  obtain ⟨j4, ej4, hj4, k⟩ := k
  refine rx_aw_lald (pc := 37) (n := 1608) j4 ej4 rfl rfl (by decide) rfl hj4 (by decide) ?_
  show rx_aw 73 38 [.ref 77, .int a0, .long (z2 ^^^ (-1)), rx_no, .int (4 * a0), rx_no, rx_no, rx_no] [.long (hl2 80 j4), .long (hl2 80 j3)] (rx_hp L t hi2 hl2 v2) Q
  refine rx_aw_s 6 (pc := 38) rfl ?_
  show rx_aw 73 47 [.ref 77, .int a0, .long (z2 ^^^ (-1)), rx_no, .int (4 * a0), rx_no, rx_no, rx_no] [.int ((4 * a0) + 2), .ref 80, .long ((hl2 80 j3) ||| (hl2 80 j4))] (rx_hp L t hi2 hl2 v2) Q
  obtain ⟨j5, ej5, hj5, k⟩ := k
  refine rx_aw_lald (pc := 47) (n := 1608) j5 ej5 rfl rfl (by decide) rfl hj5 (by decide) ?_
  show rx_aw 73 48 [.ref 77, .int a0, .long (z2 ^^^ (-1)), rx_no, .int (4 * a0), rx_no, rx_no, rx_no] [.long (hl2 80 j5), .long ((hl2 80 j3) ||| (hl2 80 j4))] (rx_hp L t hi2 hl2 v2) Q
  refine rx_aw_s 6 (pc := 48) rfl ?_
  show rx_aw 73 57 [.ref 77, .int a0, .long (z2 ^^^ (-1)), rx_no, .int (4 * a0), rx_no, rx_no, rx_no] [.int ((4 * a0) + 3), .ref 80, .long (((hl2 80 j3) ||| (hl2 80 j4)) ||| (hl2 80 j5))] (rx_hp L t hi2 hl2 v2) Q
  obtain ⟨j6, ej6, hj6, k⟩ := k
  refine rx_aw_lald (pc := 57) (n := 1608) j6 ej6 rfl rfl (by decide) rfl hj6 (by decide) ?_
  show rx_aw 73 58 [.ref 77, .int a0, .long (z2 ^^^ (-1)), rx_no, .int (4 * a0), rx_no, rx_no, rx_no] [.long (hl2 80 j6), .long (((hl2 80 j3) ||| (hl2 80 j4)) ||| (hl2 80 j5))] (rx_hp L t hi2 hl2 v2) Q
  refine rx_aw_s 4 (pc := 58) rfl ?_
  show rx_aw 73 64 [.ref 77, .int a0, .long (z2 ^^^ (-1)), rx_no, .int (4 * a0), .long ((((hl2 80 j3) ||| (hl2 80 j4)) ||| (hl2 80 j5)) ||| (hl2 80 j6)), rx_no, .int 0] [] (rx_hp L t hi2 hl2 v2) Q
  exact k
theorem w73_advance_64 {L : Nat} {t : List (Nat × Nat)} {hi : Nat → Nat → Int32} {hl : Nat → Nat → Int64} {v : Nat → Nat → Option Nat} {Q : Option Value → rx_H → Prop} {x1 : Int32} {x2 : Int64} {x4 : Int32} {x5 : Int64} {x7 : Int32} (k : ((4 ≤ x7 → Q none (rx_hp L t hi hl v)) ∧ (¬ (4 ≤ x7) → (∃ j8 : Nat, (x4 + x7) = nI j8 ∧ j8 < 1608 ∧ (∃ j9 : Nat, x7 = nI j9 ∧ j9 < 4 ∧ rx_me 12 [.ref 7, .long (x5 &&& ((hl 83 j9) ^^^ (-1))), .int x7] (rx_hp L t hi hl v) (fun r h2 => ∃ z10 : Int64, r = some (.long z10) ∧ rx_ok2 L t h2 (fun hi10 hl10 v10 => (∃ j11 : Nat, ((x4 + 4) + x7) = nI j11 ∧ j11 < 1608 ∧ rx_aw 73 64 [.ref 77, .int x1, .long x2, rx_no, .int x4, .long x5, rx_no, .int (x7 + 1)] [] (rx_hp L t hi10 (rx_u hl10 80 j11 (((hl 80 j8) ||| z10) &&& x2)) v10) Q)))))))) : rx_aw 73 64 [.ref 77, .int x1, .long x2, rx_no, .int x4, .long x5, rx_no, .int x7] [] (rx_hp L t hi hl v) Q := by
  refine rx_aw_s 3 (pc := 64) rfl ?_
  refine rx_w_if (c := 4 ≤ x7) ⟨fun c7 => ?_, fun c7 => ?_⟩
  · have k := k.1 c7
    show rx_aw 73 124 [.ref 77, .int x1, .long x2, rx_no, .int x4, .long x5, rx_no, .int x7] [] (rx_hp L t hi hl v) Q
    exact rx_aw_ret (pc := 124) rfl k
  · have k := k.2 c7
    show rx_aw 73 70 [.ref 77, .int x1, .long x2, rx_no, .int x4, .long x5, rx_no, .int x7] [] (rx_hp L t hi hl v) Q
    refine rx_aw_s 12 (pc := 70) rfl ?_
    show rx_aw 73 90 [.ref 77, .int x1, .long x2, rx_no, .int x4, .long x5, rx_no, .int x7] [.int (x4 + x7), .ref 80, .int ((x4 + 4) + x7), .ref 80] (rx_hp L t hi hl v) Q
    obtain ⟨j8, ej8, hj8, k⟩ := k
    refine rx_aw_lald (pc := 90) (n := 1608) j8 ej8 rfl rfl (by decide) rfl hj8 (by decide) ?_
    show rx_aw 73 91 [.ref 77, .int x1, .long x2, rx_no, .int x4, .long x5, rx_no, .int x7] [.long (hl 80 j8), .int ((x4 + 4) + x7), .ref 80] (rx_hp L t hi hl v) Q
    refine rx_aw_s 6 (pc := 91) rfl ?_
    show rx_aw 73 103 [.ref 77, .int x1, .long x2, rx_no, .int x4, .long x5, rx_no, .int x7] [.int x7, .ref 83, .long x5, .ref 7, .long (hl 80 j8), .int ((x4 + 4) + x7), .ref 80] (rx_hp L t hi hl v) Q
    obtain ⟨j9, ej9, hj9, k⟩ := k
    refine rx_aw_lald (pc := 103) (n := 4) j9 ej9 rfl rfl (by decide) rfl hj9 (by decide) ?_
    show rx_aw 73 104 [.ref 77, .int x1, .long x2, rx_no, .int x4, .long x5, rx_no, .int x7] [.long (hl 83 j9), .long x5, .ref 7, .long (hl 80 j8), .int ((x4 + 4) + x7), .ref 80] (rx_hp L t hi hl v) Q
    refine rx_aw_s 4 (pc := 104) rfl ?_
    show rx_aw 73 111 [.ref 77, .int x1, .long x2, rx_no, .int x4, .long x5, rx_no, .int x7] [.int x7, .long (x5 &&& ((hl 83 j9) ^^^ (-1))), .ref 7, .long (hl 80 j8), .int ((x4 + 4) + x7), .ref 80] (rx_hp L t hi hl v) Q
    refine rx_w_callL (j := 12) (pc := 111) rfl rfl rfl rfl rfl ?_
    refine rx_aw.mono k (fun r h2 k => ?_)
    obtain ⟨z10, rfl, hi10, hl10, v10, rfl, k⟩ := k
    refine ⟨z10, rfl, ?_⟩
    show rx_aw 73 114 [.ref 77, .int x1, .long x2, rx_no, .int x4, .long x5, rx_no, .int x7] [.long z10, .long (hl 80 j8), .int ((x4 + 4) + x7), .ref 80] (rx_hp L t hi10 hl10 v10) Q
    refine rx_aw_s 3 (pc := 114) rfl ?_
    show rx_aw 73 117 [.ref 77, .int x1, .long x2, rx_no, .int x4, .long x5, rx_no, .int x7] [.long (((hl 80 j8) ||| z10) &&& x2), .int ((x4 + 4) + x7), .ref 80] (rx_hp L t hi10 hl10 v10) Q
    obtain ⟨j11, ej11, hj11, k⟩ := k
    refine rx_aw_last (pc := 117) (n := 1608) j11 ej11 rfl rfl (by decide) rfl hj11 (by decide) ?_
    show rx_aw 73 118 [.ref 77, .int x1, .long x2, rx_no, .int x4, .long x5, rx_no, .int x7] [] (rx_hp L t hi10 (rx_u hl10 80 j11 (((hl 80 j8) ||| z10) &&& x2)) v10) Q
    refine rx_aw_s 2 (pc := 118) rfl ?_
    show rx_aw 73 64 [.ref 77, .int x1, .long x2, rx_no, .int x4, .long x5, rx_no, .int (x7 + 1)] [] (rx_hp L t hi10 (rx_u hl10 80 j11 (((hl 80 j8) ||| z10) &&& x2)) v10) Q
    exact k
/-- CartFloor$Search.findFaced(I)V -/
theorem w74_findFaced {L : Nat} {t : List (Nat × Nat)} {hi : Nat → Nat → Int32} {hl : Nat → Nat → Int64} {v : Nat → Nat → Option Nat} {Q : Option Value → rx_H → Prop} {a0 : Int32} (k : rx_me 75 [.ref 83, .long 0] (rx_hp L t hi hl v) (fun r h2 => r = none ∧ rx_ok2 L t h2 (fun hi1 hl1 v1 => rx_aw 74 10 [.ref 77, .int a0, .int 0, rx_no, rx_no, rx_no, rx_no, rx_no, rx_no] [] (rx_hp L t hi1 hl1 v1) Q))) : rx_me 74 [.ref 77, .int a0] (rx_hp L t hi hl v) Q := by
  show rx_aw 74 0 [.ref 77, .int a0, rx_no, rx_no, rx_no, rx_no, rx_no, rx_no, rx_no] [] (rx_hp L t hi hl v) Q
  refine rx_aw_s 3 (pc := 0) rfl ?_
  show rx_aw 74 5 [.ref 77, .int a0, rx_no, rx_no, rx_no, rx_no, rx_no, rx_no, rx_no] [.long 0, .ref 83] (rx_hp L t hi hl v) Q
  refine rx_w_callV (j := 75) (pc := 5) rfl rfl rfl rfl rfl ?_
  refine rx_aw.mono k (fun r h2 k => ?_)
  obtain ⟨rfl, hi1, hl1, v1, rfl, k⟩ := k
  refine ⟨rfl, ?_⟩
  show rx_aw 74 8 [.ref 77, .int a0, rx_no, rx_no, rx_no, rx_no, rx_no, rx_no, rx_no] [] (rx_hp L t hi1 hl1 v1) Q
  refine rx_aw_s 2 (pc := 8) rfl ?_
  show rx_aw 74 10 [.ref 77, .int a0, .int 0, rx_no, rx_no, rx_no, rx_no, rx_no, rx_no] [] (rx_hp L t hi1 hl1 v1) Q
  exact k
theorem w74_findFaced_10 {L : Nat} {t : List (Nat × Nat)} {hi : Nat → Nat → Int32} {hl : Nat → Nat → Int64} {v : Nat → Nat → Option Nat} {Q : Option Value → rx_H → Prop} {x1 : Int32} {x2 : Int32} (k : (((hi 13 3) ≤ x2 → Q none (rx_hp L t hi hl v)) ∧ (¬ ((hi 13 3) ≤ x2) → (((hi 77 9) ≤ x1 → Q none (rx_hp L t hi hl v)) ∧ (¬ ((hi 77 9) ≤ x1) → (∃ j4 : Nat, x2 = nI j4 ∧ j4 < 6 ∧ (∃ j5 : Nat, x1 = nI j5 ∧ j5 < 402 ∧ (∃ j6 : Nat, (x1 + 1) = nI j6 ∧ j6 < 402 ∧ (((v 77 8) = none ∧ (((lg_cmp ((hl (rx_ct j4 + 4) j5) &&& ((hl (rx_ct j4 + 4) j6) ^^^ (-1))) 0) = 0 → rx_aw 74 10 [.ref 77, .int x1, .int (x2 + 1), rx_no, rx_no, rx_no, rx_no, rx_no, rx_no] [] (rx_hp L t hi hl v) Q) ∧ (¬ ((lg_cmp ((hl (rx_ct j4 + 4) j5) &&& ((hl (rx_ct j4 + 4) j6) ^^^ (-1))) 0) = 0) → (∃ j9 : Nat, (x1 + 1) = nI j9 ∧ j9 < 402 ∧ (∃ j10 : Nat, x1 = nI j10 ∧ j10 < 402 ∧ rx_aw 74 99 [.ref 77, .int x1, .int x2, .ref (rx_ct j4), .long ((hl (rx_ct j4 + 4) j5) &&& ((hl (rx_ct j4 + 4) j6) ^^^ (-1))), rx_no, .long ((hl (rx_ct j4 + 4) j9) &&& ((hl (rx_ct j4 + 4) j10) ^^^ (-1))), rx_no, .int 0] [] (rx_hp L t hi hl v) Q))))) ∨ (∃ q7 : Nat, q7 < 6 ∧ (v 77 8) = some (rx_ct q7) ∧ (((some (rx_ct j4) : Option Nat) = (some (rx_ct q7) : Option Nat) → rx_aw 74 10 [.ref 77, .int x1, .int (x2 + 1), rx_no, rx_no, rx_no, rx_no, rx_no, rx_no] [] (rx_hp L t hi hl v) Q) ∧ (¬ ((some (rx_ct j4) : Option Nat) = (some (rx_ct q7) : Option Nat)) → (((lg_cmp ((hl (rx_ct j4 + 4) j5) &&& ((hl (rx_ct j4 + 4) j6) ^^^ (-1))) 0) = 0 → rx_aw 74 10 [.ref 77, .int x1, .int (x2 + 1), rx_no, rx_no, rx_no, rx_no, rx_no, rx_no] [] (rx_hp L t hi hl v) Q) ∧ (¬ ((lg_cmp ((hl (rx_ct j4 + 4) j5) &&& ((hl (rx_ct j4 + 4) j6) ^^^ (-1))) 0) = 0) → (∃ j13 : Nat, (x1 + 1) = nI j13 ∧ j13 < 402 ∧ (∃ j14 : Nat, x1 = nI j14 ∧ j14 < 402 ∧ rx_aw 74 99 [.ref 77, .int x1, .int x2, .ref (rx_ct j4), .long ((hl (rx_ct j4 + 4) j5) &&& ((hl (rx_ct j4 + 4) j6) ^^^ (-1))), rx_no, .long ((hl (rx_ct j4 + 4) j13) &&& ((hl (rx_ct j4 + 4) j14) ^^^ (-1))), rx_no, .int 0] [] (rx_hp L t hi hl v) Q)))))))))))))))) : rx_aw 74 10 [.ref 77, .int x1, .int x2, rx_no, rx_no, rx_no, rx_no, rx_no, rx_no] [] (rx_hp L t hi hl v) Q := by
  refine rx_aw_s 5 (pc := 10) rfl ?_
  refine rx_w_if (c := (hi 13 3) ≤ x2) ⟨fun c2 => ?_, fun c2 => ?_⟩
  · have k := k.1 c2
    show rx_aw 74 143 [.ref 77, .int x1, .int x2, rx_no, rx_no, rx_no, rx_no, rx_no, rx_no] [] (rx_hp L t hi hl v) Q
    exact rx_aw_ret (pc := 143) rfl k
  · have k := k.2 c2
    show rx_aw 74 21 [.ref 77, .int x1, .int x2, rx_no, rx_no, rx_no, rx_no, rx_no, rx_no] [] (rx_hp L t hi hl v) Q
    refine rx_aw_s 4 (pc := 21) rfl ?_
    refine rx_w_if (c := (hi 77 9) ≤ x1) ⟨fun c3 => ?_, fun c3 => ?_⟩
    · have k := k.1 c3
      show rx_aw 74 143 [.ref 77, .int x1, .int x2, rx_no, rx_no, rx_no, rx_no, rx_no, rx_no] [] (rx_hp L t hi hl v) Q
      exact rx_aw_ret (pc := 143) rfl k
    · have k := k.2 c3
      show rx_aw 74 29 [.ref 77, .int x1, .int x2, rx_no, rx_no, rx_no, rx_no, rx_no, rx_no] [] (rx_hp L t hi hl v) Q
      refine rx_aw_s 4 (pc := 29) rfl ?_
      show rx_aw 74 37 [.ref 77, .int x1, .int x2, rx_no, rx_no, rx_no, rx_no, rx_no, rx_no] [.int x2, .ref 14] (rx_hp L t hi hl v) Q
      obtain ⟨j4, ej4, hj4, k⟩ := k
      refine rx_w_carts (pc := 37) rfl ⟨j4, ej4, hj4, ?_⟩
      show rx_aw 74 38 [.ref 77, .int x1, .int x2, rx_no, rx_no, rx_no, rx_no, rx_no, rx_no] [.ref (rx_ct j4)] (rx_hp L t hi hl v) Q
      refine rx_aw_s 2 (pc := 38) rfl ?_
      show rx_aw 74 40 [.ref 77, .int x1, .int x2, .ref (rx_ct j4), rx_no, rx_no, rx_no, rx_no, rx_no] [.ref (rx_ct j4)] (rx_hp L t hi hl v) Q
      refine rx_w_cr hj4 (pc := 40) rfl (by decide) ?_
      show rx_aw 74 43 [.ref 77, .int x1, .int x2, .ref (rx_ct j4), rx_no, rx_no, rx_no, rx_no, rx_no] [.ref (rx_ct j4 + 4)] (rx_hp L t hi hl v) Q
      refine rx_aw_s 1 (pc := 43) rfl ?_
      show rx_aw 74 44 [.ref 77, .int x1, .int x2, .ref (rx_ct j4), rx_no, rx_no, rx_no, rx_no, rx_no] [.int x1, .ref (rx_ct j4 + 4)] (rx_hp L t hi hl v) Q
      obtain ⟨j5, ej5, hj5, k⟩ := k
      refine rx_aw_lald (pc := 44) (n := 402) j5 ej5 rfl (rx_ck (rx_cart_s hj4).2.2.2.2.1) (Nat.lt_of_lt_of_le (rx_ct_pos _) (Nat.le_add_right _ _)) (rx_cle (rx_cart_s hj4).2.2.2.2.1) hj5 (by decide) ?_
      show rx_aw 74 45 [.ref 77, .int x1, .int x2, .ref (rx_ct j4), rx_no, rx_no, rx_no, rx_no, rx_no] [.long (hl (rx_ct j4 + 4) j5)] (rx_hp L t hi hl v) Q
      refine rx_aw_s 1 (pc := 45) rfl ?_
      show rx_aw 74 46 [.ref 77, .int x1, .int x2, .ref (rx_ct j4), rx_no, rx_no, rx_no, rx_no, rx_no] [.ref (rx_ct j4), .long (hl (rx_ct j4 + 4) j5)] (rx_hp L t hi hl v) Q
      refine rx_w_cr hj4 (pc := 46) rfl (by decide) ?_
      show rx_aw 74 49 [.ref 77, .int x1, .int x2, .ref (rx_ct j4), rx_no, rx_no, rx_no, rx_no, rx_no] [.ref (rx_ct j4 + 4), .long (hl (rx_ct j4 + 4) j5)] (rx_hp L t hi hl v) Q
      refine rx_aw_s 3 (pc := 49) rfl ?_
      show rx_aw 74 52 [.ref 77, .int x1, .int x2, .ref (rx_ct j4), rx_no, rx_no, rx_no, rx_no, rx_no] [.int (x1 + 1), .ref (rx_ct j4 + 4), .long (hl (rx_ct j4 + 4) j5)] (rx_hp L t hi hl v) Q
      obtain ⟨j6, ej6, hj6, k⟩ := k
      refine rx_aw_lald (pc := 52) (n := 402) j6 ej6 rfl (rx_ck (rx_cart_s hj4).2.2.2.2.1) (Nat.lt_of_lt_of_le (rx_ct_pos _) (Nat.le_add_right _ _)) (rx_cle (rx_cart_s hj4).2.2.2.2.1) hj6 (by decide) ?_
      show rx_aw 74 53 [.ref 77, .int x1, .int x2, .ref (rx_ct j4), rx_no, rx_no, rx_no, rx_no, rx_no] [.long (hl (rx_ct j4 + 4) j6), .long (hl (rx_ct j4 + 4) j5)] (rx_hp L t hi hl v) Q
      refine rx_aw_s 7 (pc := 53) rfl ?_
      show rx_aw 74 65 [.ref 77, .int x1, .int x2, .ref (rx_ct j4), .long ((hl (rx_ct j4 + 4) j5) &&& ((hl (rx_ct j4 + 4) j6) ^^^ (-1))), rx_no, rx_no, rx_no, rx_no] [va_rf (v 77 8), .ref (rx_ct j4)] (rx_hp L t hi hl v) Q
      rcases k with ⟨eq7, k⟩ | ⟨q7, hq7, eq7, k⟩
      · rw [eq7]
        show rx_aw 74 65 [.ref 77, .int x1, .int x2, .ref (rx_ct j4), .long ((hl (rx_ct j4 + 4) j5) &&& ((hl (rx_ct j4 + 4) j6) ^^^ (-1))), rx_no, rx_no, rx_no, rx_no] [.null, .ref (rx_ct j4)] (rx_hp L t hi hl v) Q
        refine rx_aw_s 5 (pc := 65) rfl ?_
        refine rx_w_if (c := (lg_cmp ((hl (rx_ct j4 + 4) j5) &&& ((hl (rx_ct j4 + 4) j6) ^^^ (-1))) 0) = 0) ⟨fun c8 => ?_, fun c8 => ?_⟩
        · have k := k.1 c8
          show rx_aw 74 137 [.ref 77, .int x1, .int x2, .ref (rx_ct j4), .long ((hl (rx_ct j4 + 4) j5) &&& ((hl (rx_ct j4 + 4) j6) ^^^ (-1))), rx_no, rx_no, rx_no, rx_no] [] (rx_hp L t hi hl v) Q
          refine rx_aw_s 2 (pc := 137) rfl ?_
          show rx_aw 74 10 [.ref 77, .int x1, .int (x2 + 1), .ref (rx_ct j4), .long ((hl (rx_ct j4 + 4) j5) &&& ((hl (rx_ct j4 + 4) j6) ^^^ (-1))), rx_no, rx_no, rx_no, rx_no] [] (rx_hp L t hi hl v) Q
          exact rx_aw_le (ls := [.ref 77, .int x1, .int (x2 + 1), rx_no, rx_no, rx_no, rx_no, rx_no, rx_no]) ⟨Or.inr rfl, ⟨Or.inr rfl, ⟨Or.inr rfl, ⟨Or.inl rfl, ⟨Or.inl rfl, ⟨Or.inl rfl, ⟨Or.inl rfl, ⟨Or.inl rfl, ⟨Or.inl rfl, trivial⟩⟩⟩⟩⟩⟩⟩⟩⟩ k
        · have k := k.2 c8
          show rx_aw 74 75 [.ref 77, .int x1, .int x2, .ref (rx_ct j4), .long ((hl (rx_ct j4 + 4) j5) &&& ((hl (rx_ct j4 + 4) j6) ^^^ (-1))), rx_no, rx_no, rx_no, rx_no] [] (rx_hp L t hi hl v) Q
          refine rx_aw_s 1 (pc := 75) rfl ?_
          show rx_aw 74 76 [.ref 77, .int x1, .int x2, .ref (rx_ct j4), .long ((hl (rx_ct j4 + 4) j5) &&& ((hl (rx_ct j4 + 4) j6) ^^^ (-1))), rx_no, rx_no, rx_no, rx_no] [.ref (rx_ct j4)] (rx_hp L t hi hl v) Q
          refine rx_w_cr hj4 (pc := 76) rfl (by decide) ?_
          show rx_aw 74 79 [.ref 77, .int x1, .int x2, .ref (rx_ct j4), .long ((hl (rx_ct j4 + 4) j5) &&& ((hl (rx_ct j4 + 4) j6) ^^^ (-1))), rx_no, rx_no, rx_no, rx_no] [.ref (rx_ct j4 + 4)] (rx_hp L t hi hl v) Q
          refine rx_aw_s 3 (pc := 79) rfl ?_
          show rx_aw 74 82 [.ref 77, .int x1, .int x2, .ref (rx_ct j4), .long ((hl (rx_ct j4 + 4) j5) &&& ((hl (rx_ct j4 + 4) j6) ^^^ (-1))), rx_no, rx_no, rx_no, rx_no] [.int (x1 + 1), .ref (rx_ct j4 + 4)] (rx_hp L t hi hl v) Q
          obtain ⟨j9, ej9, hj9, k⟩ := k
          refine rx_aw_lald (pc := 82) (n := 402) j9 ej9 rfl (rx_ck (rx_cart_s hj4).2.2.2.2.1) (Nat.lt_of_lt_of_le (rx_ct_pos _) (Nat.le_add_right _ _)) (rx_cle (rx_cart_s hj4).2.2.2.2.1) hj9 (by decide) ?_
          show rx_aw 74 83 [.ref 77, .int x1, .int x2, .ref (rx_ct j4), .long ((hl (rx_ct j4 + 4) j5) &&& ((hl (rx_ct j4 + 4) j6) ^^^ (-1))), rx_no, rx_no, rx_no, rx_no] [.long (hl (rx_ct j4 + 4) j9)] (rx_hp L t hi hl v) Q
          refine rx_aw_s 1 (pc := 83) rfl ?_
          show rx_aw 74 84 [.ref 77, .int x1, .int x2, .ref (rx_ct j4), .long ((hl (rx_ct j4 + 4) j5) &&& ((hl (rx_ct j4 + 4) j6) ^^^ (-1))), rx_no, rx_no, rx_no, rx_no] [.ref (rx_ct j4), .long (hl (rx_ct j4 + 4) j9)] (rx_hp L t hi hl v) Q
          refine rx_w_cr hj4 (pc := 84) rfl (by decide) ?_
          show rx_aw 74 87 [.ref 77, .int x1, .int x2, .ref (rx_ct j4), .long ((hl (rx_ct j4 + 4) j5) &&& ((hl (rx_ct j4 + 4) j6) ^^^ (-1))), rx_no, rx_no, rx_no, rx_no] [.ref (rx_ct j4 + 4), .long (hl (rx_ct j4 + 4) j9)] (rx_hp L t hi hl v) Q
          refine rx_aw_s 1 (pc := 87) rfl ?_
          show rx_aw 74 88 [.ref 77, .int x1, .int x2, .ref (rx_ct j4), .long ((hl (rx_ct j4 + 4) j5) &&& ((hl (rx_ct j4 + 4) j6) ^^^ (-1))), rx_no, rx_no, rx_no, rx_no] [.int x1, .ref (rx_ct j4 + 4), .long (hl (rx_ct j4 + 4) j9)] (rx_hp L t hi hl v) Q
          obtain ⟨j10, ej10, hj10, k⟩ := k
          refine rx_aw_lald (pc := 88) (n := 402) j10 ej10 rfl (rx_ck (rx_cart_s hj4).2.2.2.2.1) (Nat.lt_of_lt_of_le (rx_ct_pos _) (Nat.le_add_right _ _)) (rx_cle (rx_cart_s hj4).2.2.2.2.1) hj10 (by decide) ?_
          show rx_aw 74 89 [.ref 77, .int x1, .int x2, .ref (rx_ct j4), .long ((hl (rx_ct j4 + 4) j5) &&& ((hl (rx_ct j4 + 4) j6) ^^^ (-1))), rx_no, rx_no, rx_no, rx_no] [.long (hl (rx_ct j4 + 4) j10), .long (hl (rx_ct j4 + 4) j9)] (rx_hp L t hi hl v) Q
          refine rx_aw_s 6 (pc := 89) rfl ?_
          show rx_aw 74 99 [.ref 77, .int x1, .int x2, .ref (rx_ct j4), .long ((hl (rx_ct j4 + 4) j5) &&& ((hl (rx_ct j4 + 4) j6) ^^^ (-1))), rx_no, .long ((hl (rx_ct j4 + 4) j9) &&& ((hl (rx_ct j4 + 4) j10) ^^^ (-1))), rx_no, .int 0] [] (rx_hp L t hi hl v) Q
          exact k
      · rw [eq7]
        show rx_aw 74 65 [.ref 77, .int x1, .int x2, .ref (rx_ct j4), .long ((hl (rx_ct j4 + 4) j5) &&& ((hl (rx_ct j4 + 4) j6) ^^^ (-1))), rx_no, rx_no, rx_no, rx_no] [.ref (rx_ct q7), .ref (rx_ct j4)] (rx_hp L t hi hl v) Q
        refine rx_aw_s 1 (pc := 65) rfl ?_
        refine rx_w_if (c := (some (rx_ct j4) : Option Nat) = (some (rx_ct q7) : Option Nat)) ⟨fun c11 => ?_, fun c11 => ?_⟩
        · have k := k.1 c11
          show rx_aw 74 137 [.ref 77, .int x1, .int x2, .ref (rx_ct j4), .long ((hl (rx_ct j4 + 4) j5) &&& ((hl (rx_ct j4 + 4) j6) ^^^ (-1))), rx_no, rx_no, rx_no, rx_no] [] (rx_hp L t hi hl v) Q
          refine rx_aw_s 2 (pc := 137) rfl ?_
          show rx_aw 74 10 [.ref 77, .int x1, .int (x2 + 1), .ref (rx_ct j4), .long ((hl (rx_ct j4 + 4) j5) &&& ((hl (rx_ct j4 + 4) j6) ^^^ (-1))), rx_no, rx_no, rx_no, rx_no] [] (rx_hp L t hi hl v) Q
          exact rx_aw_le (ls := [.ref 77, .int x1, .int (x2 + 1), rx_no, rx_no, rx_no, rx_no, rx_no, rx_no]) ⟨Or.inr rfl, ⟨Or.inr rfl, ⟨Or.inr rfl, ⟨Or.inl rfl, ⟨Or.inl rfl, ⟨Or.inl rfl, ⟨Or.inl rfl, ⟨Or.inl rfl, ⟨Or.inl rfl, trivial⟩⟩⟩⟩⟩⟩⟩⟩⟩ k
        · have k := k.2 c11
          show rx_aw 74 68 [.ref 77, .int x1, .int x2, .ref (rx_ct j4), .long ((hl (rx_ct j4 + 4) j5) &&& ((hl (rx_ct j4 + 4) j6) ^^^ (-1))), rx_no, rx_no, rx_no, rx_no] [] (rx_hp L t hi hl v) Q
          refine rx_aw_s 4 (pc := 68) rfl ?_
          refine rx_w_if (c := (lg_cmp ((hl (rx_ct j4 + 4) j5) &&& ((hl (rx_ct j4 + 4) j6) ^^^ (-1))) 0) = 0) ⟨fun c12 => ?_, fun c12 => ?_⟩
          · have k := k.1 c12
            show rx_aw 74 137 [.ref 77, .int x1, .int x2, .ref (rx_ct j4), .long ((hl (rx_ct j4 + 4) j5) &&& ((hl (rx_ct j4 + 4) j6) ^^^ (-1))), rx_no, rx_no, rx_no, rx_no] [] (rx_hp L t hi hl v) Q
            refine rx_aw_s 2 (pc := 137) rfl ?_
            show rx_aw 74 10 [.ref 77, .int x1, .int (x2 + 1), .ref (rx_ct j4), .long ((hl (rx_ct j4 + 4) j5) &&& ((hl (rx_ct j4 + 4) j6) ^^^ (-1))), rx_no, rx_no, rx_no, rx_no] [] (rx_hp L t hi hl v) Q
            exact rx_aw_le (ls := [.ref 77, .int x1, .int (x2 + 1), rx_no, rx_no, rx_no, rx_no, rx_no, rx_no]) ⟨Or.inr rfl, ⟨Or.inr rfl, ⟨Or.inr rfl, ⟨Or.inl rfl, ⟨Or.inl rfl, ⟨Or.inl rfl, ⟨Or.inl rfl, ⟨Or.inl rfl, ⟨Or.inl rfl, trivial⟩⟩⟩⟩⟩⟩⟩⟩⟩ k
          · have k := k.2 c12
            show rx_aw 74 75 [.ref 77, .int x1, .int x2, .ref (rx_ct j4), .long ((hl (rx_ct j4 + 4) j5) &&& ((hl (rx_ct j4 + 4) j6) ^^^ (-1))), rx_no, rx_no, rx_no, rx_no] [] (rx_hp L t hi hl v) Q
            refine rx_aw_s 1 (pc := 75) rfl ?_
            show rx_aw 74 76 [.ref 77, .int x1, .int x2, .ref (rx_ct j4), .long ((hl (rx_ct j4 + 4) j5) &&& ((hl (rx_ct j4 + 4) j6) ^^^ (-1))), rx_no, rx_no, rx_no, rx_no] [.ref (rx_ct j4)] (rx_hp L t hi hl v) Q
            refine rx_w_cr hj4 (pc := 76) rfl (by decide) ?_
            show rx_aw 74 79 [.ref 77, .int x1, .int x2, .ref (rx_ct j4), .long ((hl (rx_ct j4 + 4) j5) &&& ((hl (rx_ct j4 + 4) j6) ^^^ (-1))), rx_no, rx_no, rx_no, rx_no] [.ref (rx_ct j4 + 4)] (rx_hp L t hi hl v) Q
            refine rx_aw_s 3 (pc := 79) rfl ?_
            show rx_aw 74 82 [.ref 77, .int x1, .int x2, .ref (rx_ct j4), .long ((hl (rx_ct j4 + 4) j5) &&& ((hl (rx_ct j4 + 4) j6) ^^^ (-1))), rx_no, rx_no, rx_no, rx_no] [.int (x1 + 1), .ref (rx_ct j4 + 4)] (rx_hp L t hi hl v) Q
            obtain ⟨j13, ej13, hj13, k⟩ := k
            refine rx_aw_lald (pc := 82) (n := 402) j13 ej13 rfl (rx_ck (rx_cart_s hj4).2.2.2.2.1) (Nat.lt_of_lt_of_le (rx_ct_pos _) (Nat.le_add_right _ _)) (rx_cle (rx_cart_s hj4).2.2.2.2.1) hj13 (by decide) ?_
            show rx_aw 74 83 [.ref 77, .int x1, .int x2, .ref (rx_ct j4), .long ((hl (rx_ct j4 + 4) j5) &&& ((hl (rx_ct j4 + 4) j6) ^^^ (-1))), rx_no, rx_no, rx_no, rx_no] [.long (hl (rx_ct j4 + 4) j13)] (rx_hp L t hi hl v) Q
            refine rx_aw_s 1 (pc := 83) rfl ?_
            show rx_aw 74 84 [.ref 77, .int x1, .int x2, .ref (rx_ct j4), .long ((hl (rx_ct j4 + 4) j5) &&& ((hl (rx_ct j4 + 4) j6) ^^^ (-1))), rx_no, rx_no, rx_no, rx_no] [.ref (rx_ct j4), .long (hl (rx_ct j4 + 4) j13)] (rx_hp L t hi hl v) Q
            refine rx_w_cr hj4 (pc := 84) rfl (by decide) ?_
            show rx_aw 74 87 [.ref 77, .int x1, .int x2, .ref (rx_ct j4), .long ((hl (rx_ct j4 + 4) j5) &&& ((hl (rx_ct j4 + 4) j6) ^^^ (-1))), rx_no, rx_no, rx_no, rx_no] [.ref (rx_ct j4 + 4), .long (hl (rx_ct j4 + 4) j13)] (rx_hp L t hi hl v) Q
            refine rx_aw_s 1 (pc := 87) rfl ?_
            show rx_aw 74 88 [.ref 77, .int x1, .int x2, .ref (rx_ct j4), .long ((hl (rx_ct j4 + 4) j5) &&& ((hl (rx_ct j4 + 4) j6) ^^^ (-1))), rx_no, rx_no, rx_no, rx_no] [.int x1, .ref (rx_ct j4 + 4), .long (hl (rx_ct j4 + 4) j13)] (rx_hp L t hi hl v) Q
            obtain ⟨j14, ej14, hj14, k⟩ := k
            refine rx_aw_lald (pc := 88) (n := 402) j14 ej14 rfl (rx_ck (rx_cart_s hj4).2.2.2.2.1) (Nat.lt_of_lt_of_le (rx_ct_pos _) (Nat.le_add_right _ _)) (rx_cle (rx_cart_s hj4).2.2.2.2.1) hj14 (by decide) ?_
            show rx_aw 74 89 [.ref 77, .int x1, .int x2, .ref (rx_ct j4), .long ((hl (rx_ct j4 + 4) j5) &&& ((hl (rx_ct j4 + 4) j6) ^^^ (-1))), rx_no, rx_no, rx_no, rx_no] [.long (hl (rx_ct j4 + 4) j14), .long (hl (rx_ct j4 + 4) j13)] (rx_hp L t hi hl v) Q
            refine rx_aw_s 6 (pc := 89) rfl ?_
            show rx_aw 74 99 [.ref 77, .int x1, .int x2, .ref (rx_ct j4), .long ((hl (rx_ct j4 + 4) j5) &&& ((hl (rx_ct j4 + 4) j6) ^^^ (-1))), rx_no, .long ((hl (rx_ct j4 + 4) j13) &&& ((hl (rx_ct j4 + 4) j14) ^^^ (-1))), rx_no, .int 0] [] (rx_hp L t hi hl v) Q
            exact k
theorem w74_findFaced_99 {L : Nat} {t : List (Nat × Nat)} {hi : Nat → Nat → Int32} {hl : Nat → Nat → Int64} {v : Nat → Nat → Option Nat} {Q : Option Value → rx_H → Prop} {x1 : Int32} {x2 : Int32} {j4 : Nat} (hj4 : j4 < 6) {x4 : Int64} {x6 : Int64} {x8 : Int32} (k : ((4 ≤ x8 → rx_aw 74 10 [.ref 77, .int x1, .int (x2 + 1), rx_no, rx_no, rx_no, rx_no, rx_no, rx_no] [] (rx_hp L t hi hl v) Q) ∧ (¬ (4 ≤ x8) → (∃ j16 : Nat, x8 = nI j16 ∧ j16 < 4 ∧ rx_me 12 [.ref 7, .long x4, .int (x8 ^^^ 2)] (rx_hp L t hi hl v) (fun r h2 => ∃ z17 : Int64, r = some (.long z17) ∧ rx_ok2 L t h2 (fun hi17 hl17 v17 => (∃ j18 : Nat, x8 = nI j18 ∧ j18 < 4 ∧ rx_aw 74 99 [.ref 77, .int x1, .int x2, .ref (rx_ct j4), .long x4, rx_no, .long x6, rx_no, .int (x8 + 1)] [] (rx_hp L t hi17 (rx_u hl17 83 j18 ((hl 83 j16) ||| (x6 &&& z17))) v17) Q))))))) : rx_aw 74 99 [.ref 77, .int x1, .int x2, .ref (rx_ct j4), .long x4, rx_no, .long x6, rx_no, .int x8] [] (rx_hp L t hi hl v) Q := by
  refine rx_aw_s 3 (pc := 99) rfl ?_
  refine rx_w_if (c := 4 ≤ x8) ⟨fun c15 => ?_, fun c15 => ?_⟩
  · have k := k.1 c15
    show rx_aw 74 137 [.ref 77, .int x1, .int x2, .ref (rx_ct j4), .long x4, rx_no, .long x6, rx_no, .int x8] [] (rx_hp L t hi hl v) Q
    refine rx_aw_s 2 (pc := 137) rfl ?_
    show rx_aw 74 10 [.ref 77, .int x1, .int (x2 + 1), .ref (rx_ct j4), .long x4, rx_no, .long x6, rx_no, .int x8] [] (rx_hp L t hi hl v) Q
    exact rx_aw_le (ls := [.ref 77, .int x1, .int (x2 + 1), rx_no, rx_no, rx_no, rx_no, rx_no, rx_no]) ⟨Or.inr rfl, ⟨Or.inr rfl, ⟨Or.inr rfl, ⟨Or.inl rfl, ⟨Or.inl rfl, ⟨Or.inl rfl, ⟨Or.inl rfl, ⟨Or.inl rfl, ⟨Or.inl rfl, trivial⟩⟩⟩⟩⟩⟩⟩⟩⟩ k
  · have k := k.2 c15
    show rx_aw 74 105 [.ref 77, .int x1, .int x2, .ref (rx_ct j4), .long x4, rx_no, .long x6, rx_no, .int x8] [] (rx_hp L t hi hl v) Q
    refine rx_aw_s 4 (pc := 105) rfl ?_
    show rx_aw 74 112 [.ref 77, .int x1, .int x2, .ref (rx_ct j4), .long x4, rx_no, .long x6, rx_no, .int x8] [.int x8, .ref 83, .int x8, .ref 83] (rx_hp L t hi hl v) Q
    obtain ⟨j16, ej16, hj16, k⟩ := k
    refine rx_aw_lald (pc := 112) (n := 4) j16 ej16 rfl rfl (by decide) rfl hj16 (by decide) ?_
    show rx_aw 74 113 [.ref 77, .int x1, .int x2, .ref (rx_ct j4), .long x4, rx_no, .long x6, rx_no, .int x8] [.long (hl 83 j16), .int x8, .ref 83] (rx_hp L t hi hl v) Q
    refine rx_aw_s 7 (pc := 113) rfl ?_
    show rx_aw 74 125 [.ref 77, .int x1, .int x2, .ref (rx_ct j4), .long x4, rx_no, .long x6, rx_no, .int x8] [.int (x8 ^^^ 2), .long x4, .ref 7, .long x6, .long (hl 83 j16), .int x8, .ref 83] (rx_hp L t hi hl v) Q
    refine rx_w_callL (j := 12) (pc := 125) rfl rfl rfl rfl rfl ?_
    refine rx_aw.mono k (fun r h2 k => ?_)
    obtain ⟨z17, rfl, hi17, hl17, v17, rfl, k⟩ := k
    refine ⟨z17, rfl, ?_⟩
    show rx_aw 74 128 [.ref 77, .int x1, .int x2, .ref (rx_ct j4), .long x4, rx_no, .long x6, rx_no, .int x8] [.long z17, .long x6, .long (hl 83 j16), .int x8, .ref 83] (rx_hp L t hi17 hl17 v17) Q
    refine rx_aw_s 2 (pc := 128) rfl ?_
    show rx_aw 74 130 [.ref 77, .int x1, .int x2, .ref (rx_ct j4), .long x4, rx_no, .long x6, rx_no, .int x8] [.long ((hl 83 j16) ||| (x6 &&& z17)), .int x8, .ref 83] (rx_hp L t hi17 hl17 v17) Q
    obtain ⟨j18, ej18, hj18, k⟩ := k
    refine rx_aw_last (pc := 130) (n := 4) j18 ej18 rfl rfl (by decide) rfl hj18 (by decide) ?_
    show rx_aw 74 131 [.ref 77, .int x1, .int x2, .ref (rx_ct j4), .long x4, rx_no, .long x6, rx_no, .int x8] [] (rx_hp L t hi17 (rx_u hl17 83 j18 ((hl 83 j16) ||| (x6 &&& z17))) v17) Q
    refine rx_aw_s 2 (pc := 131) rfl ?_
    show rx_aw 74 99 [.ref 77, .int x1, .int x2, .ref (rx_ct j4), .long x4, rx_no, .long x6, rx_no, .int (x8 + 1)] [] (rx_hp L t hi17 (rx_u hl17 83 j18 ((hl 83 j16) ||| (x6 &&& z17))) v17) Q
    exact k
/-- CartFloor$Search.isSpent(I)Z -/
theorem w76_isSpent {L : Nat} {t : List (Nat × Nat)} {hi : Nat → Nat → Int32} {hl : Nat → Nat → Int64} {v : Nat → Nat → Option Nat} {Q : Option Value → rx_H → Prop} {a0 : Int32} (k : ((a0 < (hi 77 9) → rx_aw 76 19 [.ref 77, .int a0, .int 1, .int 0, .int 0] [] (rx_hp L t hi hl v) Q) ∧ (¬ (a0 < (hi 77 9)) → rx_aw 76 19 [.ref 77, .int a0, .int 1, .int 1, .int 0] [] (rx_hp L t hi hl v) Q))) : rx_me 76 [.ref 77, .int a0] (rx_hp L t hi hl v) Q := by
  show rx_aw 76 0 [.ref 77, .int a0, rx_no, rx_no, rx_no] [] (rx_hp L t hi hl v) Q
  refine rx_aw_s 6 (pc := 0) rfl ?_
  refine rx_w_if (c := a0 < (hi 77 9)) ⟨fun c1 => ?_, fun c1 => ?_⟩
  · have k := k.1 c1
    show rx_aw 76 14 [.ref 77, .int a0, .int 1, rx_no, rx_no] [] (rx_hp L t hi hl v) Q
    refine rx_aw_s 4 (pc := 14) rfl ?_
    show rx_aw 76 19 [.ref 77, .int a0, .int 1, .int 0, .int 0] [] (rx_hp L t hi hl v) Q
    exact k
  · have k := k.2 c1
    show rx_aw 76 10 [.ref 77, .int a0, .int 1, rx_no, rx_no] [] (rx_hp L t hi hl v) Q
    refine rx_aw_s 5 (pc := 10) rfl ?_
    show rx_aw 76 19 [.ref 77, .int a0, .int 1, .int 1, .int 0] [] (rx_hp L t hi hl v) Q
    exact k
theorem w76_isSpent_19 {L : Nat} {t : List (Nat × Nat)} {hi : Nat → Nat → Int32} {hl : Nat → Nat → Int64} {v : Nat → Nat → Option Nat} {Q : Option Value → rx_H → Prop} {x1 : Int32} {x2 : Int32} {x3 : Int32} {x4 : Int32} (k : ((4 ≤ x4 → ((x2 = 0 → ((x3 = 0 → Q (some (.int 0)) (rx_hp L t hi hl v)) ∧ (¬ (x3 = 0) → Q (some (.int 1)) (rx_hp L t hi hl v)))) ∧ (¬ (x2 = 0) → Q (some (.int 1)) (rx_hp L t hi hl v)))) ∧ (¬ (4 ≤ x4) → (∃ j5 : Nat, (((4 * x1) + 4) + x4) = nI j5 ∧ j5 < 1608 ∧ (((lg_cmp (hl 80 j5) 0) = 0 → (∃ j7 : Nat, (((4 * x1) + 4) + x4) = nI j7 ∧ j7 < 1608 ∧ (∃ j8 : Nat, ((4 * x1) + x4) = nI j8 ∧ j8 < 1608 ∧ (((lg_cmp (hl 80 j7) (hl 80 j8)) = 0 → rx_aw 76 19 [.ref 77, .int x1, .int (x2 &&& 1), .int (x3 &&& 1), .int (x4 + 1)] [] (rx_hp L t hi hl v) Q) ∧ (¬ ((lg_cmp (hl 80 j7) (hl 80 j8)) = 0) → rx_aw 76 19 [.ref 77, .int x1, .int (x2 &&& 1), .int (x3 &&& 0), .int (x4 + 1)] [] (rx_hp L t hi hl v) Q))))) ∧ (¬ ((lg_cmp (hl 80 j5) 0) = 0) → (∃ j10 : Nat, (((4 * x1) + 4) + x4) = nI j10 ∧ j10 < 1608 ∧ (∃ j11 : Nat, ((4 * x1) + x4) = nI j11 ∧ j11 < 1608 ∧ (((lg_cmp (hl 80 j10) (hl 80 j11)) = 0 → rx_aw 76 19 [.ref 77, .int x1, .int (x2 &&& 0), .int (x3 &&& 1), .int (x4 + 1)] [] (rx_hp L t hi hl v) Q) ∧ (¬ ((lg_cmp (hl 80 j10) (hl 80 j11)) = 0) → rx_aw 76 19 [.ref 77, .int x1, .int (x2 &&& 0), .int (x3 &&& 0), .int (x4 + 1)] [] (rx_hp L t hi hl v) Q)))))))))) : rx_aw 76 19 [.ref 77, .int x1, .int x2, .int x3, .int x4] [] (rx_hp L t hi hl v) Q := by
  refine rx_aw_s 3 (pc := 19) rfl ?_
  refine rx_w_if (c := 4 ≤ x4) ⟨fun c2 => ?_, fun c2 => ?_⟩
  · have k := k.1 c2
    show rx_aw 76 93 [.ref 77, .int x1, .int x2, .int x3, .int x4] [] (rx_hp L t hi hl v) Q
    refine rx_aw_s 2 (pc := 93) rfl ?_
    refine rx_w_ifn (c := x2 = 0) ⟨fun c3 => ?_, fun c3 => ?_⟩
    · have k := k.1 c3
      show rx_aw 76 97 [.ref 77, .int x1, .int x2, .int x3, .int x4] [] (rx_hp L t hi hl v) Q
      refine rx_aw_s 2 (pc := 97) rfl ?_
      refine rx_w_if (c := x3 = 0) ⟨fun c4 => ?_, fun c4 => ?_⟩
      · have k := k.1 c4
        show rx_aw 76 105 [.ref 77, .int x1, .int x2, .int x3, .int x4] [] (rx_hp L t hi hl v) Q
        refine rx_aw_s 1 (pc := 105) rfl ?_
        show rx_aw 76 106 [.ref 77, .int x1, .int x2, .int x3, .int x4] [.int 0] (rx_hp L t hi hl v) Q
        exact rx_aw_ret (pc := 106) rfl k
      · have k := k.2 c4
        show rx_aw 76 101 [.ref 77, .int x1, .int x2, .int x3, .int x4] [] (rx_hp L t hi hl v) Q
        refine rx_aw_s 2 (pc := 101) rfl ?_
        show rx_aw 76 106 [.ref 77, .int x1, .int x2, .int x3, .int x4] [.int 1] (rx_hp L t hi hl v) Q
        exact rx_aw_ret (pc := 106) rfl k
    · have k := k.2 c3
      show rx_aw 76 101 [.ref 77, .int x1, .int x2, .int x3, .int x4] [] (rx_hp L t hi hl v) Q
      refine rx_aw_s 2 (pc := 101) rfl ?_
      show rx_aw 76 106 [.ref 77, .int x1, .int x2, .int x3, .int x4] [.int 1] (rx_hp L t hi hl v) Q
      exact rx_aw_ret (pc := 106) rfl k
  · have k := k.2 c2
    show rx_aw 76 25 [.ref 77, .int x1, .int x2, .int x3, .int x4] [] (rx_hp L t hi hl v) Q
    refine rx_aw_s 10 (pc := 25) rfl ?_
    show rx_aw 76 38 [.ref 77, .int x1, .int x2, .int x3, .int x4] [.int (((4 * x1) + 4) + x4), .ref 80, .int x2] (rx_hp L t hi hl v) Q
    obtain ⟨j5, ej5, hj5, k⟩ := k
    refine rx_aw_lald (pc := 38) (n := 1608) j5 ej5 rfl rfl (by decide) rfl hj5 (by decide) ?_
    show rx_aw 76 39 [.ref 77, .int x1, .int x2, .int x3, .int x4] [.long (hl 80 j5), .int x2] (rx_hp L t hi hl v) Q
    refine rx_aw_s 3 (pc := 39) rfl ?_
    refine rx_w_ifn (c := (lg_cmp (hl 80 j5) 0) = 0) ⟨fun c6 => ?_, fun c6 => ?_⟩
    · have k := k.1 c6
      show rx_aw 76 44 [.ref 77, .int x1, .int x2, .int x3, .int x4] [.int x2] (rx_hp L t hi hl v) Q
      refine rx_aw_s 14 (pc := 44) rfl ?_
      show rx_aw 76 64 [.ref 77, .int x1, .int (x2 &&& 1), .int x3, .int x4] [.int (((4 * x1) + 4) + x4), .ref 80, .int x3] (rx_hp L t hi hl v) Q
      obtain ⟨j7, ej7, hj7, k⟩ := k
      refine rx_aw_lald (pc := 64) (n := 1608) j7 ej7 rfl rfl (by decide) rfl hj7 (by decide) ?_
      show rx_aw 76 65 [.ref 77, .int x1, .int (x2 &&& 1), .int x3, .int x4] [.long (hl 80 j7), .int x3] (rx_hp L t hi hl v) Q
      refine rx_aw_s 7 (pc := 65) rfl ?_
      show rx_aw 76 75 [.ref 77, .int x1, .int (x2 &&& 1), .int x3, .int x4] [.int ((4 * x1) + x4), .ref 80, .long (hl 80 j7), .int x3] (rx_hp L t hi hl v) Q
      obtain ⟨j8, ej8, hj8, k⟩ := k
      refine rx_aw_lald (pc := 75) (n := 1608) j8 ej8 rfl rfl (by decide) rfl hj8 (by decide) ?_
      show rx_aw 76 76 [.ref 77, .int x1, .int (x2 &&& 1), .int x3, .int x4] [.long (hl 80 j8), .long (hl 80 j7), .int x3] (rx_hp L t hi hl v) Q
      refine rx_aw_s 2 (pc := 76) rfl ?_
      refine rx_w_ifn (c := (lg_cmp (hl 80 j7) (hl 80 j8)) = 0) ⟨fun c9 => ?_, fun c9 => ?_⟩
      · have k := k.1 c9
        show rx_aw 76 80 [.ref 77, .int x1, .int (x2 &&& 1), .int x3, .int x4] [.int x3] (rx_hp L t hi hl v) Q
        refine rx_aw_s 6 (pc := 80) rfl ?_
        show rx_aw 76 19 [.ref 77, .int x1, .int (x2 &&& 1), .int (x3 &&& 1), .int (x4 + 1)] [] (rx_hp L t hi hl v) Q
        exact k
      · have k := k.2 c9
        show rx_aw 76 84 [.ref 77, .int x1, .int (x2 &&& 1), .int x3, .int x4] [.int x3] (rx_hp L t hi hl v) Q
        refine rx_aw_s 5 (pc := 84) rfl ?_
        show rx_aw 76 19 [.ref 77, .int x1, .int (x2 &&& 1), .int (x3 &&& 0), .int (x4 + 1)] [] (rx_hp L t hi hl v) Q
        exact k
    · have k := k.2 c6
      show rx_aw 76 48 [.ref 77, .int x1, .int x2, .int x3, .int x4] [.int x2] (rx_hp L t hi hl v) Q
      refine rx_aw_s 13 (pc := 48) rfl ?_
      show rx_aw 76 64 [.ref 77, .int x1, .int (x2 &&& 0), .int x3, .int x4] [.int (((4 * x1) + 4) + x4), .ref 80, .int x3] (rx_hp L t hi hl v) Q
      obtain ⟨j10, ej10, hj10, k⟩ := k
      refine rx_aw_lald (pc := 64) (n := 1608) j10 ej10 rfl rfl (by decide) rfl hj10 (by decide) ?_
      show rx_aw 76 65 [.ref 77, .int x1, .int (x2 &&& 0), .int x3, .int x4] [.long (hl 80 j10), .int x3] (rx_hp L t hi hl v) Q
      refine rx_aw_s 7 (pc := 65) rfl ?_
      show rx_aw 76 75 [.ref 77, .int x1, .int (x2 &&& 0), .int x3, .int x4] [.int ((4 * x1) + x4), .ref 80, .long (hl 80 j10), .int x3] (rx_hp L t hi hl v) Q
      obtain ⟨j11, ej11, hj11, k⟩ := k
      refine rx_aw_lald (pc := 75) (n := 1608) j11 ej11 rfl rfl (by decide) rfl hj11 (by decide) ?_
      show rx_aw 76 76 [.ref 77, .int x1, .int (x2 &&& 0), .int x3, .int x4] [.long (hl 80 j11), .long (hl 80 j10), .int x3] (rx_hp L t hi hl v) Q
      refine rx_aw_s 2 (pc := 76) rfl ?_
      refine rx_w_ifn (c := (lg_cmp (hl 80 j10) (hl 80 j11)) = 0) ⟨fun c12 => ?_, fun c12 => ?_⟩
      · have k := k.1 c12
        show rx_aw 76 80 [.ref 77, .int x1, .int (x2 &&& 0), .int x3, .int x4] [.int x3] (rx_hp L t hi hl v) Q
        refine rx_aw_s 6 (pc := 80) rfl ?_
        show rx_aw 76 19 [.ref 77, .int x1, .int (x2 &&& 0), .int (x3 &&& 1), .int (x4 + 1)] [] (rx_hp L t hi hl v) Q
        exact k
      · have k := k.2 c12
        show rx_aw 76 84 [.ref 77, .int x1, .int (x2 &&& 0), .int x3, .int x4] [.int x3] (rx_hp L t hi hl v) Q
        refine rx_aw_s 5 (pc := 84) rfl ?_
        show rx_aw 76 19 [.ref 77, .int x1, .int (x2 &&& 0), .int (x3 &&& 0), .int (x4 + 1)] [] (rx_hp L t hi hl v) Q
        exact k
/-- CartFloor$Search.narrow(I)V -/
theorem w77_narrow {L : Nat} {t : List (Nat × Nat)} {hi : Nat → Nat → Int32} {hl : Nat → Nat → Int64} {v : Nat → Nat → Option Nat} {Q : Option Value → rx_H → Prop} {a0 : Int32} (k : (∃ j1 : Nat, ((4 * a0) + 4) = nI j1 ∧ j1 < 1608 ∧ (∃ j2 : Nat, ((4 * a0) + 5) = nI j2 ∧ j2 < 1608 ∧ (∃ j3 : Nat, ((4 * a0) + 6) = nI j3 ∧ j3 < 1608 ∧ (∃ j4 : Nat, ((4 * a0) + 7) = nI j4 ∧ j4 < 1608 ∧ rx_me 78 [.ref 7, .long ((((hl 80 j1) ||| (hl 80 j2)) ||| (hl 80 j3)) ||| (hl 80 j4))] (rx_hp L t hi hl v) (fun r h2 => ∃ z5 : Int64, r = some (.long z5) ∧ rx_ok2 L t h2 (fun hi5 hl5 v5 => (((v5 77 8) = none ∧ False) ∨ (∃ q6 : Nat, q6 < 6 ∧ (v5 77 8) = some (rx_ct q6) ∧ (((hi5 (rx_ct q6) 5) < 2 → rx_me 74 [.ref 77, .int a0] (rx_hp L t hi5 hl5 v5) (fun r h2 => r = none ∧ rx_ok2 L t h2 (fun hi8 hl8 v8 => rx_aw 77 77 [.ref 77, .int a0, .int (4 * a0), .long z5, rx_no, .int 0, rx_no, rx_no, rx_no, rx_no, rx_no, rx_no, rx_no] [] (rx_hp L t hi8 hl8 v8) Q))) ∧ (¬ ((hi5 (rx_ct q6) 5) < 2) → rx_me 78 [.ref 7, .long z5] (rx_hp L t hi5 hl5 v5) (fun r h2 => ∃ z9 : Int64, r = some (.long z9) ∧ rx_ok2 L t h2 (fun hi9 hl9 v9 => rx_me 74 [.ref 77, .int a0] (rx_hp L t hi9 hl9 v9) (fun r h2 => r = none ∧ rx_ok2 L t h2 (fun hi10 hl10 v10 => rx_aw 77 77 [.ref 77, .int a0, .int (4 * a0), .long z9, rx_no, .int 0, rx_no, rx_no, rx_no, rx_no, rx_no, rx_no, rx_no] [] (rx_hp L t hi10 hl10 v10) Q))))))))))))))) : rx_me 77 [.ref 77, .int a0] (rx_hp L t hi hl v) Q := by
  show rx_aw 77 0 [.ref 77, .int a0, rx_no, rx_no, rx_no, rx_no, rx_no, rx_no, rx_no, rx_no, rx_no, rx_no, rx_no] [] (rx_hp L t hi hl v) Q
  refine rx_aw_s 11 (pc := 0) rfl ?_
  show rx_aw 77 15 [.ref 77, .int a0, .int (4 * a0), rx_no, rx_no, rx_no, rx_no, rx_no, rx_no, rx_no, rx_no, rx_no, rx_no] [.int ((4 * a0) + 4), .ref 80, .ref 7] (rx_hp L t hi hl v) Q
  obtain ⟨j1, ej1, hj1, k⟩ := k
  refine rx_aw_lald (pc := 15) (n := 1608) j1 ej1 rfl rfl (by decide) rfl hj1 (by decide) ?_
  show rx_aw 77 16 [.ref 77, .int a0, .int (4 * a0), rx_no, rx_no, rx_no, rx_no, rx_no, rx_no, rx_no, rx_no, rx_no, rx_no] [.long (hl 80 j1), .ref 7] (rx_hp L t hi hl v) Q
  refine rx_aw_s 5 (pc := 16) rfl ?_
  show rx_aw 77 23 [.ref 77, .int a0, .int (4 * a0), rx_no, rx_no, rx_no, rx_no, rx_no, rx_no, rx_no, rx_no, rx_no, rx_no] [.int ((4 * a0) + 5), .ref 80, .long (hl 80 j1), .ref 7] (rx_hp L t hi hl v) Q
  obtain ⟨j2, ej2, hj2, k⟩ := k
  refine rx_aw_lald (pc := 23) (n := 1608) j2 ej2 rfl rfl (by decide) rfl hj2 (by decide) ?_
  show rx_aw 77 24 [.ref 77, .int a0, .int (4 * a0), rx_no, rx_no, rx_no, rx_no, rx_no, rx_no, rx_no, rx_no, rx_no, rx_no] [.long (hl 80 j2), .long (hl 80 j1), .ref 7] (rx_hp L t hi hl v) Q
  refine rx_aw_s 6 (pc := 24) rfl ?_
  show rx_aw 77 33 [.ref 77, .int a0, .int (4 * a0), rx_no, rx_no, rx_no, rx_no, rx_no, rx_no, rx_no, rx_no, rx_no, rx_no] [.int ((4 * a0) + 6), .ref 80, .long ((hl 80 j1) ||| (hl 80 j2)), .ref 7] (rx_hp L t hi hl v) Q
  obtain ⟨j3, ej3, hj3, k⟩ := k
  refine rx_aw_lald (pc := 33) (n := 1608) j3 ej3 rfl rfl (by decide) rfl hj3 (by decide) ?_
  show rx_aw 77 34 [.ref 77, .int a0, .int (4 * a0), rx_no, rx_no, rx_no, rx_no, rx_no, rx_no, rx_no, rx_no, rx_no, rx_no] [.long (hl 80 j3), .long ((hl 80 j1) ||| (hl 80 j2)), .ref 7] (rx_hp L t hi hl v) Q
  refine rx_aw_s 6 (pc := 34) rfl ?_
  show rx_aw 77 43 [.ref 77, .int a0, .int (4 * a0), rx_no, rx_no, rx_no, rx_no, rx_no, rx_no, rx_no, rx_no, rx_no, rx_no] [.int ((4 * a0) + 7), .ref 80, .long (((hl 80 j1) ||| (hl 80 j2)) ||| (hl 80 j3)), .ref 7] (rx_hp L t hi hl v) Q
  obtain ⟨j4, ej4, hj4, k⟩ := k
  refine rx_aw_lald (pc := 43) (n := 1608) j4 ej4 rfl rfl (by decide) rfl hj4 (by decide) ?_
  show rx_aw 77 44 [.ref 77, .int a0, .int (4 * a0), rx_no, rx_no, rx_no, rx_no, rx_no, rx_no, rx_no, rx_no, rx_no, rx_no] [.long (hl 80 j4), .long (((hl 80 j1) ||| (hl 80 j2)) ||| (hl 80 j3)), .ref 7] (rx_hp L t hi hl v) Q
  refine rx_aw_s 1 (pc := 44) rfl ?_
  show rx_aw 77 45 [.ref 77, .int a0, .int (4 * a0), rx_no, rx_no, rx_no, rx_no, rx_no, rx_no, rx_no, rx_no, rx_no, rx_no] [.long ((((hl 80 j1) ||| (hl 80 j2)) ||| (hl 80 j3)) ||| (hl 80 j4)), .ref 7] (rx_hp L t hi hl v) Q
  refine rx_w_callL (j := 78) (pc := 45) rfl rfl rfl rfl rfl ?_
  refine rx_aw.mono k (fun r h2 k => ?_)
  obtain ⟨z5, rfl, hi5, hl5, v5, rfl, k⟩ := k
  refine ⟨z5, rfl, ?_⟩
  show rx_aw 77 48 [.ref 77, .int a0, .int (4 * a0), rx_no, rx_no, rx_no, rx_no, rx_no, rx_no, rx_no, rx_no, rx_no, rx_no] [.long z5] (rx_hp L t hi5 hl5 v5) Q
  refine rx_aw_s 3 (pc := 48) rfl ?_
  show rx_aw 77 53 [.ref 77, .int a0, .int (4 * a0), .long z5, rx_no, rx_no, rx_no, rx_no, rx_no, rx_no, rx_no, rx_no, rx_no] [va_rf (v5 77 8)] (rx_hp L t hi5 hl5 v5) Q
  rcases k with ⟨eq6, k⟩ | ⟨q6, hq6, eq6, k⟩
  · rw [eq6]
    show rx_aw 77 53 [.ref 77, .int a0, .int (4 * a0), .long z5, rx_no, rx_no, rx_no, rx_no, rx_no, rx_no, rx_no, rx_no, rx_no] [.null] (rx_hp L t hi5 hl5 v5) Q
    exact k.elim
  · rw [eq6]
    show rx_aw 77 53 [.ref 77, .int a0, .int (4 * a0), .long z5, rx_no, rx_no, rx_no, rx_no, rx_no, rx_no, rx_no, rx_no, rx_no] [.ref (rx_ct q6)] (rx_hp L t hi5 hl5 v5) Q
    refine rx_w_cg hq6 (pc := 53) rfl (by decide) (by decide) ?_
    show rx_aw 77 56 [.ref 77, .int a0, .int (4 * a0), .long z5, rx_no, rx_no, rx_no, rx_no, rx_no, rx_no, rx_no, rx_no, rx_no] [.int (hi5 (rx_ct q6) 5)] (rx_hp L t hi5 hl5 v5) Q
    refine rx_aw_s 2 (pc := 56) rfl ?_
    refine rx_w_if (c := (hi5 (rx_ct q6) 5) < 2) ⟨fun c7 => ?_, fun c7 => ?_⟩
    · have k := k.1 c7
      show rx_aw 77 69 [.ref 77, .int a0, .int (4 * a0), .long z5, rx_no, rx_no, rx_no, rx_no, rx_no, rx_no, rx_no, rx_no, rx_no] [] (rx_hp L t hi5 hl5 v5) Q
      refine rx_aw_s 2 (pc := 69) rfl ?_
      show rx_aw 77 71 [.ref 77, .int a0, .int (4 * a0), .long z5, rx_no, rx_no, rx_no, rx_no, rx_no, rx_no, rx_no, rx_no, rx_no] [.int a0, .ref 77] (rx_hp L t hi5 hl5 v5) Q
      refine rx_w_callV (j := 74) (pc := 71) rfl rfl rfl rfl rfl ?_
      refine rx_aw.mono k (fun r h2 k => ?_)
      obtain ⟨rfl, hi8, hl8, v8, rfl, k⟩ := k
      refine ⟨rfl, ?_⟩
      show rx_aw 77 74 [.ref 77, .int a0, .int (4 * a0), .long z5, rx_no, rx_no, rx_no, rx_no, rx_no, rx_no, rx_no, rx_no, rx_no] [] (rx_hp L t hi8 hl8 v8) Q
      refine rx_aw_s 2 (pc := 74) rfl ?_
      show rx_aw 77 77 [.ref 77, .int a0, .int (4 * a0), .long z5, rx_no, .int 0, rx_no, rx_no, rx_no, rx_no, rx_no, rx_no, rx_no] [] (rx_hp L t hi8 hl8 v8) Q
      exact k
    · have k := k.2 c7
      show rx_aw 77 60 [.ref 77, .int a0, .int (4 * a0), .long z5, rx_no, rx_no, rx_no, rx_no, rx_no, rx_no, rx_no, rx_no, rx_no] [] (rx_hp L t hi5 hl5 v5) Q
      refine rx_aw_s 3 (pc := 60) rfl ?_
      show rx_aw 77 65 [.ref 77, .int a0, .int (4 * a0), .long z5, rx_no, rx_no, rx_no, rx_no, rx_no, rx_no, rx_no, rx_no, rx_no] [.long z5, .ref 7] (rx_hp L t hi5 hl5 v5) Q
      refine rx_w_callL (j := 78) (pc := 65) rfl rfl rfl rfl rfl ?_
      refine rx_aw.mono k (fun r h2 k => ?_)
      obtain ⟨z9, rfl, hi9, hl9, v9, rfl, k⟩ := k
      refine ⟨z9, rfl, ?_⟩
      show rx_aw 77 68 [.ref 77, .int a0, .int (4 * a0), .long z5, rx_no, rx_no, rx_no, rx_no, rx_no, rx_no, rx_no, rx_no, rx_no] [.long z9] (rx_hp L t hi9 hl9 v9) Q
      refine rx_aw_s 3 (pc := 68) rfl ?_
      show rx_aw 77 71 [.ref 77, .int a0, .int (4 * a0), .long z9, rx_no, rx_no, rx_no, rx_no, rx_no, rx_no, rx_no, rx_no, rx_no] [.int a0, .ref 77] (rx_hp L t hi9 hl9 v9) Q
      refine rx_w_callV (j := 74) (pc := 71) rfl rfl rfl rfl rfl ?_
      refine rx_aw.mono k (fun r h2 k => ?_)
      obtain ⟨rfl, hi10, hl10, v10, rfl, k⟩ := k
      refine ⟨rfl, ?_⟩
      show rx_aw 77 74 [.ref 77, .int a0, .int (4 * a0), .long z9, rx_no, rx_no, rx_no, rx_no, rx_no, rx_no, rx_no, rx_no, rx_no] [] (rx_hp L t hi10 hl10 v10) Q
      refine rx_aw_s 2 (pc := 74) rfl ?_
      show rx_aw 77 77 [.ref 77, .int a0, .int (4 * a0), .long z9, rx_no, .int 0, rx_no, rx_no, rx_no, rx_no, rx_no, rx_no, rx_no] [] (rx_hp L t hi10 hl10 v10) Q
      exact k
theorem w77_narrow_77 {L : Nat} {t : List (Nat × Nat)} {hi : Nat → Nat → Int32} {hl : Nat → Nat → Int64} {v : Nat → Nat → Option Nat} {Q : Option Value → rx_H → Prop} {x1 : Int32} {x2 : Int32} {x3 : Int64} {x5 : Int32} (k : ((4 ≤ x5 → Q none (rx_hp L t hi hl v)) ∧ (¬ (4 ≤ x5) → (∃ j12 : Nat, (x2 + x5) = nI j12 ∧ j12 < 1608 ∧ rx_aw 77 102 [.ref 77, .int x1, .int x2, .long x3, rx_no, .int x5, .long ((hl 80 j12) &&& x3), rx_no, .long 0, rx_no, .int 0, rx_no, rx_no] [] (rx_hp L t hi hl v) Q)))) : rx_aw 77 77 [.ref 77, .int x1, .int x2, .long x3, rx_no, .int x5, rx_no, rx_no, rx_no, rx_no, rx_no, rx_no, rx_no] [] (rx_hp L t hi hl v) Q := by
  refine rx_aw_s 3 (pc := 77) rfl ?_
  refine rx_w_if (c := 4 ≤ x5) ⟨fun c11 => ?_, fun c11 => ?_⟩
  · have k := k.1 c11
    show rx_aw 77 182 [.ref 77, .int x1, .int x2, .long x3, rx_no, .int x5, rx_no, rx_no, rx_no, rx_no, rx_no, rx_no, rx_no] [] (rx_hp L t hi hl v) Q
    exact rx_aw_ret (pc := 182) rfl k
  · have k := k.2 c11
    show rx_aw 77 83 [.ref 77, .int x1, .int x2, .long x3, rx_no, .int x5, rx_no, rx_no, rx_no, rx_no, rx_no, rx_no, rx_no] [] (rx_hp L t hi hl v) Q
    refine rx_aw_s 5 (pc := 83) rfl ?_
    show rx_aw 77 91 [.ref 77, .int x1, .int x2, .long x3, rx_no, .int x5, rx_no, rx_no, rx_no, rx_no, rx_no, rx_no, rx_no] [.int (x2 + x5), .ref 80] (rx_hp L t hi hl v) Q
    obtain ⟨j12, ej12, hj12, k⟩ := k
    refine rx_aw_lald (pc := 91) (n := 1608) j12 ej12 rfl rfl (by decide) rfl hj12 (by decide) ?_
    show rx_aw 77 92 [.ref 77, .int x1, .int x2, .long x3, rx_no, .int x5, rx_no, rx_no, rx_no, rx_no, rx_no, rx_no, rx_no] [.long (hl 80 j12)] (rx_hp L t hi hl v) Q
    refine rx_aw_s 7 (pc := 92) rfl ?_
    show rx_aw 77 102 [.ref 77, .int x1, .int x2, .long x3, rx_no, .int x5, .long ((hl 80 j12) &&& x3), rx_no, .long 0, rx_no, .int 0, rx_no, rx_no] [] (rx_hp L t hi hl v) Q
    exact k
theorem w77_narrow_102 {L : Nat} {t : List (Nat × Nat)} {hi : Nat → Nat → Int32} {hl : Nat → Nat → Int64} {v : Nat → Nat → Option Nat} {Q : Option Value → rx_H → Prop} {x1 : Int32} {x2 : Int32} {x3 : Int64} {x5 : Int32} {x6 : Int64} {x8 : Int64} {x10 : Int32} (k : ((64 ≤ x10 → (∃ j14 : Nat, (x2 + x5) = nI j14 ∧ j14 < 1608 ∧ rx_aw 77 77 [.ref 77, .int x1, .int x2, .long x3, rx_no, .int (x5 + 1), rx_no, rx_no, rx_no, rx_no, rx_no, rx_no, rx_no] [] (rx_hp L t hi (rx_u hl 80 j14 x8) v) Q)) ∧ (¬ (64 ≤ x10) → (((lg_cmp x6 0) = 0 → (∃ j16 : Nat, (x2 + x5) = nI j16 ∧ j16 < 1608 ∧ rx_aw 77 77 [.ref 77, .int x1, .int x2, .long x3, rx_no, .int (x5 + 1), rx_no, rx_no, rx_no, rx_no, rx_no, rx_no, rx_no] [] (rx_hp L t hi (rx_u hl 80 j16 x8) v) Q)) ∧ (¬ ((lg_cmp x6 0) = 0) → rx_me 13 [.long ((x6 &&& (-x6)) - 1)] (rx_hp L t hi hl v) (fun r h2 => ∃ z17 : Int32, r = some (.int z17) ∧ rx_ok2 L t h2 (fun hi17 hl17 v17 => rx_me 79 [.ref 77, .int x1, .int ((x5 <<< (6 &&& 31)) ||| z17)] (rx_hp L t hi17 hl17 v17) (fun r h2 => ∃ z18 : Int32, r = some (.int z18) ∧ rx_ok2 L t h2 (fun hi18 hl18 v18 => ((z18 = 0 → rx_aw 77 102 [.ref 77, .int x1, .int x2, .long x3, rx_no, .int x5, .long (x6 ^^^ (x6 &&& (-x6))), rx_no, .long x8, rx_no, .int (x10 + 1), rx_no, rx_no] [] (rx_hp L t hi18 hl18 v18) Q) ∧ (¬ (z18 = 0) → rx_aw 77 102 [.ref 77, .int x1, .int x2, .long x3, rx_no, .int x5, .long (x6 ^^^ (x6 &&& (-x6))), rx_no, .long (x8 ||| (x6 &&& (-x6))), rx_no, .int (x10 + 1), rx_no, rx_no] [] (rx_hp L t hi18 hl18 v18) Q))))))))))) : rx_aw 77 102 [.ref 77, .int x1, .int x2, .long x3, rx_no, .int x5, .long x6, rx_no, .long x8, rx_no, .int x10, rx_no, rx_no] [] (rx_hp L t hi hl v) Q := by
  refine rx_aw_s 3 (pc := 102) rfl ?_
  refine rx_w_if (c := 64 ≤ x10) ⟨fun c13 => ?_, fun c13 => ?_⟩
  · have k := k.1 c13
    show rx_aw 77 165 [.ref 77, .int x1, .int x2, .long x3, rx_no, .int x5, .long x6, rx_no, .long x8, rx_no, .int x10, rx_no, rx_no] [] (rx_hp L t hi hl v) Q
    refine rx_aw_s 6 (pc := 165) rfl ?_
    show rx_aw 77 175 [.ref 77, .int x1, .int x2, .long x3, rx_no, .int x5, .long x6, rx_no, .long x8, rx_no, .int x10, rx_no, rx_no] [.long x8, .int (x2 + x5), .ref 80] (rx_hp L t hi hl v) Q
    obtain ⟨j14, ej14, hj14, k⟩ := k
    refine rx_aw_last (pc := 175) (n := 1608) j14 ej14 rfl rfl (by decide) rfl hj14 (by decide) ?_
    show rx_aw 77 176 [.ref 77, .int x1, .int x2, .long x3, rx_no, .int x5, .long x6, rx_no, .long x8, rx_no, .int x10, rx_no, rx_no] [] (rx_hp L t hi (rx_u hl 80 j14 x8) v) Q
    refine rx_aw_s 2 (pc := 176) rfl ?_
    show rx_aw 77 77 [.ref 77, .int x1, .int x2, .long x3, rx_no, .int (x5 + 1), .long x6, rx_no, .long x8, rx_no, .int x10, rx_no, rx_no] [] (rx_hp L t hi (rx_u hl 80 j14 x8) v) Q
    exact rx_aw_le (ls := [.ref 77, .int x1, .int x2, .long x3, rx_no, .int (x5 + 1), rx_no, rx_no, rx_no, rx_no, rx_no, rx_no, rx_no]) ⟨Or.inr rfl, ⟨Or.inr rfl, ⟨Or.inr rfl, ⟨Or.inr rfl, ⟨Or.inl rfl, ⟨Or.inr rfl, ⟨Or.inl rfl, ⟨Or.inl rfl, ⟨Or.inl rfl, ⟨Or.inl rfl, ⟨Or.inl rfl, ⟨Or.inl rfl, ⟨Or.inl rfl, trivial⟩⟩⟩⟩⟩⟩⟩⟩⟩⟩⟩⟩⟩ k
  · have k := k.2 c13
    show rx_aw 77 109 [.ref 77, .int x1, .int x2, .long x3, rx_no, .int x5, .long x6, rx_no, .long x8, rx_no, .int x10, rx_no, rx_no] [] (rx_hp L t hi hl v) Q
    refine rx_aw_s 4 (pc := 109) rfl ?_
    refine rx_w_if (c := (lg_cmp x6 0) = 0) ⟨fun c15 => ?_, fun c15 => ?_⟩
    · have k := k.1 c15
      show rx_aw 77 165 [.ref 77, .int x1, .int x2, .long x3, rx_no, .int x5, .long x6, rx_no, .long x8, rx_no, .int x10, rx_no, rx_no] [] (rx_hp L t hi hl v) Q
      refine rx_aw_s 6 (pc := 165) rfl ?_
      show rx_aw 77 175 [.ref 77, .int x1, .int x2, .long x3, rx_no, .int x5, .long x6, rx_no, .long x8, rx_no, .int x10, rx_no, rx_no] [.long x8, .int (x2 + x5), .ref 80] (rx_hp L t hi hl v) Q
      obtain ⟨j16, ej16, hj16, k⟩ := k
      refine rx_aw_last (pc := 175) (n := 1608) j16 ej16 rfl rfl (by decide) rfl hj16 (by decide) ?_
      show rx_aw 77 176 [.ref 77, .int x1, .int x2, .long x3, rx_no, .int x5, .long x6, rx_no, .long x8, rx_no, .int x10, rx_no, rx_no] [] (rx_hp L t hi (rx_u hl 80 j16 x8) v) Q
      refine rx_aw_s 2 (pc := 176) rfl ?_
      show rx_aw 77 77 [.ref 77, .int x1, .int x2, .long x3, rx_no, .int (x5 + 1), .long x6, rx_no, .long x8, rx_no, .int x10, rx_no, rx_no] [] (rx_hp L t hi (rx_u hl 80 j16 x8) v) Q
      exact rx_aw_le (ls := [.ref 77, .int x1, .int x2, .long x3, rx_no, .int (x5 + 1), rx_no, rx_no, rx_no, rx_no, rx_no, rx_no, rx_no]) ⟨Or.inr rfl, ⟨Or.inr rfl, ⟨Or.inr rfl, ⟨Or.inr rfl, ⟨Or.inl rfl, ⟨Or.inr rfl, ⟨Or.inl rfl, ⟨Or.inl rfl, ⟨Or.inl rfl, ⟨Or.inl rfl, ⟨Or.inl rfl, ⟨Or.inl rfl, ⟨Or.inl rfl, trivial⟩⟩⟩⟩⟩⟩⟩⟩⟩⟩⟩⟩⟩ k
    · have k := k.2 c15
      show rx_aw 77 116 [.ref 77, .int x1, .int x2, .long x3, rx_no, .int x5, .long x6, rx_no, .long x8, rx_no, .int x10, rx_no, rx_no] [] (rx_hp L t hi hl v) Q
      refine rx_aw_s 17 (pc := 116) rfl ?_
      show rx_aw 77 142 [.ref 77, .int x1, .int x2, .long x3, rx_no, .int x5, .long (x6 ^^^ (x6 &&& (-x6))), rx_no, .long x8, rx_no, .int x10, .long (x6 &&& (-x6)), rx_no] [.long ((x6 &&& (-x6)) - 1), .int (x5 <<< (6 &&& 31)), .int x1, .ref 77] (rx_hp L t hi hl v) Q
      refine rx_w_callI (j := 13) (pc := 142) rfl rfl rfl rfl rfl ?_
      refine rx_aw.mono k (fun r h2 k => ?_)
      obtain ⟨z17, rfl, hi17, hl17, v17, rfl, k⟩ := k
      refine ⟨z17, rfl, ?_⟩
      show rx_aw 77 145 [.ref 77, .int x1, .int x2, .long x3, rx_no, .int x5, .long (x6 ^^^ (x6 &&& (-x6))), rx_no, .long x8, rx_no, .int x10, .long (x6 &&& (-x6)), rx_no] [.int z17, .int (x5 <<< (6 &&& 31)), .int x1, .ref 77] (rx_hp L t hi17 hl17 v17) Q
      refine rx_aw_s 1 (pc := 145) rfl ?_
      show rx_aw 77 146 [.ref 77, .int x1, .int x2, .long x3, rx_no, .int x5, .long (x6 ^^^ (x6 &&& (-x6))), rx_no, .long x8, rx_no, .int x10, .long (x6 &&& (-x6)), rx_no] [.int ((x5 <<< (6 &&& 31)) ||| z17), .int x1, .ref 77] (rx_hp L t hi17 hl17 v17) Q
      refine rx_w_callI (j := 79) (pc := 146) rfl rfl rfl rfl rfl ?_
      refine rx_aw.mono k (fun r h2 k => ?_)
      obtain ⟨z18, rfl, hi18, hl18, v18, rfl, k⟩ := k
      refine ⟨z18, rfl, ?_⟩
      show rx_aw 77 149 [.ref 77, .int x1, .int x2, .long x3, rx_no, .int x5, .long (x6 ^^^ (x6 &&& (-x6))), rx_no, .long x8, rx_no, .int x10, .long (x6 &&& (-x6)), rx_no] [.int z18] (rx_hp L t hi18 hl18 v18) Q
      refine rx_aw_s 1 (pc := 149) rfl ?_
      refine rx_w_if (c := z18 = 0) ⟨fun c19 => ?_, fun c19 => ?_⟩
      · have k := k.1 c19
        show rx_aw 77 159 [.ref 77, .int x1, .int x2, .long x3, rx_no, .int x5, .long (x6 ^^^ (x6 &&& (-x6))), rx_no, .long x8, rx_no, .int x10, .long (x6 &&& (-x6)), rx_no] [] (rx_hp L t hi18 hl18 v18) Q
        refine rx_aw_s 2 (pc := 159) rfl ?_
        show rx_aw 77 102 [.ref 77, .int x1, .int x2, .long x3, rx_no, .int x5, .long (x6 ^^^ (x6 &&& (-x6))), rx_no, .long x8, rx_no, .int (x10 + 1), .long (x6 &&& (-x6)), rx_no] [] (rx_hp L t hi18 hl18 v18) Q
        exact rx_aw_le (ls := [.ref 77, .int x1, .int x2, .long x3, rx_no, .int x5, .long (x6 ^^^ (x6 &&& (-x6))), rx_no, .long x8, rx_no, .int (x10 + 1), rx_no, rx_no]) ⟨Or.inr rfl, ⟨Or.inr rfl, ⟨Or.inr rfl, ⟨Or.inr rfl, ⟨Or.inl rfl, ⟨Or.inr rfl, ⟨Or.inr rfl, ⟨Or.inl rfl, ⟨Or.inr rfl, ⟨Or.inl rfl, ⟨Or.inr rfl, ⟨Or.inl rfl, ⟨Or.inl rfl, trivial⟩⟩⟩⟩⟩⟩⟩⟩⟩⟩⟩⟩⟩ k
      · have k := k.2 c19
        show rx_aw 77 152 [.ref 77, .int x1, .int x2, .long x3, rx_no, .int x5, .long (x6 ^^^ (x6 &&& (-x6))), rx_no, .long x8, rx_no, .int x10, .long (x6 &&& (-x6)), rx_no] [] (rx_hp L t hi18 hl18 v18) Q
        refine rx_aw_s 6 (pc := 152) rfl ?_
        show rx_aw 77 102 [.ref 77, .int x1, .int x2, .long x3, rx_no, .int x5, .long (x6 ^^^ (x6 &&& (-x6))), rx_no, .long (x8 ||| (x6 &&& (-x6))), rx_no, .int (x10 + 1), .long (x6 &&& (-x6)), rx_no] [] (rx_hp L t hi18 hl18 v18) Q
        exact rx_aw_le (ls := [.ref 77, .int x1, .int x2, .long x3, rx_no, .int x5, .long (x6 ^^^ (x6 &&& (-x6))), rx_no, .long (x8 ||| (x6 &&& (-x6))), rx_no, .int (x10 + 1), rx_no, rx_no]) ⟨Or.inr rfl, ⟨Or.inr rfl, ⟨Or.inr rfl, ⟨Or.inr rfl, ⟨Or.inl rfl, ⟨Or.inr rfl, ⟨Or.inr rfl, ⟨Or.inl rfl, ⟨Or.inr rfl, ⟨Or.inl rfl, ⟨Or.inr rfl, ⟨Or.inl rfl, ⟨Or.inl rfl, trivial⟩⟩⟩⟩⟩⟩⟩⟩⟩⟩⟩⟩⟩ k
/-- CartFloor$Floor.spread(J)J -/
theorem w78_spread {L : Nat} {t : List (Nat × Nat)} {hi : Nat → Nat → Int32} {hl : Nat → Nat → Int64} {v : Nat → Nat → Option Nat} {Q : Option Value → rx_H → Prop} {a0 : Int64} (k : rx_me 12 [.ref 7, .long a0, .int 0] (rx_hp L t hi hl v) (fun r h2 => ∃ z1 : Int64, r = some (.long z1) ∧ rx_ok2 L t h2 (fun hi1 hl1 v1 => rx_me 12 [.ref 7, .long a0, .int 1] (rx_hp L t hi1 hl1 v1) (fun r h2 => ∃ z2 : Int64, r = some (.long z2) ∧ rx_ok2 L t h2 (fun hi2 hl2 v2 => rx_me 12 [.ref 7, .long a0, .int 2] (rx_hp L t hi2 hl2 v2) (fun r h2 => ∃ z3 : Int64, r = some (.long z3) ∧ rx_ok2 L t h2 (fun hi3 hl3 v3 => rx_me 12 [.ref 7, .long a0, .int 3] (rx_hp L t hi3 hl3 v3) (fun r h2 => ∃ z4 : Int64, r = some (.long z4) ∧ rx_ok2 L t h2 (fun hi4 hl4 v4 => Q (some (.long ((((a0 ||| z1) ||| z2) ||| z3) ||| z4))) (rx_hp L t hi4 hl4 v4)))))))))) : rx_me 78 [.ref 7, .long a0] (rx_hp L t hi hl v) Q := by
  show rx_aw 78 0 [.ref 7, .long a0, rx_no] [] (rx_hp L t hi hl v) Q
  refine rx_aw_s 4 (pc := 0) rfl ?_
  show rx_aw 78 4 [.ref 7, .long a0, rx_no] [.int 0, .long a0, .ref 7, .long a0] (rx_hp L t hi hl v) Q
  refine rx_w_callL (j := 12) (pc := 4) rfl rfl rfl rfl rfl ?_
  refine rx_aw.mono k (fun r h2 k => ?_)
  obtain ⟨z1, rfl, hi1, hl1, v1, rfl, k⟩ := k
  refine ⟨z1, rfl, ?_⟩
  show rx_aw 78 7 [.ref 7, .long a0, rx_no] [.long z1, .long a0] (rx_hp L t hi1 hl1 v1) Q
  refine rx_aw_s 4 (pc := 7) rfl ?_
  show rx_aw 78 11 [.ref 7, .long a0, rx_no] [.int 1, .long a0, .ref 7, .long (a0 ||| z1)] (rx_hp L t hi1 hl1 v1) Q
  refine rx_w_callL (j := 12) (pc := 11) rfl rfl rfl rfl rfl ?_
  refine rx_aw.mono k (fun r h2 k => ?_)
  obtain ⟨z2, rfl, hi2, hl2, v2, rfl, k⟩ := k
  refine ⟨z2, rfl, ?_⟩
  show rx_aw 78 14 [.ref 7, .long a0, rx_no] [.long z2, .long (a0 ||| z1)] (rx_hp L t hi2 hl2 v2) Q
  refine rx_aw_s 4 (pc := 14) rfl ?_
  show rx_aw 78 18 [.ref 7, .long a0, rx_no] [.int 2, .long a0, .ref 7, .long ((a0 ||| z1) ||| z2)] (rx_hp L t hi2 hl2 v2) Q
  refine rx_w_callL (j := 12) (pc := 18) rfl rfl rfl rfl rfl ?_
  refine rx_aw.mono k (fun r h2 k => ?_)
  obtain ⟨z3, rfl, hi3, hl3, v3, rfl, k⟩ := k
  refine ⟨z3, rfl, ?_⟩
  show rx_aw 78 21 [.ref 7, .long a0, rx_no] [.long z3, .long ((a0 ||| z1) ||| z2)] (rx_hp L t hi3 hl3 v3) Q
  refine rx_aw_s 4 (pc := 21) rfl ?_
  show rx_aw 78 25 [.ref 7, .long a0, rx_no] [.int 3, .long a0, .ref 7, .long (((a0 ||| z1) ||| z2) ||| z3)] (rx_hp L t hi3 hl3 v3) Q
  refine rx_w_callL (j := 12) (pc := 25) rfl rfl rfl rfl rfl ?_
  refine rx_aw.mono k (fun r h2 k => ?_)
  obtain ⟨z4, rfl, hi4, hl4, v4, rfl, k⟩ := k
  refine ⟨z4, rfl, ?_⟩
  show rx_aw 78 28 [.ref 7, .long a0, rx_no] [.long z4, .long (((a0 ||| z1) ||| z2) ||| z3)] (rx_hp L t hi4 hl4 v4) Q
  refine rx_aw_s 1 (pc := 28) rfl ?_
  show rx_aw 78 29 [.ref 7, .long a0, rx_no] [.long ((((a0 ||| z1) ||| z2) ||| z3) ||| z4)] (rx_hp L t hi4 hl4 v4) Q
  exact rx_aw_ret (pc := 29) rfl k
/-- CartFloor$Search.pick(II)Z -/
theorem w79_pick {L : Nat} {t : List (Nat × Nat)} {hi : Nat → Nat → Int32} {hl : Nat → Nat → Int64} {v : Nat → Nat → Option Nat} {Q : Option Value → rx_H → Prop} {a0 : Int32} {a1 : Int32} (k : rx_aw 79 9 [.ref 77, .int a0, .int a1, .int (-1), .int 1000000, .int 0, rx_no, rx_no] [] (rx_hp L t hi hl v) Q) : rx_me 79 [.ref 77, .int a0, .int a1] (rx_hp L t hi hl v) Q := by
  show rx_aw 79 0 [.ref 77, .int a0, .int a1, rx_no, rx_no, rx_no, rx_no, rx_no] [] (rx_hp L t hi hl v) Q
  refine rx_aw_s 6 (pc := 0) rfl ?_
  show rx_aw 79 9 [.ref 77, .int a0, .int a1, .int (-1), .int 1000000, .int 0, rx_no, rx_no] [] (rx_hp L t hi hl v) Q
  exact k
theorem w79_pick_9 {L : Nat} {t : List (Nat × Nat)} {hi : Nat → Nat → Int32} {hl : Nat → Nat → Int64} {v : Nat → Nat → Option Nat} {Q : Option Value → rx_H → Prop} {x1 : Int32} {x2 : Int32} {x3 : Int32} {x4 : Int32} {x5 : Int32} (k : ((4 < x5 → ((0 ≤ x3 → (∃ j3 : Nat, (((x1 &&& 1) * 256) + x2) = nI j3 ∧ j3 < 512 ∧ (∃ j4 : Nat, ((16 * x1) + (x2 >>> (4 &&& 31))) = nI j4 ∧ j4 < 6400 ∧ (∃ j5 : Nat, ((16 * x1) + (x2 >>> (4 &&& 31))) = nI j5 ∧ j5 < 6400 ∧ Q (some (.int 1)) (rx_hp L t (rx_u hi 82 j3 x4) (rx_u hl 81 j5 (((hl 81 j4) &&& ((15 <<< (Int32.toInt64 (4 * (x2 &&& 15)) &&& 63)) ^^^ (-1))) ||| ((Int32.toInt64 x3) <<< (Int32.toInt64 (4 * (x2 &&& 15)) &&& 63)))) v))))) ∧ (¬ (0 ≤ x3) → Q (some (.int 0)) (rx_hp L t hi hl v)))) ∧ (¬ (4 < x5) → (((v 77 8) = none ∧ False) ∨ (∃ q6 : Nat, q6 < 6 ∧ (v 77 8) = some (rx_ct q6) ∧ rx_me 49 [.ref 7, .int (hi (rx_ct q6) 5), .int x2, .int x5, .int (-1)] (rx_hp L t hi hl v) (fun r h2 => ∃ z7 : Int32, r = some (.int z7) ∧ rx_ok2 L t h2 (fun hi7 hl7 v7 => ((z7 < 0 → rx_aw 79 9 [.ref 77, .int x1, .int x2, .int x3, .int x4, .int (x5 + 1), rx_no, rx_no] [] (rx_hp L t hi7 hl7 v7) Q) ∧ (¬ (z7 < 0) → rx_me 80 [.ref 77, .int x1, .int x2, .int z7, .int x5] (rx_hp L t hi7 hl7 v7) (fun r h2 => ∃ z9 : Int32, r = some (.int z9) ∧ rx_ok2 L t h2 (fun hi9 hl9 v9 => ((z9 = 0 → rx_aw 79 9 [.ref 77, .int x1, .int x2, .int x3, .int x4, .int (x5 + 1), rx_no, rx_no] [] (rx_hp L t hi9 hl9 v9) Q) ∧ (¬ (z9 = 0) → (∃ j11 : Nat, ((((x1 + 1) &&& 1) * 256) + z7) = nI j11 ∧ j11 < 512 ∧ (((v9 77 8) = none ∧ False) ∨ (∃ q12 : Nat, q12 < 6 ∧ (v9 77 8) = some (rx_ct q12) ∧ rx_me 16 [.int x2] (rx_hp L t hi9 hl9 v9) (fun r h2 => ∃ z13 : Int32, r = some (.int z13) ∧ rx_ok2 L t h2 (fun hi13 hl13 v13 => rx_me 81 [.int (hi9 (rx_ct q12) 5), .int z13, .int x5] (rx_hp L t hi13 hl13 v13) (fun r h2 => ∃ z14 : Int32, r = some (.int z14) ∧ rx_ok2 L t h2 (fun hi14 hl14 v14 => ((z14 = 0 → ((x4 ≤ ((hi9 82 j11) + 0) → rx_aw 79 9 [.ref 77, .int x1, .int x2, .int x3, .int x4, .int (x5 + 1), rx_no, rx_no] [] (rx_hp L t hi14 hl14 v14) Q) ∧ (¬ (x4 ≤ ((hi9 82 j11) + 0)) → rx_aw 79 9 [.ref 77, .int x1, .int x2, .int x5, .int ((hi9 82 j11) + 0), .int (x5 + 1), rx_no, rx_no] [] (rx_hp L t hi14 hl14 v14) Q))) ∧ (¬ (z14 = 0) → ((x4 ≤ ((hi9 82 j11) + 1) → rx_aw 79 9 [.ref 77, .int x1, .int x2, .int x3, .int x4, .int (x5 + 1), rx_no, rx_no] [] (rx_hp L t hi14 hl14 v14) Q) ∧ (¬ (x4 ≤ ((hi9 82 j11) + 1)) → rx_aw 79 9 [.ref 77, .int x1, .int x2, .int x5, .int ((hi9 82 j11) + 1), .int (x5 + 1), rx_no, rx_no] [] (rx_hp L t hi14 hl14 v14) Q)))))))))))))))))))))))) : rx_aw 79 9 [.ref 77, .int x1, .int x2, .int x3, .int x4, .int x5, rx_no, rx_no] [] (rx_hp L t hi hl v) Q := by
  refine rx_aw_s 3 (pc := 9) rfl ?_
  refine rx_w_if (c := 4 < x5) ⟨fun c1 => ?_, fun c1 => ?_⟩
  · have k := k.1 c1
    show rx_aw 79 121 [.ref 77, .int x1, .int x2, .int x3, .int x4, .int x5, rx_no, rx_no] [] (rx_hp L t hi hl v) Q
    refine rx_aw_s 2 (pc := 121) rfl ?_
    refine rx_w_if (c := 0 ≤ x3) ⟨fun c2 => ?_, fun c2 => ?_⟩
    · have k := k.1 c2
      show rx_aw 79 127 [.ref 77, .int x1, .int x2, .int x3, .int x4, .int x5, rx_no, rx_no] [] (rx_hp L t hi hl v) Q
      refine rx_aw_s 10 (pc := 127) rfl ?_
      show rx_aw 79 142 [.ref 77, .int x1, .int x2, .int x3, .int x4, .int x5, rx_no, rx_no] [.int x4, .int (((x1 &&& 1) * 256) + x2), .ref 82] (rx_hp L t hi hl v) Q
      obtain ⟨j3, ej3, hj3, k⟩ := k
      refine rx_aw_iast (pc := 142) (n := 512) j3 ej3 rfl rfl (by decide) rfl hj3 (by decide) ?_
      show rx_aw 79 143 [.ref 77, .int x1, .int x2, .int x3, .int x4, .int x5, rx_no, rx_no] [] (rx_hp L t (rx_u hi 82 j3 x4) hl v) Q
      refine rx_aw_s 20 (pc := 143) rfl ?_
      show rx_aw 79 173 [.ref 77, .int x1, .int x2, .int x3, .int x4, .int ((16 * x1) + (x2 >>> (4 &&& 31))), .int (4 * (x2 &&& 15)), rx_no] [.int ((16 * x1) + (x2 >>> (4 &&& 31))), .ref 81, .int ((16 * x1) + (x2 >>> (4 &&& 31))), .ref 81] (rx_hp L t (rx_u hi 82 j3 x4) hl v) Q
      obtain ⟨j4, ej4, hj4, k⟩ := k
      refine rx_aw_lald (pc := 173) (n := 6400) j4 ej4 rfl rfl (by decide) rfl hj4 (by decide) ?_
      show rx_aw 79 174 [.ref 77, .int x1, .int x2, .int x3, .int x4, .int ((16 * x1) + (x2 >>> (4 &&& 31))), .int (4 * (x2 &&& 15)), rx_no] [.long (hl 81 j4), .int ((16 * x1) + (x2 >>> (4 &&& 31))), .ref 81] (rx_hp L t (rx_u hi 82 j3 x4) hl v) Q
      refine rx_aw_s 11 (pc := 174) rfl ?_
      show rx_aw 79 191 [.ref 77, .int x1, .int x2, .int x3, .int x4, .int ((16 * x1) + (x2 >>> (4 &&& 31))), .int (4 * (x2 &&& 15)), rx_no] [.long (((hl 81 j4) &&& ((15 <<< (Int32.toInt64 (4 * (x2 &&& 15)) &&& 63)) ^^^ (-1))) ||| ((Int32.toInt64 x3) <<< (Int32.toInt64 (4 * (x2 &&& 15)) &&& 63))), .int ((16 * x1) + (x2 >>> (4 &&& 31))), .ref 81] (rx_hp L t (rx_u hi 82 j3 x4) hl v) Q
      obtain ⟨j5, ej5, hj5, k⟩ := k
      refine rx_aw_last (pc := 191) (n := 6400) j5 ej5 rfl rfl (by decide) rfl hj5 (by decide) ?_
      show rx_aw 79 192 [.ref 77, .int x1, .int x2, .int x3, .int x4, .int ((16 * x1) + (x2 >>> (4 &&& 31))), .int (4 * (x2 &&& 15)), rx_no] [] (rx_hp L t (rx_u hi 82 j3 x4) (rx_u hl 81 j5 (((hl 81 j4) &&& ((15 <<< (Int32.toInt64 (4 * (x2 &&& 15)) &&& 63)) ^^^ (-1))) ||| ((Int32.toInt64 x3) <<< (Int32.toInt64 (4 * (x2 &&& 15)) &&& 63)))) v) Q
      refine rx_aw_s 1 (pc := 192) rfl ?_
      show rx_aw 79 193 [.ref 77, .int x1, .int x2, .int x3, .int x4, .int ((16 * x1) + (x2 >>> (4 &&& 31))), .int (4 * (x2 &&& 15)), rx_no] [.int 1] (rx_hp L t (rx_u hi 82 j3 x4) (rx_u hl 81 j5 (((hl 81 j4) &&& ((15 <<< (Int32.toInt64 (4 * (x2 &&& 15)) &&& 63)) ^^^ (-1))) ||| ((Int32.toInt64 x3) <<< (Int32.toInt64 (4 * (x2 &&& 15)) &&& 63)))) v) Q
      exact rx_aw_ret (pc := 193) rfl k
    · have k := k.2 c2
      show rx_aw 79 125 [.ref 77, .int x1, .int x2, .int x3, .int x4, .int x5, rx_no, rx_no] [] (rx_hp L t hi hl v) Q
      refine rx_aw_s 1 (pc := 125) rfl ?_
      show rx_aw 79 126 [.ref 77, .int x1, .int x2, .int x3, .int x4, .int x5, rx_no, rx_no] [.int 0] (rx_hp L t hi hl v) Q
      exact rx_aw_ret (pc := 126) rfl k
  · have k := k.2 c1
    show rx_aw 79 15 [.ref 77, .int x1, .int x2, .int x3, .int x4, .int x5, rx_no, rx_no] [] (rx_hp L t hi hl v) Q
    refine rx_aw_s 4 (pc := 15) rfl ?_
    show rx_aw 79 23 [.ref 77, .int x1, .int x2, .int x3, .int x4, .int x5, rx_no, rx_no] [va_rf (v 77 8), .ref 7] (rx_hp L t hi hl v) Q
    rcases k with ⟨eq6, k⟩ | ⟨q6, hq6, eq6, k⟩
    · rw [eq6]
      show rx_aw 79 23 [.ref 77, .int x1, .int x2, .int x3, .int x4, .int x5, rx_no, rx_no] [.null, .ref 7] (rx_hp L t hi hl v) Q
      exact k.elim
    · rw [eq6]
      show rx_aw 79 23 [.ref 77, .int x1, .int x2, .int x3, .int x4, .int x5, rx_no, rx_no] [.ref (rx_ct q6), .ref 7] (rx_hp L t hi hl v) Q
      refine rx_w_cg hq6 (pc := 23) rfl (by decide) (by decide) ?_
      show rx_aw 79 26 [.ref 77, .int x1, .int x2, .int x3, .int x4, .int x5, rx_no, rx_no] [.int (hi (rx_ct q6) 5), .ref 7] (rx_hp L t hi hl v) Q
      refine rx_aw_s 3 (pc := 26) rfl ?_
      show rx_aw 79 30 [.ref 77, .int x1, .int x2, .int x3, .int x4, .int x5, rx_no, rx_no] [.int (-1), .int x5, .int x2, .int (hi (rx_ct q6) 5), .ref 7] (rx_hp L t hi hl v) Q
      refine rx_w_callI (j := 49) (pc := 30) rfl rfl rfl rfl rfl ?_
      refine rx_aw.mono k (fun r h2 k => ?_)
      obtain ⟨z7, rfl, hi7, hl7, v7, rfl, k⟩ := k
      refine ⟨z7, rfl, ?_⟩
      show rx_aw 79 33 [.ref 77, .int x1, .int x2, .int x3, .int x4, .int x5, rx_no, rx_no] [.int z7] (rx_hp L t hi7 hl7 v7) Q
      refine rx_aw_s 3 (pc := 33) rfl ?_
      refine rx_w_if (c := z7 < 0) ⟨fun c8 => ?_, fun c8 => ?_⟩
      · have k := k.1 c8
        show rx_aw 79 115 [.ref 77, .int x1, .int x2, .int x3, .int x4, .int x5, .int z7, rx_no] [] (rx_hp L t hi7 hl7 v7) Q
        refine rx_aw_s 2 (pc := 115) rfl ?_
        show rx_aw 79 9 [.ref 77, .int x1, .int x2, .int x3, .int x4, .int (x5 + 1), .int z7, rx_no] [] (rx_hp L t hi7 hl7 v7) Q
        exact rx_aw_le (ls := [.ref 77, .int x1, .int x2, .int x3, .int x4, .int (x5 + 1), rx_no, rx_no]) ⟨Or.inr rfl, ⟨Or.inr rfl, ⟨Or.inr rfl, ⟨Or.inr rfl, ⟨Or.inr rfl, ⟨Or.inr rfl, ⟨Or.inl rfl, ⟨Or.inl rfl, trivial⟩⟩⟩⟩⟩⟩⟩⟩ k
      · have k := k.2 c8
        show rx_aw 79 40 [.ref 77, .int x1, .int x2, .int x3, .int x4, .int x5, .int z7, rx_no] [] (rx_hp L t hi7 hl7 v7) Q
        refine rx_aw_s 5 (pc := 40) rfl ?_
        show rx_aw 79 47 [.ref 77, .int x1, .int x2, .int x3, .int x4, .int x5, .int z7, rx_no] [.int x5, .int z7, .int x2, .int x1, .ref 77] (rx_hp L t hi7 hl7 v7) Q
        refine rx_w_callI (j := 80) (pc := 47) rfl rfl rfl rfl rfl ?_
        refine rx_aw.mono k (fun r h2 k => ?_)
        obtain ⟨z9, rfl, hi9, hl9, v9, rfl, k⟩ := k
        refine ⟨z9, rfl, ?_⟩
        show rx_aw 79 50 [.ref 77, .int x1, .int x2, .int x3, .int x4, .int x5, .int z7, rx_no] [.int z9] (rx_hp L t hi9 hl9 v9) Q
        refine rx_aw_s 1 (pc := 50) rfl ?_
        refine rx_w_if (c := z9 = 0) ⟨fun c10 => ?_, fun c10 => ?_⟩
        · have k := k.1 c10
          show rx_aw 79 115 [.ref 77, .int x1, .int x2, .int x3, .int x4, .int x5, .int z7, rx_no] [] (rx_hp L t hi9 hl9 v9) Q
          refine rx_aw_s 2 (pc := 115) rfl ?_
          show rx_aw 79 9 [.ref 77, .int x1, .int x2, .int x3, .int x4, .int (x5 + 1), .int z7, rx_no] [] (rx_hp L t hi9 hl9 v9) Q
          exact rx_aw_le (ls := [.ref 77, .int x1, .int x2, .int x3, .int x4, .int (x5 + 1), rx_no, rx_no]) ⟨Or.inr rfl, ⟨Or.inr rfl, ⟨Or.inr rfl, ⟨Or.inr rfl, ⟨Or.inr rfl, ⟨Or.inr rfl, ⟨Or.inl rfl, ⟨Or.inl rfl, trivial⟩⟩⟩⟩⟩⟩⟩⟩ k
        · have k := k.2 c10
          show rx_aw 79 53 [.ref 77, .int x1, .int x2, .int x3, .int x4, .int x5, .int z7, rx_no] [] (rx_hp L t hi9 hl9 v9) Q
          refine rx_aw_s 11 (pc := 53) rfl ?_
          show rx_aw 79 69 [.ref 77, .int x1, .int x2, .int x3, .int x4, .int x5, .int z7, rx_no] [.int ((((x1 + 1) &&& 1) * 256) + z7), .ref 82] (rx_hp L t hi9 hl9 v9) Q
          obtain ⟨j11, ej11, hj11, k⟩ := k
          refine rx_aw_iald (pc := 69) (n := 512) j11 ej11 rfl rfl rfl hj11 (by decide) ?_
          show rx_aw 79 70 [.ref 77, .int x1, .int x2, .int x3, .int x4, .int x5, .int z7, rx_no] [.int (hi9 82 j11)] (rx_hp L t hi9 hl9 v9) Q
          refine rx_aw_s 4 (pc := 70) rfl ?_
          show rx_aw 79 78 [.ref 77, .int x1, .int x2, .int x3, .int x4, .int x5, .int z7, .int (hi9 82 j11)] [va_rf (v9 77 8), .int (hi9 82 j11)] (rx_hp L t hi9 hl9 v9) Q
          rcases k with ⟨eq12, k⟩ | ⟨q12, hq12, eq12, k⟩
          · rw [eq12]
            show rx_aw 79 78 [.ref 77, .int x1, .int x2, .int x3, .int x4, .int x5, .int z7, .int (hi9 82 j11)] [.null, .int (hi9 82 j11)] (rx_hp L t hi9 hl9 v9) Q
            exact k.elim
          · rw [eq12]
            show rx_aw 79 78 [.ref 77, .int x1, .int x2, .int x3, .int x4, .int x5, .int z7, .int (hi9 82 j11)] [.ref (rx_ct q12), .int (hi9 82 j11)] (rx_hp L t hi9 hl9 v9) Q
            refine rx_w_cg hq12 (pc := 78) rfl (by decide) (by decide) ?_
            show rx_aw 79 81 [.ref 77, .int x1, .int x2, .int x3, .int x4, .int x5, .int z7, .int (hi9 82 j11)] [.int (hi9 (rx_ct q12) 5), .int (hi9 82 j11)] (rx_hp L t hi9 hl9 v9) Q
            refine rx_aw_s 1 (pc := 81) rfl ?_
            show rx_aw 79 82 [.ref 77, .int x1, .int x2, .int x3, .int x4, .int x5, .int z7, .int (hi9 82 j11)] [.int x2, .int (hi9 (rx_ct q12) 5), .int (hi9 82 j11)] (rx_hp L t hi9 hl9 v9) Q
            refine rx_w_callI (j := 16) (pc := 82) rfl rfl rfl rfl rfl ?_
            refine rx_aw.mono k (fun r h2 k => ?_)
            obtain ⟨z13, rfl, hi13, hl13, v13, rfl, k⟩ := k
            refine ⟨z13, rfl, ?_⟩
            show rx_aw 79 85 [.ref 77, .int x1, .int x2, .int x3, .int x4, .int x5, .int z7, .int (hi9 82 j11)] [.int z13, .int (hi9 (rx_ct q12) 5), .int (hi9 82 j11)] (rx_hp L t hi13 hl13 v13) Q
            refine rx_aw_s 1 (pc := 85) rfl ?_
            show rx_aw 79 87 [.ref 77, .int x1, .int x2, .int x3, .int x4, .int x5, .int z7, .int (hi9 82 j11)] [.int x5, .int z13, .int (hi9 (rx_ct q12) 5), .int (hi9 82 j11)] (rx_hp L t hi13 hl13 v13) Q
            refine rx_w_callI (j := 81) (pc := 87) rfl rfl rfl rfl rfl ?_
            refine rx_aw.mono k (fun r h2 k => ?_)
            obtain ⟨z14, rfl, hi14, hl14, v14, rfl, k⟩ := k
            refine ⟨z14, rfl, ?_⟩
            show rx_aw 79 90 [.ref 77, .int x1, .int x2, .int x3, .int x4, .int x5, .int z7, .int (hi9 82 j11)] [.int z14, .int (hi9 82 j11)] (rx_hp L t hi14 hl14 v14) Q
            refine rx_aw_s 1 (pc := 90) rfl ?_
            refine rx_w_if (c := z14 = 0) ⟨fun c15 => ?_, fun c15 => ?_⟩
            · have k := k.1 c15
              show rx_aw 79 97 [.ref 77, .int x1, .int x2, .int x3, .int x4, .int x5, .int z7, .int (hi9 82 j11)] [.int (hi9 82 j11)] (rx_hp L t hi14 hl14 v14) Q
              refine rx_aw_s 6 (pc := 97) rfl ?_
              refine rx_w_if (c := x4 ≤ ((hi9 82 j11) + 0)) ⟨fun c16 => ?_, fun c16 => ?_⟩
              · have k := k.1 c16
                show rx_aw 79 115 [.ref 77, .int x1, .int x2, .int x3, .int x4, .int x5, .int z7, .int ((hi9 82 j11) + 0)] [] (rx_hp L t hi14 hl14 v14) Q
                refine rx_aw_s 2 (pc := 115) rfl ?_
                show rx_aw 79 9 [.ref 77, .int x1, .int x2, .int x3, .int x4, .int (x5 + 1), .int z7, .int ((hi9 82 j11) + 0)] [] (rx_hp L t hi14 hl14 v14) Q
                exact rx_aw_le (ls := [.ref 77, .int x1, .int x2, .int x3, .int x4, .int (x5 + 1), rx_no, rx_no]) ⟨Or.inr rfl, ⟨Or.inr rfl, ⟨Or.inr rfl, ⟨Or.inr rfl, ⟨Or.inr rfl, ⟨Or.inr rfl, ⟨Or.inl rfl, ⟨Or.inl rfl, trivial⟩⟩⟩⟩⟩⟩⟩⟩ k
              · have k := k.2 c16
                show rx_aw 79 108 [.ref 77, .int x1, .int x2, .int x3, .int x4, .int x5, .int z7, .int ((hi9 82 j11) + 0)] [] (rx_hp L t hi14 hl14 v14) Q
                refine rx_aw_s 6 (pc := 108) rfl ?_
                show rx_aw 79 9 [.ref 77, .int x1, .int x2, .int x5, .int ((hi9 82 j11) + 0), .int (x5 + 1), .int z7, .int ((hi9 82 j11) + 0)] [] (rx_hp L t hi14 hl14 v14) Q
                exact rx_aw_le (ls := [.ref 77, .int x1, .int x2, .int x5, .int ((hi9 82 j11) + 0), .int (x5 + 1), rx_no, rx_no]) ⟨Or.inr rfl, ⟨Or.inr rfl, ⟨Or.inr rfl, ⟨Or.inr rfl, ⟨Or.inr rfl, ⟨Or.inr rfl, ⟨Or.inl rfl, ⟨Or.inl rfl, trivial⟩⟩⟩⟩⟩⟩⟩⟩ k
            · have k := k.2 c15
              show rx_aw 79 93 [.ref 77, .int x1, .int x2, .int x3, .int x4, .int x5, .int z7, .int (hi9 82 j11)] [.int (hi9 82 j11)] (rx_hp L t hi14 hl14 v14) Q
              refine rx_aw_s 7 (pc := 93) rfl ?_
              refine rx_w_if (c := x4 ≤ ((hi9 82 j11) + 1)) ⟨fun c17 => ?_, fun c17 => ?_⟩
              · have k := k.1 c17
                show rx_aw 79 115 [.ref 77, .int x1, .int x2, .int x3, .int x4, .int x5, .int z7, .int ((hi9 82 j11) + 1)] [] (rx_hp L t hi14 hl14 v14) Q
                refine rx_aw_s 2 (pc := 115) rfl ?_
                show rx_aw 79 9 [.ref 77, .int x1, .int x2, .int x3, .int x4, .int (x5 + 1), .int z7, .int ((hi9 82 j11) + 1)] [] (rx_hp L t hi14 hl14 v14) Q
                exact rx_aw_le (ls := [.ref 77, .int x1, .int x2, .int x3, .int x4, .int (x5 + 1), rx_no, rx_no]) ⟨Or.inr rfl, ⟨Or.inr rfl, ⟨Or.inr rfl, ⟨Or.inr rfl, ⟨Or.inr rfl, ⟨Or.inr rfl, ⟨Or.inl rfl, ⟨Or.inl rfl, trivial⟩⟩⟩⟩⟩⟩⟩⟩ k
              · have k := k.2 c17
                show rx_aw 79 108 [.ref 77, .int x1, .int x2, .int x3, .int x4, .int x5, .int z7, .int ((hi9 82 j11) + 1)] [] (rx_hp L t hi14 hl14 v14) Q
                refine rx_aw_s 6 (pc := 108) rfl ?_
                show rx_aw 79 9 [.ref 77, .int x1, .int x2, .int x5, .int ((hi9 82 j11) + 1), .int (x5 + 1), .int z7, .int ((hi9 82 j11) + 1)] [] (rx_hp L t hi14 hl14 v14) Q
                exact rx_aw_le (ls := [.ref 77, .int x1, .int x2, .int x5, .int ((hi9 82 j11) + 1), .int (x5 + 1), rx_no, rx_no]) ⟨Or.inr rfl, ⟨Or.inr rfl, ⟨Or.inr rfl, ⟨Or.inr rfl, ⟨Or.inr rfl, ⟨Or.inr rfl, ⟨Or.inl rfl, ⟨Or.inl rfl, trivial⟩⟩⟩⟩⟩⟩⟩⟩ k
/-- CartFloor$Search.leads(IIII)Z -/
theorem w80_leads {L : Nat} {t : List (Nat × Nat)} {hi : Nat → Nat → Int32} {hl : Nat → Nat → Int64} {v : Nat → Nat → Option Nat} {Q : Option Value → rx_H → Prop} {a0 : Int32} {a1 : Int32} {a2 : Int32} {a3 : Int32} (k : rx_me 16 [.int a2] (rx_hp L t hi hl v) (fun r h2 => ∃ z1 : Int32, r = some (.int z1) ∧ rx_ok2 L t h2 (fun hi1 hl1 v1 => (∃ j2 : Nat, (((4 * a0) + 4) + z1) = nI j2 ∧ j2 < 1608 ∧ rx_me 8 [.int a2] (rx_hp L t hi1 hl1 v1) (fun r h2 => ∃ z3 : Int32, r = some (.int z3) ∧ rx_ok2 L t h2 (fun hi3 hl3 v3 => rx_me 9 [.int z3] (rx_hp L t hi3 hl3 v3) (fun r h2 => ∃ z4 : Int64, r = some (.long z4) ∧ rx_ok2 L t h2 (fun hi4 hl4 v4 => (((lg_cmp ((hl1 80 j2) &&& z4) 0) = 0 → Q (some (.int 0)) (rx_hp L t hi4 hl4 v4)) ∧ (¬ ((lg_cmp ((hl1 80 j2) &&& z4) 0) = 0) → (((v4 77 8) = none ∧ False) ∨ (∃ q6 : Nat, q6 < 6 ∧ (v4 77 8) = some (rx_ct q6) ∧ ((2 ≤ (hi4 (rx_ct q6) 5) → (((v4 77 8) = none ∧ False) ∨ (∃ q8 : Nat, q8 < 6 ∧ (v4 77 8) = some (rx_ct q8) ∧ rx_me 53 [.ref 7, .int (hi4 (rx_ct q8) 5), .int a1, .int a3] (rx_hp L t hi4 hl4 v4) (fun r h2 => ∃ z9 : Int64, r = some (.long z9) ∧ rx_ok2 L t h2 (fun hi9 hl9 v9 => rx_me 71 [.ref 77, .int a0] (rx_hp L t hi9 hl9 v9) (fun r h2 => ∃ z10 : Int64, r = some (.long z10) ∧ rx_ok2 L t h2 (fun hi10 hl10 v10 => rx_me 71 [.ref 77, .int (a0 + 1)] (rx_hp L t hi10 hl10 v10) (fun r h2 => ∃ z11 : Int64, r = some (.long z11) ∧ rx_ok2 L t h2 (fun hi11 hl11 v11 => (((lg_cmp (z9 &&& (z10 ||| z11)) 0) = 0 → Q (some (.int 1)) (rx_hp L t hi11 hl11 v11)) ∧ (¬ ((lg_cmp (z9 &&& (z10 ||| z11)) 0) = 0) → Q (some (.int 0)) (rx_hp L t hi11 hl11 v11)))))))))))) ∧ (¬ (2 ≤ (hi4 (rx_ct q6) 5)) → ((a3 = 0 → Q (some (.int 1)) (rx_hp L t hi4 hl4 v4)) ∧ (¬ (a3 = 0) → (∃ j14 : Nat, (a3 - 1) = nI j14 ∧ j14 < 4 ∧ rx_me 8 [.int a1] (rx_hp L t hi4 hl4 v4) (fun r h2 => ∃ z15 : Int32, r = some (.int z15) ∧ rx_ok2 L t h2 (fun hi15 hl15 v15 => rx_me 9 [.int z15] (rx_hp L t hi15 hl15 v15) (fun r h2 => ∃ z16 : Int64, r = some (.long z16) ∧ rx_ok2 L t h2 (fun hi16 hl16 v16 => (((lg_cmp ((hl4 83 j14) &&& z16) 0) = 0 → Q (some (.int 1)) (rx_hp L t hi16 hl16 v16)) ∧ (¬ ((lg_cmp ((hl4 83 j14) &&& z16) 0) = 0) → Q (some (.int 0)) (rx_hp L t hi16 hl16 v16)))))))))))))))))))))))) : rx_me 80 [.ref 77, .int a0, .int a1, .int a2, .int a3] (rx_hp L t hi hl v) Q := by
  show rx_aw 80 0 [.ref 77, .int a0, .int a1, .int a2, .int a3] [] (rx_hp L t hi hl v) Q
  refine rx_aw_s 8 (pc := 0) rfl ?_
  show rx_aw 80 10 [.ref 77, .int a0, .int a1, .int a2, .int a3] [.int a2, .int ((4 * a0) + 4), .ref 80] (rx_hp L t hi hl v) Q
  refine rx_w_callI (j := 16) (pc := 10) rfl rfl rfl rfl rfl ?_
  refine rx_aw.mono k (fun r h2 k => ?_)
  obtain ⟨z1, rfl, hi1, hl1, v1, rfl, k⟩ := k
  refine ⟨z1, rfl, ?_⟩
  show rx_aw 80 13 [.ref 77, .int a0, .int a1, .int a2, .int a3] [.int z1, .int ((4 * a0) + 4), .ref 80] (rx_hp L t hi1 hl1 v1) Q
  refine rx_aw_s 1 (pc := 13) rfl ?_
  show rx_aw 80 14 [.ref 77, .int a0, .int a1, .int a2, .int a3] [.int (((4 * a0) + 4) + z1), .ref 80] (rx_hp L t hi1 hl1 v1) Q
  obtain ⟨j2, ej2, hj2, k⟩ := k
  refine rx_aw_lald (pc := 14) (n := 1608) j2 ej2 rfl rfl (by decide) rfl hj2 (by decide) ?_
  show rx_aw 80 15 [.ref 77, .int a0, .int a1, .int a2, .int a3] [.long (hl1 80 j2)] (rx_hp L t hi1 hl1 v1) Q
  refine rx_aw_s 1 (pc := 15) rfl ?_
  show rx_aw 80 16 [.ref 77, .int a0, .int a1, .int a2, .int a3] [.int a2, .long (hl1 80 j2)] (rx_hp L t hi1 hl1 v1) Q
  refine rx_w_callI (j := 8) (pc := 16) rfl rfl rfl rfl rfl ?_
  refine rx_aw.mono k (fun r h2 k => ?_)
  obtain ⟨z3, rfl, hi3, hl3, v3, rfl, k⟩ := k
  refine ⟨z3, rfl, ?_⟩
  show rx_aw 80 19 [.ref 77, .int a0, .int a1, .int a2, .int a3] [.int z3, .long (hl1 80 j2)] (rx_hp L t hi3 hl3 v3) Q
  refine rx_w_callL (j := 9) (pc := 19) rfl rfl rfl rfl rfl ?_
  refine rx_aw.mono k (fun r h2 k => ?_)
  obtain ⟨z4, rfl, hi4, hl4, v4, rfl, k⟩ := k
  refine ⟨z4, rfl, ?_⟩
  show rx_aw 80 22 [.ref 77, .int a0, .int a1, .int a2, .int a3] [.long z4, .long (hl1 80 j2)] (rx_hp L t hi4 hl4 v4) Q
  refine rx_aw_s 4 (pc := 22) rfl ?_
  refine rx_w_ifn (c := (lg_cmp ((hl1 80 j2) &&& z4) 0) = 0) ⟨fun c5 => ?_, fun c5 => ?_⟩
  · have k := k.1 c5
    show rx_aw 80 28 [.ref 77, .int a0, .int a1, .int a2, .int a3] [] (rx_hp L t hi4 hl4 v4) Q
    refine rx_aw_s 1 (pc := 28) rfl ?_
    show rx_aw 80 29 [.ref 77, .int a0, .int a1, .int a2, .int a3] [.int 0] (rx_hp L t hi4 hl4 v4) Q
    exact rx_aw_ret (pc := 29) rfl k
  · have k := k.2 c5
    show rx_aw 80 30 [.ref 77, .int a0, .int a1, .int a2, .int a3] [] (rx_hp L t hi4 hl4 v4) Q
    refine rx_aw_s 2 (pc := 30) rfl ?_
    show rx_aw 80 34 [.ref 77, .int a0, .int a1, .int a2, .int a3] [va_rf (v4 77 8)] (rx_hp L t hi4 hl4 v4) Q
    rcases k with ⟨eq6, k⟩ | ⟨q6, hq6, eq6, k⟩
    · rw [eq6]
      show rx_aw 80 34 [.ref 77, .int a0, .int a1, .int a2, .int a3] [.null] (rx_hp L t hi4 hl4 v4) Q
      exact k.elim
    · rw [eq6]
      show rx_aw 80 34 [.ref 77, .int a0, .int a1, .int a2, .int a3] [.ref (rx_ct q6)] (rx_hp L t hi4 hl4 v4) Q
      refine rx_w_cg hq6 (pc := 34) rfl (by decide) (by decide) ?_
      show rx_aw 80 37 [.ref 77, .int a0, .int a1, .int a2, .int a3] [.int (hi4 (rx_ct q6) 5)] (rx_hp L t hi4 hl4 v4) Q
      refine rx_aw_s 2 (pc := 37) rfl ?_
      refine rx_w_if (c := 2 ≤ (hi4 (rx_ct q6) 5)) ⟨fun c7 => ?_, fun c7 => ?_⟩
      · have k := k.1 c7
        show rx_aw 80 74 [.ref 77, .int a0, .int a1, .int a2, .int a3] [] (rx_hp L t hi4 hl4 v4) Q
        refine rx_aw_s 4 (pc := 74) rfl ?_
        show rx_aw 80 82 [.ref 77, .int a0, .int a1, .int a2, .int a3] [va_rf (v4 77 8), .ref 7] (rx_hp L t hi4 hl4 v4) Q
        rcases k with ⟨eq8, k⟩ | ⟨q8, hq8, eq8, k⟩
        · rw [eq8]
          show rx_aw 80 82 [.ref 77, .int a0, .int a1, .int a2, .int a3] [.null, .ref 7] (rx_hp L t hi4 hl4 v4) Q
          exact k.elim
        · rw [eq8]
          show rx_aw 80 82 [.ref 77, .int a0, .int a1, .int a2, .int a3] [.ref (rx_ct q8), .ref 7] (rx_hp L t hi4 hl4 v4) Q
          refine rx_w_cg hq8 (pc := 82) rfl (by decide) (by decide) ?_
          show rx_aw 80 85 [.ref 77, .int a0, .int a1, .int a2, .int a3] [.int (hi4 (rx_ct q8) 5), .ref 7] (rx_hp L t hi4 hl4 v4) Q
          refine rx_aw_s 2 (pc := 85) rfl ?_
          show rx_aw 80 88 [.ref 77, .int a0, .int a1, .int a2, .int a3] [.int a3, .int a1, .int (hi4 (rx_ct q8) 5), .ref 7] (rx_hp L t hi4 hl4 v4) Q
          refine rx_w_callL (j := 53) (pc := 88) rfl rfl rfl rfl rfl ?_
          refine rx_aw.mono k (fun r h2 k => ?_)
          obtain ⟨z9, rfl, hi9, hl9, v9, rfl, k⟩ := k
          refine ⟨z9, rfl, ?_⟩
          show rx_aw 80 91 [.ref 77, .int a0, .int a1, .int a2, .int a3] [.long z9] (rx_hp L t hi9 hl9 v9) Q
          refine rx_aw_s 2 (pc := 91) rfl ?_
          show rx_aw 80 93 [.ref 77, .int a0, .int a1, .int a2, .int a3] [.int a0, .ref 77, .long z9] (rx_hp L t hi9 hl9 v9) Q
          refine rx_w_callL (j := 71) (pc := 93) rfl rfl rfl rfl rfl ?_
          refine rx_aw.mono k (fun r h2 k => ?_)
          obtain ⟨z10, rfl, hi10, hl10, v10, rfl, k⟩ := k
          refine ⟨z10, rfl, ?_⟩
          show rx_aw 80 96 [.ref 77, .int a0, .int a1, .int a2, .int a3] [.long z10, .long z9] (rx_hp L t hi10 hl10 v10) Q
          refine rx_aw_s 4 (pc := 96) rfl ?_
          show rx_aw 80 100 [.ref 77, .int a0, .int a1, .int a2, .int a3] [.int (a0 + 1), .ref 77, .long z10, .long z9] (rx_hp L t hi10 hl10 v10) Q
          refine rx_w_callL (j := 71) (pc := 100) rfl rfl rfl rfl rfl ?_
          refine rx_aw.mono k (fun r h2 k => ?_)
          obtain ⟨z11, rfl, hi11, hl11, v11, rfl, k⟩ := k
          refine ⟨z11, rfl, ?_⟩
          show rx_aw 80 103 [.ref 77, .int a0, .int a1, .int a2, .int a3] [.long z11, .long z10, .long z9] (rx_hp L t hi11 hl11 v11) Q
          refine rx_aw_s 5 (pc := 103) rfl ?_
          refine rx_w_ifn (c := (lg_cmp (z9 &&& (z10 ||| z11)) 0) = 0) ⟨fun c12 => ?_, fun c12 => ?_⟩
          · have k := k.1 c12
            show rx_aw 80 110 [.ref 77, .int a0, .int a1, .int a2, .int a3] [] (rx_hp L t hi11 hl11 v11) Q
            refine rx_aw_s 2 (pc := 110) rfl ?_
            show rx_aw 80 115 [.ref 77, .int a0, .int a1, .int a2, .int a3] [.int 1] (rx_hp L t hi11 hl11 v11) Q
            exact rx_aw_ret (pc := 115) rfl k
          · have k := k.2 c12
            show rx_aw 80 114 [.ref 77, .int a0, .int a1, .int a2, .int a3] [] (rx_hp L t hi11 hl11 v11) Q
            refine rx_aw_s 1 (pc := 114) rfl ?_
            show rx_aw 80 115 [.ref 77, .int a0, .int a1, .int a2, .int a3] [.int 0] (rx_hp L t hi11 hl11 v11) Q
            exact rx_aw_ret (pc := 115) rfl k
      · have k := k.2 c7
        show rx_aw 80 41 [.ref 77, .int a0, .int a1, .int a2, .int a3] [] (rx_hp L t hi4 hl4 v4) Q
        refine rx_aw_s 2 (pc := 41) rfl ?_
        refine rx_w_if (c := a3 = 0) ⟨fun c13 => ?_, fun c13 => ?_⟩
        · have k := k.1 c13
          show rx_aw 80 68 [.ref 77, .int a0, .int a1, .int a2, .int a3] [] (rx_hp L t hi4 hl4 v4) Q
          refine rx_aw_s 2 (pc := 68) rfl ?_
          show rx_aw 80 73 [.ref 77, .int a0, .int a1, .int a2, .int a3] [.int 1] (rx_hp L t hi4 hl4 v4) Q
          exact rx_aw_ret (pc := 73) rfl k
        · have k := k.2 c13
          show rx_aw 80 46 [.ref 77, .int a0, .int a1, .int a2, .int a3] [] (rx_hp L t hi4 hl4 v4) Q
          refine rx_aw_s 5 (pc := 46) rfl ?_
          show rx_aw 80 54 [.ref 77, .int a0, .int a1, .int a2, .int a3] [.int (a3 - 1), .ref 83] (rx_hp L t hi4 hl4 v4) Q
          obtain ⟨j14, ej14, hj14, k⟩ := k
          refine rx_aw_lald (pc := 54) (n := 4) j14 ej14 rfl rfl (by decide) rfl hj14 (by decide) ?_
          show rx_aw 80 55 [.ref 77, .int a0, .int a1, .int a2, .int a3] [.long (hl4 83 j14)] (rx_hp L t hi4 hl4 v4) Q
          refine rx_aw_s 1 (pc := 55) rfl ?_
          show rx_aw 80 56 [.ref 77, .int a0, .int a1, .int a2, .int a3] [.int a1, .long (hl4 83 j14)] (rx_hp L t hi4 hl4 v4) Q
          refine rx_w_callI (j := 8) (pc := 56) rfl rfl rfl rfl rfl ?_
          refine rx_aw.mono k (fun r h2 k => ?_)
          obtain ⟨z15, rfl, hi15, hl15, v15, rfl, k⟩ := k
          refine ⟨z15, rfl, ?_⟩
          show rx_aw 80 59 [.ref 77, .int a0, .int a1, .int a2, .int a3] [.int z15, .long (hl4 83 j14)] (rx_hp L t hi15 hl15 v15) Q
          refine rx_w_callL (j := 9) (pc := 59) rfl rfl rfl rfl rfl ?_
          refine rx_aw.mono k (fun r h2 k => ?_)
          obtain ⟨z16, rfl, hi16, hl16, v16, rfl, k⟩ := k
          refine ⟨z16, rfl, ?_⟩
          show rx_aw 80 62 [.ref 77, .int a0, .int a1, .int a2, .int a3] [.long z16, .long (hl4 83 j14)] (rx_hp L t hi16 hl16 v16) Q
          refine rx_aw_s 4 (pc := 62) rfl ?_
          refine rx_w_ifn (c := (lg_cmp ((hl4 83 j14) &&& z16) 0) = 0) ⟨fun c17 => ?_, fun c17 => ?_⟩
          · have k := k.1 c17
            show rx_aw 80 68 [.ref 77, .int a0, .int a1, .int a2, .int a3] [] (rx_hp L t hi16 hl16 v16) Q
            refine rx_aw_s 2 (pc := 68) rfl ?_
            show rx_aw 80 73 [.ref 77, .int a0, .int a1, .int a2, .int a3] [.int 1] (rx_hp L t hi16 hl16 v16) Q
            exact rx_aw_ret (pc := 73) rfl k
          · have k := k.2 c17
            show rx_aw 80 72 [.ref 77, .int a0, .int a1, .int a2, .int a3] [] (rx_hp L t hi16 hl16 v16) Q
            refine rx_aw_s 1 (pc := 72) rfl ?_
            show rx_aw 80 73 [.ref 77, .int a0, .int a1, .int a2, .int a3] [.int 0] (rx_hp L t hi16 hl16 v16) Q
            exact rx_aw_ret (pc := 73) rfl k
/-- CartFloor.isTurn(III)Z -/
theorem w81_isTurn {L : Nat} {t : List (Nat × Nat)} {hi : Nat → Nat → Int32} {hl : Nat → Nat → Int64} {v : Nat → Nat → Option Nat} {Q : Option Value → rx_H → Prop} {a0 : Int32} {a1 : Int32} {a2 : Int32} (k : ((a0 < 2 → ((a2 < 1 → Q (some (.int 0)) (rx_hp L t hi hl v)) ∧ (¬ (a2 < 1) → ((4 < a2 → Q (some (.int 0)) (rx_hp L t hi hl v)) ∧ (¬ (4 < a2) → (((a2 - 1) = a1 → Q (some (.int 0)) (rx_hp L t hi hl v)) ∧ (¬ ((a2 - 1) = a1) → Q (some (.int 1)) (rx_hp L t hi hl v)))))))) ∧ (¬ (a0 < 2) → ((a2 = 3 → Q (some (.int 1)) (rx_hp L t hi hl v)) ∧ (¬ (a2 = 3) → ((a2 = 4 → Q (some (.int 1)) (rx_hp L t hi hl v)) ∧ (¬ (a2 = 4) → Q (some (.int 0)) (rx_hp L t hi hl v)))))))) : rx_me 81 [.int a0, .int a1, .int a2] (rx_hp L t hi hl v) Q := by
  show rx_aw 81 0 [.int a0, .int a1, .int a2] [] (rx_hp L t hi hl v) Q
  refine rx_aw_s 3 (pc := 0) rfl ?_
  refine rx_w_if (c := a0 < 2) ⟨fun c1 => ?_, fun c1 => ?_⟩
  · have k := k.1 c1
    show rx_aw 81 21 [.int a0, .int a1, .int a2] [] (rx_hp L t hi hl v) Q
    refine rx_aw_s 3 (pc := 21) rfl ?_
    refine rx_w_if (c := a2 < 1) ⟨fun c2 => ?_, fun c2 => ?_⟩
    · have k := k.1 c2
      show rx_aw 81 42 [.int a0, .int a1, .int a2] [] (rx_hp L t hi hl v) Q
      refine rx_aw_s 1 (pc := 42) rfl ?_
      show rx_aw 81 43 [.int a0, .int a1, .int a2] [.int 0] (rx_hp L t hi hl v) Q
      exact rx_aw_ret (pc := 43) rfl k
    · have k := k.2 c2
      show rx_aw 81 26 [.int a0, .int a1, .int a2] [] (rx_hp L t hi hl v) Q
      refine rx_aw_s 3 (pc := 26) rfl ?_
      refine rx_w_if (c := 4 < a2) ⟨fun c3 => ?_, fun c3 => ?_⟩
      · have k := k.1 c3
        show rx_aw 81 42 [.int a0, .int a1, .int a2] [] (rx_hp L t hi hl v) Q
        refine rx_aw_s 1 (pc := 42) rfl ?_
        show rx_aw 81 43 [.int a0, .int a1, .int a2] [.int 0] (rx_hp L t hi hl v) Q
        exact rx_aw_ret (pc := 43) rfl k
      · have k := k.2 c3
        show rx_aw 81 31 [.int a0, .int a1, .int a2] [] (rx_hp L t hi hl v) Q
        refine rx_aw_s 5 (pc := 31) rfl ?_
        refine rx_w_if (c := (a2 - 1) = a1) ⟨fun c4 => ?_, fun c4 => ?_⟩
        · have k := k.1 c4
          show rx_aw 81 42 [.int a0, .int a1, .int a2] [] (rx_hp L t hi hl v) Q
          refine rx_aw_s 1 (pc := 42) rfl ?_
          show rx_aw 81 43 [.int a0, .int a1, .int a2] [.int 0] (rx_hp L t hi hl v) Q
          exact rx_aw_ret (pc := 43) rfl k
        · have k := k.2 c4
          show rx_aw 81 38 [.int a0, .int a1, .int a2] [] (rx_hp L t hi hl v) Q
          refine rx_aw_s 2 (pc := 38) rfl ?_
          show rx_aw 81 43 [.int a0, .int a1, .int a2] [.int 1] (rx_hp L t hi hl v) Q
          exact rx_aw_ret (pc := 43) rfl k
  · have k := k.2 c1
    show rx_aw 81 5 [.int a0, .int a1, .int a2] [] (rx_hp L t hi hl v) Q
    refine rx_aw_s 3 (pc := 5) rfl ?_
    refine rx_w_if (c := a2 = 3) ⟨fun c5 => ?_, fun c5 => ?_⟩
    · have k := k.1 c5
      show rx_aw 81 15 [.int a0, .int a1, .int a2] [] (rx_hp L t hi hl v) Q
      refine rx_aw_s 2 (pc := 15) rfl ?_
      show rx_aw 81 20 [.int a0, .int a1, .int a2] [.int 1] (rx_hp L t hi hl v) Q
      exact rx_aw_ret (pc := 20) rfl k
    · have k := k.2 c5
      show rx_aw 81 10 [.int a0, .int a1, .int a2] [] (rx_hp L t hi hl v) Q
      refine rx_aw_s 3 (pc := 10) rfl ?_
      refine rx_w_ifn (c := a2 = 4) ⟨fun c6 => ?_, fun c6 => ?_⟩
      · have k := k.1 c6
        show rx_aw 81 15 [.int a0, .int a1, .int a2] [] (rx_hp L t hi hl v) Q
        refine rx_aw_s 2 (pc := 15) rfl ?_
        show rx_aw 81 20 [.int a0, .int a1, .int a2] [.int 1] (rx_hp L t hi hl v) Q
        exact rx_aw_ret (pc := 20) rfl k
      · have k := k.2 c6
        show rx_aw 81 19 [.int a0, .int a1, .int a2] [] (rx_hp L t hi hl v) Q
        refine rx_aw_s 1 (pc := 19) rfl ?_
        show rx_aw 81 20 [.int a0, .int a1, .int a2] [.int 0] (rx_hp L t hi hl v) Q
        exact rx_aw_ret (pc := 20) rfl k
/-- CartFloor$Search.follow(III)V -/
theorem w82_follow {L : Nat} {t : List (Nat × Nat)} {hi : Nat → Nat → Int32} {hl : Nat → Nat → Int64} {v : Nat → Nat → Option Nat} {Q : Option Value → rx_H → Prop} {a0 : Int32} {a1 : Int32} {a2 : Int32} (k : rx_aw 82 8 [.ref 77, .int a0, .int a1, .int a2, .int a1, rx_no, rx_no] [] (rx_hp L t (rx_u hi 77 13 a0) hl v) Q) : rx_me 82 [.ref 77, .int a0, .int a1, .int a2] (rx_hp L t hi hl v) Q := by
  show rx_aw 82 0 [.ref 77, .int a0, .int a1, .int a2, rx_no, rx_no, rx_no] [] (rx_hp L t hi hl v) Q
  refine rx_aw_s 5 (pc := 0) rfl ?_
  show rx_aw 82 8 [.ref 77, .int a0, .int a1, .int a2, .int a1, rx_no, rx_no] [] (rx_hp L t (rx_u hi 77 13 a0) hl v) Q
  exact k
theorem w82_follow_8 {L : Nat} {t : List (Nat × Nat)} {hi : Nat → Nat → Int32} {hl : Nat → Nat → Int64} {v : Nat → Nat → Option Nat} {Q : Option Value → rx_H → Prop} {x1 : Int32} {x2 : Int32} {x3 : Int32} {x4 : Int32} (k : ((x3 ≤ x4 → Q none (rx_hp L t hi hl v)) ∧ (¬ (x3 ≤ x4) → (∃ j2 : Nat, ((16 * x4) + (((hi 77 13) &&& 255) >>> (4 &&& 31))) = nI j2 ∧ j2 < 6400 ∧ (((v 77 8) = none ∧ False) ∨ (∃ q3 : Nat, q3 < 6 ∧ (v 77 8) = some (rx_ct q3) ∧ (∃ j4 : Nat, x4 = nI j4 ∧ j4 < 400 ∧ (((v 77 8) = none ∧ False) ∨ (∃ q5 : Nat, q5 < 6 ∧ (v 77 8) = some (rx_ct q5) ∧ rx_me 49 [.ref 7, .int ((rx_u hi (rx_ct q3 + 1) j4 (vp_nar .byte ((Int32.toInt8 ((Int64.toInt32 (((Int64.toUInt64 (hl 81 j2)) >>> ((Int32.toInt64 (4 * (((hi 77 13) &&& 255) &&& 15))).toUInt64 &&& Int64.toUInt64 63)).toInt64)) &&& 15)).toInt32))) (rx_ct q5) 5), .int ((rx_u hi (rx_ct q3 + 1) j4 (vp_nar .byte ((Int32.toInt8 ((Int64.toInt32 (((Int64.toUInt64 (hl 81 j2)) >>> ((Int32.toInt64 (4 * (((hi 77 13) &&& 255) &&& 15))).toUInt64 &&& Int64.toUInt64 63)).toInt64)) &&& 15)).toInt32))) 77 13), .int ((Int64.toInt32 (((Int64.toUInt64 (hl 81 j2)) >>> ((Int32.toInt64 (4 * (((hi 77 13) &&& 255) &&& 15))).toUInt64 &&& Int64.toUInt64 63)).toInt64)) &&& 15), .int (-1)] (rx_hp L t (rx_u hi (rx_ct q3 + 1) j4 (vp_nar .byte ((Int32.toInt8 ((Int64.toInt32 (((Int64.toUInt64 (hl 81 j2)) >>> ((Int32.toInt64 (4 * (((hi 77 13) &&& 255) &&& 15))).toUInt64 &&& Int64.toUInt64 63)).toInt64)) &&& 15)).toInt32))) hl v) (fun r h2 => ∃ z6 : Int32, r = some (.int z6) ∧ rx_ok2 L t h2 (fun hi6 hl6 v6 => rx_aw 82 8 [.ref 77, .int x1, .int x2, .int x3, .int (x4 + 1), rx_no, rx_no] [] (rx_hp L t (rx_u hi6 77 13 z6) hl6 v6) Q))))))))))) : rx_aw 82 8 [.ref 77, .int x1, .int x2, .int x3, .int x4, rx_no, rx_no] [] (rx_hp L t hi hl v) Q := by
  refine rx_aw_s 3 (pc := 8) rfl ?_
  refine rx_w_if (c := x3 ≤ x4) ⟨fun c1 => ?_, fun c1 => ?_⟩
  · have k := k.1 c1
    show rx_aw 82 97 [.ref 77, .int x1, .int x2, .int x3, .int x4, rx_no, rx_no] [] (rx_hp L t hi hl v) Q
    exact rx_aw_ret (pc := 97) rfl k
  · have k := k.2 c1
    show rx_aw 82 14 [.ref 77, .int x1, .int x2, .int x3, .int x4, rx_no, rx_no] [] (rx_hp L t hi hl v) Q
    refine rx_aw_s 14 (pc := 14) rfl ?_
    show rx_aw 82 38 [.ref 77, .int x1, .int x2, .int x3, .int x4, .int ((hi 77 13) &&& 255), rx_no] [.int ((16 * x4) + (((hi 77 13) &&& 255) >>> (4 &&& 31))), .ref 81] (rx_hp L t hi hl v) Q
    obtain ⟨j2, ej2, hj2, k⟩ := k
    refine rx_aw_lald (pc := 38) (n := 6400) j2 ej2 rfl rfl (by decide) rfl hj2 (by decide) ?_
    show rx_aw 82 39 [.ref 77, .int x1, .int x2, .int x3, .int x4, .int ((hi 77 13) &&& 255), rx_no] [.long (hl 81 j2)] (rx_hp L t hi hl v) Q
    refine rx_aw_s 12 (pc := 39) rfl ?_
    show rx_aw 82 57 [.ref 77, .int x1, .int x2, .int x3, .int x4, .int ((hi 77 13) &&& 255), .int ((Int64.toInt32 (((Int64.toUInt64 (hl 81 j2)) >>> ((Int32.toInt64 (4 * (((hi 77 13) &&& 255) &&& 15))).toUInt64 &&& Int64.toUInt64 63)).toInt64)) &&& 15)] [va_rf (v 77 8)] (rx_hp L t hi hl v) Q
    rcases k with ⟨eq3, k⟩ | ⟨q3, hq3, eq3, k⟩
    · rw [eq3]
      show rx_aw 82 57 [.ref 77, .int x1, .int x2, .int x3, .int x4, .int ((hi 77 13) &&& 255), .int ((Int64.toInt32 (((Int64.toUInt64 (hl 81 j2)) >>> ((Int32.toInt64 (4 * (((hi 77 13) &&& 255) &&& 15))).toUInt64 &&& Int64.toUInt64 63)).toInt64)) &&& 15)] [.null] (rx_hp L t hi hl v) Q
      exact k.elim
    · rw [eq3]
      show rx_aw 82 57 [.ref 77, .int x1, .int x2, .int x3, .int x4, .int ((hi 77 13) &&& 255), .int ((Int64.toInt32 (((Int64.toUInt64 (hl 81 j2)) >>> ((Int32.toInt64 (4 * (((hi 77 13) &&& 255) &&& 15))).toUInt64 &&& Int64.toUInt64 63)).toInt64)) &&& 15)] [.ref (rx_ct q3)] (rx_hp L t hi hl v) Q
      refine rx_w_cr hq3 (pc := 57) rfl (by decide) ?_
      show rx_aw 82 60 [.ref 77, .int x1, .int x2, .int x3, .int x4, .int ((hi 77 13) &&& 255), .int ((Int64.toInt32 (((Int64.toUInt64 (hl 81 j2)) >>> ((Int32.toInt64 (4 * (((hi 77 13) &&& 255) &&& 15))).toUInt64 &&& Int64.toUInt64 63)).toInt64)) &&& 15)] [.ref (rx_ct q3 + 1)] (rx_hp L t hi hl v) Q
      refine rx_aw_s 3 (pc := 60) rfl ?_
      show rx_aw 82 65 [.ref 77, .int x1, .int x2, .int x3, .int x4, .int ((hi 77 13) &&& 255), .int ((Int64.toInt32 (((Int64.toUInt64 (hl 81 j2)) >>> ((Int32.toInt64 (4 * (((hi 77 13) &&& 255) &&& 15))).toUInt64 &&& Int64.toUInt64 63)).toInt64)) &&& 15)] [.int ((Int32.toInt8 ((Int64.toInt32 (((Int64.toUInt64 (hl 81 j2)) >>> ((Int32.toInt64 (4 * (((hi 77 13) &&& 255) &&& 15))).toUInt64 &&& Int64.toUInt64 63)).toInt64)) &&& 15)).toInt32), .int x4, .ref (rx_ct q3 + 1)] (rx_hp L t hi hl v) Q
      obtain ⟨j4, ej4, hj4, k⟩ := k
      refine rx_aw_bast (pc := 65) (n := 400) j4 ej4 rfl (rx_ck (rx_cart_s hq3).2.1) (Nat.lt_of_lt_of_le (rx_ct_pos _) (Nat.le_add_right _ _)) (rx_cle (rx_cart_s hq3).2.1) hj4 (by decide) ?_
      show rx_aw 82 66 [.ref 77, .int x1, .int x2, .int x3, .int x4, .int ((hi 77 13) &&& 255), .int ((Int64.toInt32 (((Int64.toUInt64 (hl 81 j2)) >>> ((Int32.toInt64 (4 * (((hi 77 13) &&& 255) &&& 15))).toUInt64 &&& Int64.toUInt64 63)).toInt64)) &&& 15)] [] (rx_hp L t (rx_u hi (rx_ct q3 + 1) j4 (vp_nar .byte ((Int32.toInt8 ((Int64.toInt32 (((Int64.toUInt64 (hl 81 j2)) >>> ((Int32.toInt64 (4 * (((hi 77 13) &&& 255) &&& 15))).toUInt64 &&& Int64.toUInt64 63)).toInt64)) &&& 15)).toInt32))) hl v) Q
      refine rx_aw_s 5 (pc := 66) rfl ?_
      show rx_aw 82 75 [.ref 77, .int x1, .int x2, .int x3, .int x4, .int ((hi 77 13) &&& 255), .int ((Int64.toInt32 (((Int64.toUInt64 (hl 81 j2)) >>> ((Int32.toInt64 (4 * (((hi 77 13) &&& 255) &&& 15))).toUInt64 &&& Int64.toUInt64 63)).toInt64)) &&& 15)] [va_rf (v 77 8), .ref 7, .ref 77] (rx_hp L t (rx_u hi (rx_ct q3 + 1) j4 (vp_nar .byte ((Int32.toInt8 ((Int64.toInt32 (((Int64.toUInt64 (hl 81 j2)) >>> ((Int32.toInt64 (4 * (((hi 77 13) &&& 255) &&& 15))).toUInt64 &&& Int64.toUInt64 63)).toInt64)) &&& 15)).toInt32))) hl v) Q
      rcases k with ⟨eq5, k⟩ | ⟨q5, hq5, eq5, k⟩
      · rw [eq5]
        show rx_aw 82 75 [.ref 77, .int x1, .int x2, .int x3, .int x4, .int ((hi 77 13) &&& 255), .int ((Int64.toInt32 (((Int64.toUInt64 (hl 81 j2)) >>> ((Int32.toInt64 (4 * (((hi 77 13) &&& 255) &&& 15))).toUInt64 &&& Int64.toUInt64 63)).toInt64)) &&& 15)] [.null, .ref 7, .ref 77] (rx_hp L t (rx_u hi (rx_ct q3 + 1) j4 (vp_nar .byte ((Int32.toInt8 ((Int64.toInt32 (((Int64.toUInt64 (hl 81 j2)) >>> ((Int32.toInt64 (4 * (((hi 77 13) &&& 255) &&& 15))).toUInt64 &&& Int64.toUInt64 63)).toInt64)) &&& 15)).toInt32))) hl v) Q
        exact k.elim
      · rw [eq5]
        show rx_aw 82 75 [.ref 77, .int x1, .int x2, .int x3, .int x4, .int ((hi 77 13) &&& 255), .int ((Int64.toInt32 (((Int64.toUInt64 (hl 81 j2)) >>> ((Int32.toInt64 (4 * (((hi 77 13) &&& 255) &&& 15))).toUInt64 &&& Int64.toUInt64 63)).toInt64)) &&& 15)] [.ref (rx_ct q5), .ref 7, .ref 77] (rx_hp L t (rx_u hi (rx_ct q3 + 1) j4 (vp_nar .byte ((Int32.toInt8 ((Int64.toInt32 (((Int64.toUInt64 (hl 81 j2)) >>> ((Int32.toInt64 (4 * (((hi 77 13) &&& 255) &&& 15))).toUInt64 &&& Int64.toUInt64 63)).toInt64)) &&& 15)).toInt32))) hl v) Q
        refine rx_w_cg hq5 (pc := 75) rfl (by decide) (by decide) ?_
        show rx_aw 82 78 [.ref 77, .int x1, .int x2, .int x3, .int x4, .int ((hi 77 13) &&& 255), .int ((Int64.toInt32 (((Int64.toUInt64 (hl 81 j2)) >>> ((Int32.toInt64 (4 * (((hi 77 13) &&& 255) &&& 15))).toUInt64 &&& Int64.toUInt64 63)).toInt64)) &&& 15)] [.int ((rx_u hi (rx_ct q3 + 1) j4 (vp_nar .byte ((Int32.toInt8 ((Int64.toInt32 (((Int64.toUInt64 (hl 81 j2)) >>> ((Int32.toInt64 (4 * (((hi 77 13) &&& 255) &&& 15))).toUInt64 &&& Int64.toUInt64 63)).toInt64)) &&& 15)).toInt32))) (rx_ct q5) 5), .ref 7, .ref 77] (rx_hp L t (rx_u hi (rx_ct q3 + 1) j4 (vp_nar .byte ((Int32.toInt8 ((Int64.toInt32 (((Int64.toUInt64 (hl 81 j2)) >>> ((Int32.toInt64 (4 * (((hi 77 13) &&& 255) &&& 15))).toUInt64 &&& Int64.toUInt64 63)).toInt64)) &&& 15)).toInt32))) hl v) Q
        refine rx_aw_s 4 (pc := 78) rfl ?_
        show rx_aw 82 85 [.ref 77, .int x1, .int x2, .int x3, .int x4, .int ((hi 77 13) &&& 255), .int ((Int64.toInt32 (((Int64.toUInt64 (hl 81 j2)) >>> ((Int32.toInt64 (4 * (((hi 77 13) &&& 255) &&& 15))).toUInt64 &&& Int64.toUInt64 63)).toInt64)) &&& 15)] [.int (-1), .int ((Int64.toInt32 (((Int64.toUInt64 (hl 81 j2)) >>> ((Int32.toInt64 (4 * (((hi 77 13) &&& 255) &&& 15))).toUInt64 &&& Int64.toUInt64 63)).toInt64)) &&& 15), .int ((rx_u hi (rx_ct q3 + 1) j4 (vp_nar .byte ((Int32.toInt8 ((Int64.toInt32 (((Int64.toUInt64 (hl 81 j2)) >>> ((Int32.toInt64 (4 * (((hi 77 13) &&& 255) &&& 15))).toUInt64 &&& Int64.toUInt64 63)).toInt64)) &&& 15)).toInt32))) 77 13), .int ((rx_u hi (rx_ct q3 + 1) j4 (vp_nar .byte ((Int32.toInt8 ((Int64.toInt32 (((Int64.toUInt64 (hl 81 j2)) >>> ((Int32.toInt64 (4 * (((hi 77 13) &&& 255) &&& 15))).toUInt64 &&& Int64.toUInt64 63)).toInt64)) &&& 15)).toInt32))) (rx_ct q5) 5), .ref 7, .ref 77] (rx_hp L t (rx_u hi (rx_ct q3 + 1) j4 (vp_nar .byte ((Int32.toInt8 ((Int64.toInt32 (((Int64.toUInt64 (hl 81 j2)) >>> ((Int32.toInt64 (4 * (((hi 77 13) &&& 255) &&& 15))).toUInt64 &&& Int64.toUInt64 63)).toInt64)) &&& 15)).toInt32))) hl v) Q
        refine rx_w_callI (j := 49) (pc := 85) rfl rfl rfl rfl rfl ?_
        refine rx_aw.mono k (fun r h2 k => ?_)
        obtain ⟨z6, rfl, hi6, hl6, v6, rfl, k⟩ := k
        refine ⟨z6, rfl, ?_⟩
        show rx_aw 82 88 [.ref 77, .int x1, .int x2, .int x3, .int x4, .int ((hi 77 13) &&& 255), .int ((Int64.toInt32 (((Int64.toUInt64 (hl 81 j2)) >>> ((Int32.toInt64 (4 * (((hi 77 13) &&& 255) &&& 15))).toUInt64 &&& Int64.toUInt64 63)).toInt64)) &&& 15)] [.int z6, .ref 77] (rx_hp L t hi6 hl6 v6) Q
        refine rx_aw_s 3 (pc := 88) rfl ?_
        show rx_aw 82 8 [.ref 77, .int x1, .int x2, .int x3, .int (x4 + 1), .int ((hi 77 13) &&& 255), .int ((Int64.toInt32 (((Int64.toUInt64 (hl 81 j2)) >>> ((Int32.toInt64 (4 * (((hi 77 13) &&& 255) &&& 15))).toUInt64 &&& Int64.toUInt64 63)).toInt64)) &&& 15)] [] (rx_hp L t (rx_u hi6 77 13 z6) hl6 v6) Q
        exact rx_aw_le (ls := [.ref 77, .int x1, .int x2, .int x3, .int (x4 + 1), rx_no, rx_no]) ⟨Or.inr rfl, ⟨Or.inr rfl, ⟨Or.inr rfl, ⟨Or.inr rfl, ⟨Or.inr rfl, ⟨Or.inl rfl, ⟨Or.inl rfl, trivial⟩⟩⟩⟩⟩⟩⟩ k
