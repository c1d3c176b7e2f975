/-! Methods walked by program (gen/wp.py): what is left to show of each. -/
set_option maxRecDepth 100000 in
/-- CartFloor$Trio.offer(II)V -/
theorem w137_offer {L : Nat} {hi : Nat → Nat → Int32} {hl : Nat → Nat → Int64} {v : Nat → Nat → Option Nat} {Q : Option Value → rx_H → Prop} {a0 : Int32} {a1 : Int32} (k : (∃ j1 : Nat, a0 = nI j1 ∧ j1 < 9261 ∧ ((a1 < (hi 140 j1) → (∃ j3 : Nat, a0 = nI j3 ∧ j3 < 9261 ∧ (((1000000 : Int32) ≤ (hi 140 j3) → (∃ j5 : Nat, a0 = nI j5 ∧ j5 < 9261 ∧ rx_me 132 [.ref 134, .int a0] (rx_hp L rx_tr (rx_u hi 140 j5 a1) hl v) (fun r h2 => ∃ z6 : Int32, r = some (.int z6) ∧ rx_ok2 L rx_tr h2 (fun hi6 hl6 v6 => rx_me 134 [.ref 134, .int a0, .int (a1 + z6)] (rx_hp L rx_tr hi6 hl6 v6) (fun r h2 => r = none ∧ rx_ok2 L rx_tr h2 (fun hi7 hl7 v7 => Q none (rx_hp L rx_tr hi7 hl7 v7))))))) ∧ (¬ ((1000000 : Int32) ≤ (hi 140 j3)) → rx_me 135 [.ref 134, .int a0] (rx_hp L rx_tr hi hl v) (fun r h2 => r = none ∧ rx_ok2 L rx_tr h2 (fun hi8 hl8 v8 => (∃ j9 : Nat, a0 = nI j9 ∧ j9 < 9261 ∧ rx_me 132 [.ref 134, .int a0] (rx_hp L rx_tr (rx_u hi8 140 j9 a1) hl8 v8) (fun r h2 => ∃ z10 : Int32, r = some (.int z10) ∧ rx_ok2 L rx_tr h2 (fun hi10 hl10 v10 => rx_me 134 [.ref 134, .int a0, .int (a1 + z10)] (rx_hp L rx_tr hi10 hl10 v10) (fun r h2 => r = none ∧ rx_ok2 L rx_tr h2 (fun hi11 hl11 v11 => Q none (rx_hp L rx_tr hi11 hl11 v11)))))))))))) ∧ (¬ (a1 < (hi 140 j1)) → Q none (rx_hp L rx_tr hi hl v))))) : rx_me 137 [.ref 134, .int a0, .int a1] (rx_hp L rx_tr hi hl v) Q := by
  show rx_aw 137 0 [.ref 134, .int a0, .int a1] [] (rx_hp L rx_tr hi hl v) Q
  refine rx_aw_s 4 (pc := 0) rfl ?_
  show rx_aw 137 6 [.ref 134, .int a0, .int a1] [.int a0, .ref 140, .int a1] (rx_hp L rx_tr hi hl v) Q
  obtain ⟨j1, ej1, hj1, k⟩ := k
  refine rx_aw_iald (pc := 6) (n := 9261) j1 ej1 rfl rfl rfl hj1 (by decide) ?_
  show rx_aw 137 7 [.ref 134, .int a0, .int a1] [.int (hi 140 j1), .int a1] (rx_hp L rx_tr hi hl v) Q
  refine rx_aw_s 1 (pc := 7) rfl ?_
  refine rx_w_if (c := a1 < (hi 140 j1)) ⟨fun c2 => ?_, fun c2 => ?_⟩
  · have k := k.1 c2
    show rx_aw 137 11 [.ref 134, .int a0, .int a1] [] (rx_hp L rx_tr hi hl v) Q
    refine rx_aw_s 3 (pc := 11) rfl ?_
    show rx_aw 137 16 [.ref 134, .int a0, .int a1] [.int a0, .ref 140] (rx_hp L rx_tr hi hl v) Q
    obtain ⟨j3, ej3, hj3, k⟩ := k
    refine rx_aw_iald (pc := 16) (n := 9261) j3 ej3 rfl rfl rfl hj3 (by decide) ?_
    show rx_aw 137 17 [.ref 134, .int a0, .int a1] [.int (hi 140 j3)] (rx_hp L rx_tr hi hl v) Q
    refine rx_aw_s 2 (pc := 17) rfl ?_
    refine rx_w_if (c := (1000000 : Int32) ≤ (hi 140 j3)) ⟨fun c4 => ?_, fun c4 => ?_⟩
    · have k := k.1 c4
      show rx_aw 137 27 [.ref 134, .int a0, .int a1] [] (rx_hp L rx_tr hi hl v) Q
      refine rx_aw_s 4 (pc := 27) rfl ?_
      show rx_aw 137 33 [.ref 134, .int a0, .int a1] [.int a1, .int a0, .ref 140] (rx_hp L rx_tr hi hl v) Q
      obtain ⟨j5, ej5, hj5, k⟩ := k
      refine rx_aw_iast (pc := 33) (n := 9261) j5 ej5 rfl rfl (by decide) rfl hj5 (by decide) ?_
      show rx_aw 137 34 [.ref 134, .int a0, .int a1] [] (rx_hp L rx_tr (rx_u hi 140 j5 a1) hl v) Q
      refine rx_aw_s 5 (pc := 34) rfl ?_
      show rx_aw 137 39 [.ref 134, .int a0, .int a1] [.int a0, .ref 134, .int a1, .int a0, .ref 134] (rx_hp L rx_tr (rx_u hi 140 j5 a1) hl v) Q
      refine rx_w_callI (j := 132) (pc := 39) rfl rfl rfl rfl rfl ?_
      refine rx_aw.mono k (fun r h2 k => ?_)
      obtain ⟨z6, rfl, hi6, hl6, v6, rfl, k⟩ := k
      refine ⟨z6, rfl, ?_⟩
      show rx_aw 137 42 [.ref 134, .int a0, .int a1] [.int z6, .int a1, .int a0, .ref 134] (rx_hp L rx_tr hi6 hl6 v6) Q
      refine rx_aw_s 1 (pc := 42) rfl ?_
      show rx_aw 137 43 [.ref 134, .int a0, .int a1] [.int (a1 + z6), .int a0, .ref 134] (rx_hp L rx_tr hi6 hl6 v6) Q
      refine rx_w_callV (j := 134) (pc := 43) rfl rfl rfl rfl rfl ?_
      refine rx_aw.mono k (fun r h2 k => ?_)
      obtain ⟨rfl, hi7, hl7, v7, rfl, k⟩ := k
      refine ⟨rfl, ?_⟩
      show rx_aw 137 46 [.ref 134, .int a0, .int a1] [] (rx_hp L rx_tr hi7 hl7 v7) Q
      exact rx_aw_ret (pc := 46) rfl k
    · have k := k.2 c4
      show rx_aw 137 22 [.ref 134, .int a0, .int a1] [] (rx_hp L rx_tr hi hl v) Q
      refine rx_aw_s 2 (pc := 22) rfl ?_
      show rx_aw 137 24 [.ref 134, .int a0, .int a1] [.int a0, .ref 134] (rx_hp L rx_tr hi hl v) Q
      refine rx_w_callV (j := 135) (pc := 24) rfl rfl rfl rfl rfl ?_
      refine rx_aw.mono k (fun r h2 k => ?_)
      obtain ⟨rfl, hi8, hl8, v8, rfl, k⟩ := k
      refine ⟨rfl, ?_⟩
      show rx_aw 137 27 [.ref 134, .int a0, .int a1] [] (rx_hp L rx_tr hi8 hl8 v8) Q
      refine rx_aw_s 4 (pc := 27) rfl ?_
      show rx_aw 137 33 [.ref 134, .int a0, .int a1] [.int a1, .int a0, .ref 140] (rx_hp L rx_tr hi8 hl8 v8) Q
      obtain ⟨j9, ej9, hj9, k⟩ := k
      refine rx_aw_iast (pc := 33) (n := 9261) j9 ej9 rfl rfl (by decide) rfl hj9 (by decide) ?_
      show rx_aw 137 34 [.ref 134, .int a0, .int a1] [] (rx_hp L rx_tr (rx_u hi8 140 j9 a1) hl8 v8) Q
      refine rx_aw_s 5 (pc := 34) rfl ?_
      show rx_aw 137 39 [.ref 134, .int a0, .int a1] [.int a0, .ref 134, .int a1, .int a0, .ref 134] (rx_hp L rx_tr (rx_u hi8 140 j9 a1) hl8 v8) Q
      refine rx_w_callI (j := 132) (pc := 39) rfl rfl rfl rfl rfl ?_
      refine rx_aw.mono k (fun r h2 k => ?_)
      obtain ⟨z10, rfl, hi10, hl10, v10, rfl, k⟩ := k
      refine ⟨z10, rfl, ?_⟩
      show rx_aw 137 42 [.ref 134, .int a0, .int a1] [.int z10, .int a1, .int a0, .ref 134] (rx_hp L rx_tr hi10 hl10 v10) Q
      refine rx_aw_s 1 (pc := 42) rfl ?_
      show rx_aw 137 43 [.ref 134, .int a0, .int a1] [.int (a1 + z10), .int a0, .ref 134] (rx_hp L rx_tr hi10 hl10 v10) Q
      refine rx_w_callV (j := 134) (pc := 43) rfl rfl rfl rfl rfl ?_
      refine rx_aw.mono k (fun r h2 k => ?_)
      obtain ⟨rfl, hi11, hl11, v11, rfl, k⟩ := k
      refine ⟨rfl, ?_⟩
      show rx_aw 137 46 [.ref 134, .int a0, .int a1] [] (rx_hp L rx_tr hi11 hl11 v11) Q
      exact rx_aw_ret (pc := 46) rfl k
  · have k := k.2 c2
    show rx_aw 137 10 [.ref 134, .int a0, .int a1] [] (rx_hp L rx_tr hi hl v) Q
    exact rx_aw_ret (pc := 10) rfl k
set_option maxRecDepth 100000 in
/-- CartFloor$Trio.stepOf(II)I -/
theorem w138_stepOf {L : Nat} {hi : Nat → Nat → Int32} {hl : Nat → Nat → Int64} {v : Nat → Nat → Option Nat} {Q : Option Value → rx_H → Prop} {a0 : Int32} {a1 : Int32} (k : (∃ j1 : Nat, a0 = nI j1 ∧ j1 < 3 ∧ (((hi 139 j1) = (20 : Int32) → ((a1 = 0 → Q (some (.int (20 : Int32))) (rx_hp L rx_tr hi hl v)) ∧ (¬ (a1 = 0) → Q (some (.int (-1 : Int32))) (rx_hp L rx_tr hi hl v)))) ∧ (¬ ((hi 139 j1) = (20 : Int32)) → (∃ j4 : Nat, a0 = nI j4 ∧ j4 < 3 ∧ (∃ j5 : Nat, ((((a0 * (21 : Int32)) + (hi 139 j4)) * (5 : Int32)) + a1) = nI j5 ∧ j5 < 315 ∧ Q (some (.int (hi 136 j5))) (rx_hp L rx_tr hi hl v))))))) : rx_me 138 [.ref 134, .int a0, .int a1] (rx_hp L rx_tr hi hl v) Q := by
  show rx_aw 138 0 [.ref 134, .int a0, .int a1] [] (rx_hp L rx_tr hi hl v) Q
  refine rx_aw_s 3 (pc := 0) rfl ?_
  show rx_aw 138 5 [.ref 134, .int a0, .int a1] [.int a0, .ref 139] (rx_hp L rx_tr hi hl v) Q
  obtain ⟨j1, ej1, hj1, k⟩ := k
  refine rx_aw_iald (pc := 5) (n := 3) j1 ej1 rfl rfl rfl hj1 (by decide) ?_
  show rx_aw 138 6 [.ref 134, .int a0, .int a1] [.int (hi 139 j1)] (rx_hp L rx_tr hi hl v) Q
  refine rx_aw_s 2 (pc := 6) rfl ?_
  refine rx_w_ifn (c := (hi 139 j1) = (20 : Int32)) ⟨fun c2 => ?_, fun c2 => ?_⟩
  · have k := k.1 c2
    show rx_aw 138 11 [.ref 134, .int a0, .int a1] [] (rx_hp L rx_tr hi hl v) Q
    refine rx_aw_s 2 (pc := 11) rfl ?_
    refine rx_w_ifn (c := a1 = 0) ⟨fun c3 => ?_, fun c3 => ?_⟩
    · have k := k.1 c3
      show rx_aw 138 15 [.ref 134, .int a0, .int a1] [] (rx_hp L rx_tr hi hl v) Q
      refine rx_aw_s 2 (pc := 15) rfl ?_
      show rx_aw 138 21 [.ref 134, .int a0, .int a1] [.int (20 : Int32)] (rx_hp L rx_tr hi hl v) Q
      exact rx_aw_ret (pc := 21) rfl k
    · have k := k.2 c3
      show rx_aw 138 20 [.ref 134, .int a0, .int a1] [] (rx_hp L rx_tr hi hl v) Q
      refine rx_aw_s 1 (pc := 20) rfl ?_
      show rx_aw 138 21 [.ref 134, .int a0, .int a1] [.int (-1 : Int32)] (rx_hp L rx_tr hi hl v) Q
      exact rx_aw_ret (pc := 21) rfl k
  · have k := k.2 c2
    show rx_aw 138 22 [.ref 134, .int a0, .int a1] [] (rx_hp L rx_tr hi hl v) Q
    refine rx_aw_s 8 (pc := 22) rfl ?_
    show rx_aw 138 35 [.ref 134, .int a0, .int a1] [.int a0, .ref 139, .int (a0 * (21 : Int32)), .ref 136] (rx_hp L rx_tr hi hl v) Q
    obtain ⟨j4, ej4, hj4, k⟩ := k
    refine rx_aw_iald (pc := 35) (n := 3) j4 ej4 rfl rfl rfl hj4 (by decide) ?_
    show rx_aw 138 36 [.ref 134, .int a0, .int a1] [.int (hi 139 j4), .int (a0 * (21 : Int32)), .ref 136] (rx_hp L rx_tr hi hl v) Q
    refine rx_aw_s 5 (pc := 36) rfl ?_
    show rx_aw 138 41 [.ref 134, .int a0, .int a1] [.int ((((a0 * (21 : Int32)) + (hi 139 j4)) * (5 : Int32)) + a1), .ref 136] (rx_hp L rx_tr hi hl v) Q
    obtain ⟨j5, ej5, hj5, k⟩ := k
    refine rx_aw_iald (pc := 41) (n := 315) j5 ej5 rfl rfl rfl hj5 (by decide) ?_
    show rx_aw 138 42 [.ref 134, .int a0, .int a1] [.int (hi 136 j5)] (rx_hp L rx_tr hi hl v) Q
    exact rx_aw_ret (pc := 42) rfl k
set_option maxRecDepth 100000 in
/-- CartFloor$Trio.collide(IIII)Z -/
theorem w139_collide {L : Nat} {hi : Nat → Nat → Int32} {hl : Nat → Nat → Int64} {v : Nat → Nat → Option Nat} {Q : Option Value → rx_H → Prop} {a0 : Int32} {a1 : Int32} {a2 : Int32} {a3 : Int32} (k : (∃ j1 : Nat, a0 = nI j1 ∧ j1 < 3 ∧ rx_me 140 [.ref 134, .int a0, .int (hi 139 j1)] (rx_hp L rx_tr hi hl v) (fun r h2 => ∃ z2 : Int32, r = some (.int z2) ∧ rx_ok2 L rx_tr h2 (fun hi2 hl2 v2 => rx_me 140 [.ref 134, .int a0, .int a1] (rx_hp L rx_tr hi2 hl2 v2) (fun r h2 => ∃ z3 : Int32, r = some (.int z3) ∧ rx_ok2 L rx_tr h2 (fun hi3 hl3 v3 => (∃ j4 : Nat, a2 = nI j4 ∧ j4 < 3 ∧ rx_me 140 [.ref 134, .int a2, .int (hi3 139 j4)] (rx_hp L rx_tr hi3 hl3 v3) (fun r h2 => ∃ z5 : Int32, r = some (.int z5) ∧ rx_ok2 L rx_tr h2 (fun hi5 hl5 v5 => rx_me 140 [.ref 134, .int a2, .int a3] (rx_hp L rx_tr hi5 hl5 v5) (fun r h2 => ∃ z6 : Int32, r = some (.int z6) ∧ rx_ok2 L rx_tr h2 (fun hi6 hl6 v6 => ((z3 < 0 → Q (some (.int (0 : Int32))) (rx_hp L rx_tr hi6 hl6 v6)) ∧ (¬ (z3 < 0) → ((z6 < 0 → Q (some (.int (0 : Int32))) (rx_hp L rx_tr hi6 hl6 v6)) ∧ (¬ (z6 < 0) → ((z3 = z6 → Q (some (.int (1 : Int32))) (rx_hp L rx_tr hi6 hl6 v6)) ∧ (¬ (z3 = z6) → ((z2 = z6 → ((z3 = z5 → Q (some (.int (1 : Int32))) (rx_hp L rx_tr hi6 hl6 v6)) ∧ (¬ (z3 = z5) → Q (some (.int (0 : Int32))) (rx_hp L rx_tr hi6 hl6 v6)))) ∧ (¬ (z2 = z6) → Q (some (.int (0 : Int32))) (rx_hp L rx_tr hi6 hl6 v6)))))))))))))))))))) : rx_me 139 [.ref 134, .int a0, .int a1, .int a2, .int a3] (rx_hp L rx_tr hi hl v) Q := by
  show rx_aw 139 0 [.ref 134, .int a0, .int a1, .int a2, .int a3, rx_no, rx_no, rx_no, rx_no] [] (rx_hp L rx_tr hi hl v) Q
  refine rx_aw_s 5 (pc := 0) rfl ?_
  show rx_aw 139 7 [.ref 134, .int a0, .int a1, .int a2, .int a3, rx_no, rx_no, rx_no, rx_no] [.int a0, .ref 139, .int a0, .ref 134] (rx_hp L rx_tr hi hl v) Q
  obtain ⟨j1, ej1, hj1, k⟩ := k
  refine rx_aw_iald (pc := 7) (n := 3) j1 ej1 rfl rfl rfl hj1 (by decide) ?_
  show rx_aw 139 8 [.ref 134, .int a0, .int a1, .int a2, .int a3, rx_no, rx_no, rx_no, rx_no] [.int (hi 139 j1), .int a0, .ref 134] (rx_hp L rx_tr hi hl v) Q
  refine rx_w_callI (j := 140) (pc := 8) rfl rfl rfl rfl rfl ?_
  refine rx_aw.mono k (fun r h2 k => ?_)
  obtain ⟨z2, rfl, hi2, hl2, v2, rfl, k⟩ := k
  refine ⟨z2, rfl, ?_⟩
  show rx_aw 139 11 [.ref 134, .int a0, .int a1, .int a2, .int a3, rx_no, rx_no, rx_no, rx_no] [.int z2] (rx_hp L rx_tr hi2 hl2 v2) Q
  refine rx_aw_s 4 (pc := 11) rfl ?_
  show rx_aw 139 16 [.ref 134, .int a0, .int a1, .int a2, .int a3, .int z2, rx_no, rx_no, rx_no] [.int a1, .int a0, .ref 134] (rx_hp L rx_tr hi2 hl2 v2) Q
  refine rx_w_callI (j := 140) (pc := 16) rfl rfl rfl rfl rfl ?_
  refine rx_aw.mono k (fun r h2 k => ?_)
  obtain ⟨z3, rfl, hi3, hl3, v3, rfl, k⟩ := k
  refine ⟨z3, rfl, ?_⟩
  show rx_aw 139 19 [.ref 134, .int a0, .int a1, .int a2, .int a3, .int z2, rx_no, rx_no, rx_no] [.int z3] (rx_hp L rx_tr hi3 hl3 v3) Q
  refine rx_aw_s 6 (pc := 19) rfl ?_
  show rx_aw 139 28 [.ref 134, .int a0, .int a1, .int a2, .int a3, .int z2, .int z3, rx_no, rx_no] [.int a2, .ref 139, .int a2, .ref 134] (rx_hp L rx_tr hi3 hl3 v3) Q
  obtain ⟨j4, ej4, hj4, k⟩ := k
  refine rx_aw_iald (pc := 28) (n := 3) j4 ej4 rfl rfl rfl hj4 (by decide) ?_
  show rx_aw 139 29 [.ref 134, .int a0, .int a1, .int a2, .int a3, .int z2, .int z3, rx_no, rx_no] [.int (hi3 139 j4), .int a2, .ref 134] (rx_hp L rx_tr hi3 hl3 v3) Q
  refine rx_w_callI (j := 140) (pc := 29) rfl rfl rfl rfl rfl ?_
  refine rx_aw.mono k (fun r h2 k => ?_)
  obtain ⟨z5, rfl, hi5, hl5, v5, rfl, k⟩ := k
  refine ⟨z5, rfl, ?_⟩
  show rx_aw 139 32 [.ref 134, .int a0, .int a1, .int a2, .int a3, .int z2, .int z3, rx_no, rx_no] [.int z5] (rx_hp L rx_tr hi5 hl5 v5) Q
  refine rx_aw_s 4 (pc := 32) rfl ?_
  show rx_aw 139 38 [.ref 134, .int a0, .int a1, .int a2, .int a3, .int z2, .int z3, .int z5, rx_no] [.int a3, .int a2, .ref 134] (rx_hp L rx_tr hi5 hl5 v5) Q
  refine rx_w_callI (j := 140) (pc := 38) rfl rfl rfl rfl rfl ?_
  refine rx_aw.mono k (fun r h2 k => ?_)
  obtain ⟨z6, rfl, hi6, hl6, v6, rfl, k⟩ := k
  refine ⟨z6, rfl, ?_⟩
  show rx_aw 139 41 [.ref 134, .int a0, .int a1, .int a2, .int a3, .int z2, .int z3, .int z5, rx_no] [.int z6] (rx_hp L rx_tr hi6 hl6 v6) Q
  refine rx_aw_s 3 (pc := 41) rfl ?_
  refine rx_w_if (c := z3 < 0) ⟨fun c7 => ?_, fun c7 => ?_⟩
  · have k := k.1 c7
    show rx_aw 139 78 [.ref 134, .int a0, .int a1, .int a2, .int a3, .int z2, .int z3, .int z5, .int z6] [] (rx_hp L rx_tr hi6 hl6 v6) Q
    refine rx_aw_s 1 (pc := 78) rfl ?_
    show rx_aw 139 79 [.ref 134, .int a0, .int a1, .int a2, .int a3, .int z2, .int z3, .int z5, .int z6] [.int (0 : Int32)] (rx_hp L rx_tr hi6 hl6 v6) Q
    exact rx_aw_ret (pc := 79) rfl k
  · have k := k.2 c7
    show rx_aw 139 48 [.ref 134, .int a0, .int a1, .int a2, .int a3, .int z2, .int z3, .int z5, .int z6] [] (rx_hp L rx_tr hi6 hl6 v6) Q
    refine rx_aw_s 2 (pc := 48) rfl ?_
    refine rx_w_if (c := z6 < 0) ⟨fun c8 => ?_, fun c8 => ?_⟩
    · have k := k.1 c8
      show rx_aw 139 78 [.ref 134, .int a0, .int a1, .int a2, .int a3, .int z2, .int z3, .int z5, .int z6] [] (rx_hp L rx_tr hi6 hl6 v6) Q
      refine rx_aw_s 1 (pc := 78) rfl ?_
      show rx_aw 139 79 [.ref 134, .int a0, .int a1, .int a2, .int a3, .int z2, .int z3, .int z5, .int z6] [.int (0 : Int32)] (rx_hp L rx_tr hi6 hl6 v6) Q
      exact rx_aw_ret (pc := 79) rfl k
    · have k := k.2 c8
      show rx_aw 139 53 [.ref 134, .int a0, .int a1, .int a2, .int a3, .int z2, .int z3, .int z5, .int z6] [] (rx_hp L rx_tr hi6 hl6 v6) Q
      refine rx_aw_s 3 (pc := 53) rfl ?_
      refine rx_w_if (c := z3 = z6) ⟨fun c9 => ?_, fun c9 => ?_⟩
      · have k := k.1 c9
        show rx_aw 139 74 [.ref 134, .int a0, .int a1, .int a2, .int a3, .int z2, .int z3, .int z5, .int z6] [] (rx_hp L rx_tr hi6 hl6 v6) Q
        refine rx_aw_s 2 (pc := 74) rfl ?_
        show rx_aw 139 79 [.ref 134, .int a0, .int a1, .int a2, .int a3, .int z2, .int z3, .int z5, .int z6] [.int (1 : Int32)] (rx_hp L rx_tr hi6 hl6 v6) Q
        exact rx_aw_ret (pc := 79) rfl k
      · have k := k.2 c9
        show rx_aw 139 60 [.ref 134, .int a0, .int a1, .int a2, .int a3, .int z2, .int z3, .int z5, .int z6] [] (rx_hp L rx_tr hi6 hl6 v6) Q
        refine rx_aw_s 3 (pc := 60) rfl ?_
        refine rx_w_ifn (c := z2 = z6) ⟨fun c10 => ?_, fun c10 => ?_⟩
        · have k := k.1 c10
          show rx_aw 139 67 [.ref 134, .int a0, .int a1, .int a2, .int a3, .int z2, .int z3, .int z5, .int z6] [] (rx_hp L rx_tr hi6 hl6 v6) Q
          refine rx_aw_s 3 (pc := 67) rfl ?_
          refine rx_w_ifn (c := z3 = z5) ⟨fun c11 => ?_, fun c11 => ?_⟩
          · have k := k.1 c11
            show rx_aw 139 74 [.ref 134, .int a0, .int a1, .int a2, .int a3, .int z2, .int z3, .int z5, .int z6] [] (rx_hp L rx_tr hi6 hl6 v6) Q
            refine rx_aw_s 2 (pc := 74) rfl ?_
            show rx_aw 139 79 [.ref 134, .int a0, .int a1, .int a2, .int a3, .int z2, .int z3, .int z5, .int z6] [.int (1 : Int32)] (rx_hp L rx_tr hi6 hl6 v6) Q
            exact rx_aw_ret (pc := 79) rfl k
          · have k := k.2 c11
            show rx_aw 139 78 [.ref 134, .int a0, .int a1, .int a2, .int a3, .int z2, .int z3, .int z5, .int z6] [] (rx_hp L rx_tr hi6 hl6 v6) Q
            refine rx_aw_s 1 (pc := 78) rfl ?_
            show rx_aw 139 79 [.ref 134, .int a0, .int a1, .int a2, .int a3, .int z2, .int z3, .int z5, .int z6] [.int (0 : Int32)] (rx_hp L rx_tr hi6 hl6 v6) Q
            exact rx_aw_ret (pc := 79) rfl k
        · have k := k.2 c10
          show rx_aw 139 78 [.ref 134, .int a0, .int a1, .int a2, .int a3, .int z2, .int z3, .int z5, .int z6] [] (rx_hp L rx_tr hi6 hl6 v6) Q
          refine rx_aw_s 1 (pc := 78) rfl ?_
          show rx_aw 139 79 [.ref 134, .int a0, .int a1, .int a2, .int a3, .int z2, .int z3, .int z5, .int z6] [.int (0 : Int32)] (rx_hp L rx_tr hi6 hl6 v6) Q
          exact rx_aw_ret (pc := 79) rfl k
set_option maxRecDepth 100000 in
/-- CartFloor$Trio.placeOf(II)I -/
theorem w140_placeOf {L : Nat} {hi : Nat → Nat → Int32} {hl : Nat → Nat → Int64} {v : Nat → Nat → Option Nat} {Q : Option Value → rx_H → Prop} {a0 : Int32} {a1 : Int32} (k : ((a1 = (20 : Int32) → (∃ j2 : Nat, a0 = nI j2 ∧ j2 < 3 ∧ Q (some (.int (hi 138 j2))) (rx_hp L rx_tr hi hl v))) ∧ (¬ (a1 = (20 : Int32)) → Q (some (.int a1)) (rx_hp L rx_tr hi hl v)))) : rx_me 140 [.ref 134, .int a0, .int a1] (rx_hp L rx_tr hi hl v) Q := by
  show rx_aw 140 0 [.ref 134, .int a0, .int a1] [] (rx_hp L rx_tr hi hl v) Q
  refine rx_aw_s 3 (pc := 0) rfl ?_
  refine rx_w_ifn (c := a1 = (20 : Int32)) ⟨fun c1 => ?_, fun c1 => ?_⟩
  · have k := k.1 c1
    show rx_aw 140 6 [.ref 134, .int a0, .int a1] [] (rx_hp L rx_tr hi hl v) Q
    refine rx_aw_s 3 (pc := 6) rfl ?_
    show rx_aw 140 11 [.ref 134, .int a0, .int a1] [.int a0, .ref 138] (rx_hp L rx_tr hi hl v) Q
    obtain ⟨j2, ej2, hj2, k⟩ := k
    refine rx_aw_iald (pc := 11) (n := 3) j2 ej2 rfl rfl rfl hj2 (by decide) ?_
    show rx_aw 140 12 [.ref 134, .int a0, .int a1] [.int (hi 138 j2)] (rx_hp L rx_tr hi hl v) Q
    refine rx_aw_s 1 (pc := 12) rfl ?_
    show rx_aw 140 16 [.ref 134, .int a0, .int a1] [.int (hi 138 j2)] (rx_hp L rx_tr hi hl v) Q
    exact rx_aw_ret (pc := 16) rfl k
  · have k := k.2 c1
    show rx_aw 140 15 [.ref 134, .int a0, .int a1] [] (rx_hp L rx_tr hi hl v) Q
    refine rx_aw_s 1 (pc := 15) rfl ?_
    show rx_aw 140 16 [.ref 134, .int a0, .int a1] [.int a1] (rx_hp L rx_tr hi hl v) Q
    exact rx_aw_ret (pc := 16) rfl k
set_option maxRecDepth 100000 in
/-- CartFloor$Trio.expandThird(III)V -/
theorem w141_expandThird {L : Nat} {hi : Nat → Nat → Int32} {hl : Nat → Nat → Int64} {v : Nat → Nat → Option Nat} {Q : Option Value → rx_H → Prop} {a0 : Int32} {a1 : Int32} {a2 : Int32} (k : rx_aw 141 3 [.ref 134, .int a0, .int a1, .int a2, .int (0 : Int32), rx_no] [] (rx_hp L rx_tr hi hl v) Q) : rx_me 141 [.ref 134, .int a0, .int a1, .int a2] (rx_hp L rx_tr hi hl v) Q := by
  show rx_aw 141 0 [.ref 134, .int a0, .int a1, .int a2, rx_no, rx_no] [] (rx_hp L rx_tr hi hl v) Q
  refine rx_aw_s 2 (pc := 0) rfl ?_
  show rx_aw 141 3 [.ref 134, .int a0, .int a1, .int a2, .int (0 : Int32), rx_no] [] (rx_hp L rx_tr hi hl v) Q
  exact k
set_option maxRecDepth 100000 in
theorem w141_expandThird_3 {L : Nat} {hi : Nat → Nat → Int32} {hl : Nat → Nat → Int64} {v : Nat → Nat → Option Nat} {Q : Option Value → rx_H → Prop} {x1 : Int32} {x2 : Int32} {x3 : Int32} {x4 : Int32} (k : (((5 : Int32) ≤ x4 → Q none (rx_hp L rx_tr hi hl v)) ∧ (¬ ((5 : Int32) ≤ x4) → rx_me 138 [.ref 134, .int (2 : Int32), .int x4] (rx_hp L rx_tr hi hl v) (fun r h2 => ∃ z2 : Int32, r = some (.int z2) ∧ rx_ok2 L rx_tr h2 (fun hi2 hl2 v2 => ((z2 < 0 → rx_aw 141 3 [.ref 134, .int x1, .int x2, .int x3, .int (x4 + (1 : Int32)), rx_no] [] (rx_hp L rx_tr hi2 hl2 v2) Q) ∧ (¬ (z2 < 0) → rx_me 139 [.ref 134, .int (0 : Int32), .int x1, .int (2 : Int32), .int z2] (rx_hp L rx_tr hi2 hl2 v2) (fun r h2 => ∃ z4 : Int32, r = some (.int z4) ∧ rx_ok2 L rx_tr h2 (fun hi4 hl4 v4 => ((z4 = 0 → rx_me 139 [.ref 134, .int (1 : Int32), .int x2, .int (2 : Int32), .int z2] (rx_hp L rx_tr hi4 hl4 v4) (fun r h2 => ∃ z6 : Int32, r = some (.int z6) ∧ rx_ok2 L rx_tr h2 (fun hi6 hl6 v6 => ((z6 = 0 → rx_me 137 [.ref 134, .int ((x1 + ((21 : Int32) * x2)) + ((441 : Int32) * z2)), .int x3] (rx_hp L rx_tr hi6 hl6 v6) (fun r h2 => r = none ∧ rx_ok2 L rx_tr h2 (fun hi8 hl8 v8 => rx_aw 141 3 [.ref 134, .int x1, .int x2, .int x3, .int (x4 + (1 : Int32)), rx_no] [] (rx_hp L rx_tr hi8 hl8 v8) Q))) ∧ (¬ (z6 = 0) → rx_aw 141 3 [.ref 134, .int x1, .int x2, .int x3, .int (x4 + (1 : Int32)), rx_no] [] (rx_hp L rx_tr hi6 hl6 v6) Q))))) ∧ (¬ (z4 = 0) → rx_aw 141 3 [.ref 134, .int x1, .int x2, .int x3, .int (x4 + (1 : Int32)), rx_no] [] (rx_hp L rx_tr hi4 hl4 v4) Q))))))))))) : rx_aw 141 3 [.ref 134, .int x1, .int x2, .int x3, .int x4, rx_no] [] (rx_hp L rx_tr hi hl v) Q := by
  refine rx_aw_s 3 (pc := 3) rfl ?_
  refine rx_w_if (c := (5 : Int32) ≤ x4) ⟨fun c1 => ?_, fun c1 => ?_⟩
  · have k := k.1 c1
    show rx_aw 141 71 [.ref 134, .int x1, .int x2, .int x3, .int x4, rx_no] [] (rx_hp L rx_tr hi hl v) Q
    exact rx_aw_ret (pc := 71) rfl k
  · have k := k.2 c1
    show rx_aw 141 9 [.ref 134, .int x1, .int x2, .int x3, .int x4, rx_no] [] (rx_hp L rx_tr hi hl v) Q
    refine rx_aw_s 3 (pc := 9) rfl ?_
    show rx_aw 141 13 [.ref 134, .int x1, .int x2, .int x3, .int x4, rx_no] [.int x4, .int (2 : Int32), .ref 134] (rx_hp L rx_tr hi hl v) Q
    refine rx_w_callI (j := 138) (pc := 13) rfl rfl rfl rfl rfl ?_
    refine rx_aw.mono k (fun r h2 k => ?_)
    obtain ⟨z2, rfl, hi2, hl2, v2, rfl, k⟩ := k
    refine ⟨z2, rfl, ?_⟩
    show rx_aw 141 16 [.ref 134, .int x1, .int x2, .int x3, .int x4, rx_no] [.int z2] (rx_hp L rx_tr hi2 hl2 v2) Q
    refine rx_aw_s 3 (pc := 16) rfl ?_
    refine rx_w_if (c := z2 < 0) ⟨fun c3 => ?_, fun c3 => ?_⟩
    · have k := k.1 c3
      show rx_aw 141 65 [.ref 134, .int x1, .int x2, .int x3, .int x4, .int z2] [] (rx_hp L rx_tr hi2 hl2 v2) Q
      refine rx_aw_s 2 (pc := 65) rfl ?_
      show rx_aw 141 3 [.ref 134, .int x1, .int x2, .int x3, .int (x4 + (1 : Int32)), .int z2] [] (rx_hp L rx_tr hi2 hl2 v2) Q
      exact rx_aw_le (ls := [.ref 134, .int x1, .int x2, .int x3, .int (x4 + (1 : Int32)), rx_no]) ⟨Or.inr rfl, ⟨Or.inr rfl, ⟨Or.inr rfl, ⟨Or.inr rfl, ⟨Or.inr rfl, ⟨Or.inl rfl, trivial⟩⟩⟩⟩⟩⟩ k
    · have k := k.2 c3
      show rx_aw 141 23 [.ref 134, .int x1, .int x2, .int x3, .int x4, .int z2] [] (rx_hp L rx_tr hi2 hl2 v2) Q
      refine rx_aw_s 5 (pc := 23) rfl ?_
      show rx_aw 141 29 [.ref 134, .int x1, .int x2, .int x3, .int x4, .int z2] [.int z2, .int (2 : Int32), .int x1, .int (0 : Int32), .ref 134] (rx_hp L rx_tr hi2 hl2 v2) Q
      refine rx_w_callI (j := 139) (pc := 29) rfl rfl rfl rfl rfl ?_
      refine rx_aw.mono k (fun r h2 k => ?_)
      obtain ⟨z4, rfl, hi4, hl4, v4, rfl, k⟩ := k
      refine ⟨z4, rfl, ?_⟩
      show rx_aw 141 32 [.ref 134, .int x1, .int x2, .int x3, .int x4, .int z2] [.int z4] (rx_hp L rx_tr hi4 hl4 v4) Q
      refine rx_aw_s 1 (pc := 32) rfl ?_
      refine rx_w_ifn (c := z4 = 0) ⟨fun c5 => ?_, fun c5 => ?_⟩
      · have k := k.1 c5
        show rx_aw 141 35 [.ref 134, .int x1, .int x2, .int x3, .int x4, .int z2] [] (rx_hp L rx_tr hi4 hl4 v4) Q
        refine rx_aw_s 5 (pc := 35) rfl ?_
        show rx_aw 141 41 [.ref 134, .int x1, .int x2, .int x3, .int x4, .int z2] [.int z2, .int (2 : Int32), .int x2, .int (1 : Int32), .ref 134] (rx_hp L rx_tr hi4 hl4 v4) Q
        refine rx_w_callI (j := 139) (pc := 41) rfl rfl rfl rfl rfl ?_
        refine rx_aw.mono k (fun r h2 k => ?_)
        obtain ⟨z6, rfl, hi6, hl6, v6, rfl, k⟩ := k
        refine ⟨z6, rfl, ?_⟩
        show rx_aw 141 44 [.ref 134, .int x1, .int x2, .int x3, .int x4, .int z2] [.int z6] (rx_hp L rx_tr hi6 hl6 v6) Q
        refine rx_aw_s 1 (pc := 44) rfl ?_
        refine rx_w_ifn (c := z6 = 0) ⟨fun c7 => ?_, fun c7 => ?_⟩
        · have k := k.1 c7
          show rx_aw 141 47 [.ref 134, .int x1, .int x2, .int x3, .int x4, .int z2] [] (rx_hp L rx_tr hi6 hl6 v6) Q
          refine rx_aw_s 11 (pc := 47) rfl ?_
          show rx_aw 141 62 [.ref 134, .int x1, .int x2, .int x3, .int x4, .int z2] [.int x3, .int ((x1 + ((21 : Int32) * x2)) + ((441 : Int32) * z2)), .ref 134] (rx_hp L rx_tr hi6 hl6 v6) Q
          refine rx_w_callV (j := 137) (pc := 62) rfl rfl rfl rfl rfl ?_
          refine rx_aw.mono k (fun r h2 k => ?_)
          obtain ⟨rfl, hi8, hl8, v8, rfl, k⟩ := k
          refine ⟨rfl, ?_⟩
          show rx_aw 141 65 [.ref 134, .int x1, .int x2, .int x3, .int x4, .int z2] [] (rx_hp L rx_tr hi8 hl8 v8) Q
          refine rx_aw_s 2 (pc := 65) rfl ?_
          show rx_aw 141 3 [.ref 134, .int x1, .int x2, .int x3, .int (x4 + (1 : Int32)), .int z2] [] (rx_hp L rx_tr hi8 hl8 v8) Q
          exact rx_aw_le (ls := [.ref 134, .int x1, .int x2, .int x3, .int (x4 + (1 : Int32)), rx_no]) ⟨Or.inr rfl, ⟨Or.inr rfl, ⟨Or.inr rfl, ⟨Or.inr rfl, ⟨Or.inr rfl, ⟨Or.inl rfl, trivial⟩⟩⟩⟩⟩⟩ k
        · have k := k.2 c7
          show rx_aw 141 65 [.ref 134, .int x1, .int x2, .int x3, .int x4, .int z2] [] (rx_hp L rx_tr hi6 hl6 v6) Q
          refine rx_aw_s 2 (pc := 65) rfl ?_
          show rx_aw 141 3 [.ref 134, .int x1, .int x2, .int x3, .int (x4 + (1 : Int32)), .int z2] [] (rx_hp L rx_tr hi6 hl6 v6) Q
          exact rx_aw_le (ls := [.ref 134, .int x1, .int x2, .int x3, .int (x4 + (1 : Int32)), rx_no]) ⟨Or.inr rfl, ⟨Or.inr rfl, ⟨Or.inr rfl, ⟨Or.inr rfl, ⟨Or.inr rfl, ⟨Or.inl rfl, trivial⟩⟩⟩⟩⟩⟩ k
      · have k := k.2 c5
        show rx_aw 141 65 [.ref 134, .int x1, .int x2, .int x3, .int x4, .int z2] [] (rx_hp L rx_tr hi4 hl4 v4) Q
        refine rx_aw_s 2 (pc := 65) rfl ?_
        show rx_aw 141 3 [.ref 134, .int x1, .int x2, .int x3, .int (x4 + (1 : Int32)), .int z2] [] (rx_hp L rx_tr hi4 hl4 v4) Q
        exact rx_aw_le (ls := [.ref 134, .int x1, .int x2, .int x3, .int (x4 + (1 : Int32)), rx_no]) ⟨Or.inr rfl, ⟨Or.inr rfl, ⟨Or.inr rfl, ⟨Or.inr rfl, ⟨Or.inr rfl, ⟨Or.inl rfl, trivial⟩⟩⟩⟩⟩⟩ k
set_option maxRecDepth 100000 in
/-- CartFloor.weight(I)I -/
theorem w146_weight {L : Nat} {t : List (Nat × Nat)} {hi : Nat → Nat → Int32} {hl : Nat → Nat → Int64} {v : Nat → Nat → Option Nat} {Q : Option Value → rx_H → Prop} {a0 : Int32} (k : rx_me 143 [.ref 2, .int a0] (rx_hp L t hi hl v) (fun r h2 => ∃ z1 : Int32, r = some (.int z1) ∧ rx_ok2 L t h2 (fun hi1 hl1 v1 => ((z1 = 0 → Q (some (.int (-11 : Int32))) (rx_hp L t hi1 hl1 v1)) ∧ (¬ (z1 = 0) → (∃ j3 : Nat, a0 = nI j3 ∧ j3 < 10 ∧ (∃ j4 : Nat, a0 = nI j4 ∧ j4 < 10 ∧ (((hi1 3 j4) = (2 : Int32) → rx_me 147 [.int (hi1 4 j3)] (rx_hp L t hi1 hl1 v1) (fun r h2 => ∃ z6 : Int32, r = some (.int z6) ∧ rx_ok2 L t h2 (fun hi6 hl6 v6 => Q (some (.int z6)) (rx_hp L t hi6 hl6 v6)))) ∧ (¬ ((hi1 3 j4) = (2 : Int32)) → (∃ j7 : Nat, a0 = nI j7 ∧ j7 < 10 ∧ (((hi1 3 j7) = (1 : Int32) → rx_me 59 [.ref 13, .int (hi1 4 j3)] (rx_hp L t hi1 hl1 v1) (fun r h2 => ∃ z9 : Option Nat, r = some (va_rf z9) ∧ rx_ok2 L t h2 (fun hi9 hl9 v9 => (z9 = none ∧ Q (some (.int (-10 : Int32))) (rx_hp L t hi9 hl9 v9)) ∨ (∃ q9 : Nat, q9 < 6 ∧ z9 = some (rx_ct q9) ∧ (((hi9 (rx_ct q9) 5) = (0 : Int32) → Q (some (.int (10 : Int32))) (rx_hp L t hi9 hl9 v9)) ∧ (¬ ((hi9 (rx_ct q9) 5) = (0 : Int32)) → (((hi9 (rx_ct q9) 5) = (1 : Int32) → rx_me 47 [.ref 13, .int (hi1 4 j3), .int (402 : Int32)] (rx_hp L t hi9 hl9 v9) (fun r h2 => ∃ z11 : Int32, r = some (.int z11) ∧ rx_ok2 L t h2 (fun hi11 hl11 v11 => rx_me 48 [.int z11] (rx_hp L t hi11 hl11 v11) (fun r h2 => ∃ z12 : Int32, r = some (.int z12) ∧ rx_ok2 L t h2 (fun hi12 hl12 v12 => rx_me 147 [.int z12] (rx_hp L t hi12 hl12 v12) (fun r h2 => ∃ z13 : Int32, r = some (.int z13) ∧ rx_ok2 L t h2 (fun hi13 hl13 v13 => Q (some (.int ((15 : Int32) + z13))) (rx_hp L t hi13 hl13 v13)))))))) ∧ (¬ ((hi9 (rx_ct q9) 5) = (1 : Int32)) → (((hi9 (rx_ct q9) 5) = (2 : Int32) → Q (some (.int (30 : Int32))) (rx_hp L t hi9 hl9 v9)) ∧ (¬ ((hi9 (rx_ct q9) 5) = (2 : Int32)) → Q (some (.int (12 : Int32))) (rx_hp L t hi9 hl9 v9))))))))))) ∧ (¬ ((hi1 3 j7) = (1 : Int32)) → Q (some (.int (-10 : Int32))) (rx_hp L t hi1 hl1 v1))))))))))))) : rx_me 146 [.ref 1, .int a0] (rx_hp L t hi hl v) Q := by
  show rx_aw 146 0 [.ref 1, .int a0, rx_no, rx_no] [] (rx_hp L t hi hl v) Q
  refine rx_aw_s 3 (pc := 0) rfl ?_
  show rx_aw 146 5 [.ref 1, .int a0, rx_no, rx_no] [.int a0, .ref 2] (rx_hp L t hi hl v) Q
  refine rx_w_callI (j := 143) (pc := 5) rfl rfl rfl rfl rfl ?_
  refine rx_aw.mono k (fun r h2 k => ?_)
  obtain ⟨z1, rfl, hi1, hl1, v1, rfl, k⟩ := k
  refine ⟨z1, rfl, ?_⟩
  show rx_aw 146 8 [.ref 1, .int a0, rx_no, rx_no] [.int z1] (rx_hp L t hi1 hl1 v1) Q
  refine rx_aw_s 1 (pc := 8) rfl ?_
  refine rx_w_ifn (c := z1 = 0) ⟨fun c2 => ?_, fun c2 => ?_⟩
  · have k := k.1 c2
    show rx_aw 146 11 [.ref 1, .int a0, rx_no, rx_no] [] (rx_hp L t hi1 hl1 v1) Q
    refine rx_aw_s 1 (pc := 11) rfl ?_
    show rx_aw 146 13 [.ref 1, .int a0, rx_no, rx_no] [.int (-11 : Int32)] (rx_hp L t hi1 hl1 v1) Q
    exact rx_aw_ret (pc := 13) rfl k
  · have k := k.2 c2
    show rx_aw 146 14 [.ref 1, .int a0, rx_no, rx_no] [] (rx_hp L t hi1 hl1 v1) Q
    refine rx_aw_s 4 (pc := 14) rfl ?_
    show rx_aw 146 22 [.ref 1, .int a0, rx_no, rx_no] [.int a0, .ref 4] (rx_hp L t hi1 hl1 v1) Q
    obtain ⟨j3, ej3, hj3, k⟩ := k
    refine rx_aw_iald (pc := 22) (n := 10) j3 ej3 rfl rfl rfl hj3 (by decide) ?_
    show rx_aw 146 23 [.ref 1, .int a0, rx_no, rx_no] [.int (hi1 4 j3)] (rx_hp L t hi1 hl1 v1) Q
    refine rx_aw_s 5 (pc := 23) rfl ?_
    show rx_aw 146 32 [.ref 1, .int a0, .int (hi1 4 j3), rx_no] [.int a0, .ref 3] (rx_hp L t hi1 hl1 v1) Q
    obtain ⟨j4, ej4, hj4, k⟩ := k
    refine rx_aw_iald (pc := 32) (n := 10) j4 ej4 rfl rfl rfl hj4 (by decide) ?_
    show rx_aw 146 33 [.ref 1, .int a0, .int (hi1 4 j3), rx_no] [.int (hi1 3 j4)] (rx_hp L t hi1 hl1 v1) Q
    refine rx_aw_s 2 (pc := 33) rfl ?_
    refine rx_w_ifn (c := (hi1 3 j4) = (2 : Int32)) ⟨fun c5 => ?_, fun c5 => ?_⟩
    · have k := k.1 c5
      show rx_aw 146 37 [.ref 1, .int a0, .int (hi1 4 j3), rx_no] [] (rx_hp L t hi1 hl1 v1) Q
      refine rx_aw_s 1 (pc := 37) rfl ?_
      show rx_aw 146 38 [.ref 1, .int a0, .int (hi1 4 j3), rx_no] [.int (hi1 4 j3)] (rx_hp L t hi1 hl1 v1) Q
      refine rx_w_callI (j := 147) (pc := 38) rfl rfl rfl rfl rfl ?_
      refine rx_aw.mono k (fun r h2 k => ?_)
      obtain ⟨z6, rfl, hi6, hl6, v6, rfl, k⟩ := k
      refine ⟨z6, rfl, ?_⟩
      show rx_aw 146 41 [.ref 1, .int a0, .int (hi1 4 j3), rx_no] [.int z6] (rx_hp L t hi6 hl6 v6) Q
      exact rx_aw_ret (pc := 41) rfl k
    · have k := k.2 c5
      show rx_aw 146 42 [.ref 1, .int a0, .int (hi1 4 j3), rx_no] [] (rx_hp L t hi1 hl1 v1) Q
      refine rx_aw_s 4 (pc := 42) rfl ?_
      show rx_aw 146 50 [.ref 1, .int a0, .int (hi1 4 j3), rx_no] [.int a0, .ref 3] (rx_hp L t hi1 hl1 v1) Q
      obtain ⟨j7, ej7, hj7, k⟩ := k
      refine rx_aw_iald (pc := 50) (n := 10) j7 ej7 rfl rfl rfl hj7 (by decide) ?_
      show rx_aw 146 51 [.ref 1, .int a0, .int (hi1 4 j3), rx_no] [.int (hi1 3 j7)] (rx_hp L t hi1 hl1 v1) Q
      refine rx_aw_s 2 (pc := 51) rfl ?_
      refine rx_w_ifn (c := (hi1 3 j7) = (1 : Int32)) ⟨fun c8 => ?_, fun c8 => ?_⟩
      · have k := k.1 c8
        show rx_aw 146 55 [.ref 1, .int a0, .int (hi1 4 j3), rx_no] [] (rx_hp L t hi1 hl1 v1) Q
        refine rx_aw_s 3 (pc := 55) rfl ?_
        show rx_aw 146 60 [.ref 1, .int a0, .int (hi1 4 j3), rx_no] [.int (hi1 4 j3), .ref 13] (rx_hp L t hi1 hl1 v1) Q
        refine rx_w_callR (j := 59) (pc := 60) rfl rfl rfl rfl rfl ?_
        refine rx_aw.mono k (fun r h2 k => ?_)
        obtain ⟨z9, rfl, hi9, hl9, v9, rfl, k⟩ := k
        refine ⟨z9, rfl, ?_⟩
        rcases k with ⟨rfl, k⟩ | ⟨q9, hq9, rfl, k⟩
        · show rx_aw 146 63 [.ref 1, .int a0, .int (hi1 4 j3), rx_no] [.null] (rx_hp L t hi9 hl9 v9) Q
          refine rx_aw_s 5 (pc := 63) rfl ?_
          show rx_aw 146 74 [.ref 1, .int a0, .int (hi1 4 j3), .null] [.int (-10 : Int32)] (rx_hp L t hi9 hl9 v9) Q
          exact rx_aw_ret (pc := 74) rfl k
        · show rx_aw 146 63 [.ref 1, .int a0, .int (hi1 4 j3), rx_no] [.ref (rx_ct q9)] (rx_hp L t hi9 hl9 v9) Q
          refine rx_aw_s 5 (pc := 63) rfl ?_
          show rx_aw 146 76 [.ref 1, .int a0, .int (hi1 4 j3), .ref (rx_ct q9)] [.ref (rx_ct q9)] (rx_hp L t hi9 hl9 v9) Q
          refine rx_w_cg hq9 (pc := 76) rfl (by decide) (by decide) ?_
          show rx_aw 146 79 [.ref 1, .int a0, .int (hi1 4 j3), .ref (rx_ct q9)] [.int (hi9 (rx_ct q9) 5)] (rx_hp L t hi9 hl9 v9) Q
          by_cases s10_0 : (hi9 (rx_ct q9) 5) = (0 : Int32)
          · have k := k.1 s10_0
            refine rx_aw_tsw (pc := 79) (p2 := 104) rfl (by rw [s10_0]; rfl) ?_
            show rx_aw 146 104 [.ref 1, .int a0, .int (hi1 4 j3), .ref (rx_ct q9)] [] (rx_hp L t hi9 hl9 v9) Q
            refine rx_aw_s 1 (pc := 104) rfl ?_
            show rx_aw 146 106 [.ref 1, .int a0, .int (hi1 4 j3), .ref (rx_ct q9)] [.int (10 : Int32)] (rx_hp L t hi9 hl9 v9) Q
            exact rx_aw_ret (pc := 106) rfl k
          · have k := k.2 s10_0
            by_cases s10_1 : (hi9 (rx_ct q9) 5) = (1 : Int32)
            · have k := k.1 s10_1
              refine rx_aw_tsw (pc := 79) (p2 := 107) rfl (by rw [s10_1]; rfl) ?_
              show rx_aw 146 107 [.ref 1, .int a0, .int (hi1 4 j3), .ref (rx_ct q9)] [] (rx_hp L t hi9 hl9 v9) Q
              refine rx_aw_s 5 (pc := 107) rfl ?_
              show rx_aw 146 117 [.ref 1, .int a0, .int (hi1 4 j3), .ref (rx_ct q9)] [.int (402 : Int32), .int (hi1 4 j3), .ref 13, .int (15 : Int32)] (rx_hp L t hi9 hl9 v9) Q
              refine rx_w_callI (j := 47) (pc := 117) rfl rfl rfl rfl rfl ?_
              refine rx_aw.mono k (fun r h2 k => ?_)
              obtain ⟨z11, rfl, hi11, hl11, v11, rfl, k⟩ := k
              refine ⟨z11, rfl, ?_⟩
              show rx_aw 146 120 [.ref 1, .int a0, .int (hi1 4 j3), .ref (rx_ct q9)] [.int z11, .int (15 : Int32)] (rx_hp L t hi11 hl11 v11) Q
              refine rx_w_callI (j := 48) (pc := 120) rfl rfl rfl rfl rfl ?_
              refine rx_aw.mono k (fun r h2 k => ?_)
              obtain ⟨z12, rfl, hi12, hl12, v12, rfl, k⟩ := k
              refine ⟨z12, rfl, ?_⟩
              show rx_aw 146 123 [.ref 1, .int a0, .int (hi1 4 j3), .ref (rx_ct q9)] [.int z12, .int (15 : Int32)] (rx_hp L t hi12 hl12 v12) Q
              refine rx_w_callI (j := 147) (pc := 123) rfl rfl rfl rfl rfl ?_
              refine rx_aw.mono k (fun r h2 k => ?_)
              obtain ⟨z13, rfl, hi13, hl13, v13, rfl, k⟩ := k
              refine ⟨z13, rfl, ?_⟩
              show rx_aw 146 126 [.ref 1, .int a0, .int (hi1 4 j3), .ref (rx_ct q9)] [.int z13, .int (15 : Int32)] (rx_hp L t hi13 hl13 v13) Q
              refine rx_aw_s 1 (pc := 126) rfl ?_
              show rx_aw 146 127 [.ref 1, .int a0, .int (hi1 4 j3), .ref (rx_ct q9)] [.int ((15 : Int32) + z13)] (rx_hp L t hi13 hl13 v13) Q
              exact rx_aw_ret (pc := 127) rfl k
            · have k := k.2 s10_1
              by_cases s10_2 : (hi9 (rx_ct q9) 5) = (2 : Int32)
              · have k := k.1 s10_2
                refine rx_aw_tsw (pc := 79) (p2 := 128) rfl (by rw [s10_2]; rfl) ?_
                show rx_aw 146 128 [.ref 1, .int a0, .int (hi1 4 j3), .ref (rx_ct q9)] [] (rx_hp L t hi9 hl9 v9) Q
                refine rx_aw_s 1 (pc := 128) rfl ?_
                show rx_aw 146 130 [.ref 1, .int a0, .int (hi1 4 j3), .ref (rx_ct q9)] [.int (30 : Int32)] (rx_hp L t hi9 hl9 v9) Q
                exact rx_aw_ret (pc := 130) rfl k
              · have k := k.2 s10_2
                have hds10 : ∀ i : Nat, i < 3 → ¬ (hi9 (rx_ct q9) 5).toInt = 0 + i := by
                  intro i hi e
                  have := rx_ne_toInt (c := (0 : Int32)) (z := 0) (by decide) s10_0
                  have := rx_ne_toInt (c := (1 : Int32)) (z := 1) (by decide) s10_1
                  have := rx_ne_toInt (c := (2 : Int32)) (z := 2) (by decide) s10_2
                  omega
                refine rx_aw_tsw (pc := 79) (p2 := 131) rfl (rx_tsw_d hds10 (by decide)) ?_
                show rx_aw 146 131 [.ref 1, .int a0, .int (hi1 4 j3), .ref (rx_ct q9)] [] (rx_hp L t hi9 hl9 v9) Q
                refine rx_aw_s 1 (pc := 131) rfl ?_
                show rx_aw 146 133 [.ref 1, .int a0, .int (hi1 4 j3), .ref (rx_ct q9)] [.int (12 : Int32)] (rx_hp L t hi9 hl9 v9) Q
                exact rx_aw_ret (pc := 133) rfl k
      · have k := k.2 c8
        show rx_aw 146 66 [.ref 1, .int a0, .int (hi1 4 j3), rx_no] [] (rx_hp L t hi1 hl1 v1) Q
        refine rx_aw_s 5 (pc := 66) rfl ?_
        show rx_aw 146 74 [.ref 1, .int a0, .int (hi1 4 j3), .null] [.int (-10 : Int32)] (rx_hp L t hi1 hl1 v1) Q
        exact rx_aw_ret (pc := 74) rfl k
set_option maxRecDepth 100000 in
/-- CartFloor$Marks.bring(III)V -/
theorem w150_bring {L : Nat} {t : List (Nat × Nat)} {hi : Nat → Nat → Int32} {hl : Nat → Nat → Int64} {v : Nat → Nat → Option Nat} {Q : Option Value → rx_H → Prop} {a0 : Int32} {a1 : Int32} {a2 : Int32} (k : (∃ m1a m1b m1n : Nat, a0 = nI m1a ∧ a1 = nI m1b ∧ a2 = nI m1n ∧ m1a + m1n ≤ 64 ∧ m1b + m1n ≤ 64 ∧ (13 = 13 → ∀ i, i < m1n → fits .byte (.int (hi 89 (m1a + i))) = true) ∧ Q none (rx_hp L t (rx_row hi 89 (va_cpy (hi 89) (hi 89) m1a m1b m1n)) hl v))) : rx_me 150 [.ref 88, .int a0, .int a1, .int a2] (rx_hp L t hi hl v) Q := by
  show rx_aw 150 0 [.ref 88, .int a0, .int a1, .int a2] [] (rx_hp L t hi hl v) Q
  refine rx_aw_s 7 (pc := 0) rfl ?_
  show rx_aw 150 11 [.ref 88, .int a0, .int a1, .int a2] [.int a2, .int a1, .ref 89, .int a0, .ref 89] (rx_hp L t hi hl v) Q
  obtain ⟨m1a, m1b, m1n, e1, e2, e3, e4, e5, e6, k⟩ := k
  refine rx_aw_cpyI (pc := 11) (g := 13) (ls' := 64) (ld := 64) rfl rfl rfl rfl (by decide) (by decide) (by decide) rfl rfl (by decide) (by decide) ⟨m1a, m1b, m1n, e1, e2, e3, e4, e5, e6, ?_⟩
  show rx_aw 150 14 [.ref 88, .int a0, .int a1, .int a2] [] (rx_hp L t (rx_row hi 89 (va_cpy (hi 89) (hi 89) m1a m1b m1n)) hl v) Q
  exact rx_aw_ret (pc := 14) rfl k
set_option maxRecDepth 100000 in
/-- CartFloor$Line.begin(II)V -/
theorem w153_begin {L : Nat} {t : List (Nat × Nat)} {hi : Nat → Nat → Int32} {hl : Nat → Nat → Int64} {v : Nat → Nat → Option Nat} {Q : Option Value → rx_H → Prop} {a0 : Int32} {a1 : Int32} (k : rx_aw 153 12 [.ref 5, .int a0, .int a1, .int (0 : Int32)] [] (rx_hp L t (rx_u (rx_u hi 5 1 a0) 5 2 a1) hl v) Q) : rx_me 153 [.ref 5, .int a0, .int a1] (rx_hp L t hi hl v) Q := by
  show rx_aw 153 0 [.ref 5, .int a0, .int a1, rx_no] [] (rx_hp L t hi hl v) Q
  refine rx_aw_s 8 (pc := 0) rfl ?_
  show rx_aw 153 12 [.ref 5, .int a0, .int a1, .int (0 : Int32)] [] (rx_hp L t (rx_u (rx_u hi 5 1 a0) 5 2 a1) hl v) Q
  exact k
set_option maxRecDepth 100000 in
theorem w153_begin_12 {L : Nat} {t : List (Nat × Nat)} {hi : Nat → Nat → Int32} {hl : Nat → Nat → Int64} {v : Nat → Nat → Option Nat} {Q : Option Value → rx_H → Prop} {x1 : Int32} {x2 : Int32} {x3 : Int32} (k : (((40 : Int32) ≤ x3 → Q none (rx_hp L t hi hl v)) ∧ (¬ ((40 : Int32) ≤ x3) → (∃ j2 : Nat, x3 = nI j2 ∧ j2 < 40 ∧ rx_aw 153 12 [.ref 5, .int x1, .int x2, .int (x3 + (1 : Int32))] [] (rx_hp L t hi hl (rx_u v 6 j2 none)) Q)))) : rx_aw 153 12 [.ref 5, .int x1, .int x2, .int x3] [] (rx_hp L t hi hl v) Q := by
  refine rx_aw_s 3 (pc := 12) rfl ?_
  refine rx_w_if (c := (40 : Int32) ≤ x3) ⟨fun c1 => ?_, fun c1 => ?_⟩
  · have k := k.1 c1
    show rx_aw 153 31 [.ref 5, .int x1, .int x2, .int x3] [] (rx_hp L t hi hl v) Q
    exact rx_aw_ret (pc := 31) rfl k
  · have k := k.2 c1
    show rx_aw 153 18 [.ref 5, .int x1, .int x2, .int x3] [] (rx_hp L t hi hl v) Q
    refine rx_aw_s 4 (pc := 18) rfl ?_
    show rx_aw 153 24 [.ref 5, .int x1, .int x2, .int x3] [.null, .int x3, .ref 6] (rx_hp L t hi hl v) Q
    obtain ⟨j2, ej2, hj2, k⟩ := k
    refine rx_aw_lnN (pc := 24) rfl ⟨j2, ej2, hj2, ?_⟩
    show rx_aw 153 25 [.ref 5, .int x1, .int x2, .int x3] [] (rx_hp L t hi hl (rx_u v 6 j2 none)) Q
    refine rx_aw_s 2 (pc := 25) rfl ?_
    show rx_aw 153 12 [.ref 5, .int x1, .int x2, .int (x3 + (1 : Int32))] [] (rx_hp L t hi hl (rx_u v 6 j2 none)) Q
    exact k
set_option maxRecDepth 100000 in
/-- CartFloor.slot(II)I -/
theorem w154_slot {L : Nat} {t : List (Nat × Nat)} {hi : Nat → Nat → Int32} {hl : Nat → Nat → Int64} {v : Nat → Nat → Option Nat} {Q : Option Value → rx_H → Prop} {a0 : Int32} {a1 : Int32} (k : rx_me 59 [.ref 13, .int a1] (rx_hp L t hi hl v) (fun r h2 => ∃ z1 : Option Nat, r = some (va_rf z1) ∧ rx_ok2 L t h2 (fun hi1 hl1 v1 => (z1 = none ∧ Q (some (.int (-2 : Int32))) (rx_hp L t hi1 hl1 v1)) ∨ (∃ q1 : Nat, q1 < 6 ∧ z1 = some (rx_ct q1) ∧ ((0 ≤ (hi1 5 2) → ((a0 < 0 → Q (some (.int (-11 : Int32))) (rx_hp L t hi1 hl1 v1)) ∧ (¬ (a0 < 0) → ((a0 < (hi1 5 2) → (((hi1 5 1) ≤ (hi1 (rx_ct q1) 5) → (∃ j6 : Nat, a0 = nI j6 ∧ j6 < 40 ∧ rx_me 155 [.ref 5] (rx_hp L t hi1 hl1 (rx_u v1 6 j6 (some (rx_ct q1)))) (fun r h2 => ∃ z7 : Int32, r = some (.int z7) ∧ rx_ok2 L t h2 (fun hi7 hl7 v7 => Q (some (.int z7)) (rx_hp L t hi7 hl7 v7))))) ∧ (¬ ((hi1 5 1) ≤ (hi1 (rx_ct q1) 5)) → Q (some (.int (-14 : Int32))) (rx_hp L t hi1 hl1 v1)))) ∧ (¬ (a0 < (hi1 5 2)) → Q (some (.int (-11 : Int32))) (rx_hp L t hi1 hl1 v1)))))) ∧ (¬ (0 ≤ (hi1 5 2)) → Q (some (.int (-10 : Int32))) (rx_hp L t hi1 hl1 v1))))))) : rx_me 154 [.ref 1, .int a0, .int a1] (rx_hp L t hi hl v) Q := by
  show rx_aw 154 0 [.ref 1, .int a0, .int a1, rx_no] [] (rx_hp L t hi hl v) Q
  refine rx_aw_s 3 (pc := 0) rfl ?_
  show rx_aw 154 5 [.ref 1, .int a0, .int a1, rx_no] [.int a1, .ref 13] (rx_hp L t hi hl v) Q
  refine rx_w_callR (j := 59) (pc := 5) rfl rfl rfl rfl rfl ?_
  refine rx_aw.mono k (fun r h2 k => ?_)
  obtain ⟨z1, rfl, hi1, hl1, v1, rfl, k⟩ := k
  refine ⟨z1, rfl, ?_⟩
  rcases k with ⟨rfl, k⟩ | ⟨q1, hq1, rfl, k⟩
  · show rx_aw 154 8 [.ref 1, .int a0, .int a1, rx_no] [.null] (rx_hp L t hi1 hl1 v1) Q
    refine rx_aw_s 4 (pc := 8) rfl ?_
    show rx_aw 154 15 [.ref 1, .int a0, .int a1, .null] [.int (-2 : Int32)] (rx_hp L t hi1 hl1 v1) Q
    exact rx_aw_ret (pc := 15) rfl k
  · show rx_aw 154 8 [.ref 1, .int a0, .int a1, rx_no] [.ref (rx_ct q1)] (rx_hp L t hi1 hl1 v1) Q
    refine rx_aw_s 7 (pc := 8) rfl ?_
    refine rx_w_if (c := 0 ≤ (hi1 5 2)) ⟨fun c2 => ?_, fun c2 => ?_⟩
    · have k := k.1 c2
      show rx_aw 154 29 [.ref 1, .int a0, .int a1, .ref (rx_ct q1)] [] (rx_hp L t hi1 hl1 v1) Q
      refine rx_aw_s 2 (pc := 29) rfl ?_
      refine rx_w_if (c := a0 < 0) ⟨fun c3 => ?_, fun c3 => ?_⟩
      · have k := k.1 c3
        show rx_aw 154 44 [.ref 1, .int a0, .int a1, .ref (rx_ct q1)] [] (rx_hp L t hi1 hl1 v1) Q
        refine rx_aw_s 1 (pc := 44) rfl ?_
        show rx_aw 154 46 [.ref 1, .int a0, .int a1, .ref (rx_ct q1)] [.int (-11 : Int32)] (rx_hp L t hi1 hl1 v1) Q
        exact rx_aw_ret (pc := 46) rfl k
      · have k := k.2 c3
        show rx_aw 154 33 [.ref 1, .int a0, .int a1, .ref (rx_ct q1)] [] (rx_hp L t hi1 hl1 v1) Q
        refine rx_aw_s 5 (pc := 33) rfl ?_
        refine rx_w_if (c := a0 < (hi1 5 2)) ⟨fun c4 => ?_, fun c4 => ?_⟩
        · have k := k.1 c4
          show rx_aw 154 47 [.ref 1, .int a0, .int a1, .ref (rx_ct q1)] [] (rx_hp L t hi1 hl1 v1) Q
          refine rx_aw_s 1 (pc := 47) rfl ?_
          show rx_aw 154 48 [.ref 1, .int a0, .int a1, .ref (rx_ct q1)] [.ref (rx_ct q1)] (rx_hp L t hi1 hl1 v1) Q
          refine rx_w_cg hq1 (pc := 48) rfl (by decide) (by decide) ?_
          show rx_aw 154 51 [.ref 1, .int a0, .int a1, .ref (rx_ct q1)] [.int (hi1 (rx_ct q1) 5)] (rx_hp L t hi1 hl1 v1) Q
          refine rx_aw_s 4 (pc := 51) rfl ?_
          refine rx_w_if (c := (hi1 5 1) ≤ (hi1 (rx_ct q1) 5)) ⟨fun c5 => ?_, fun c5 => ?_⟩
          · have k := k.1 c5
            show rx_aw 154 64 [.ref 1, .int a0, .int a1, .ref (rx_ct q1)] [] (rx_hp L t hi1 hl1 v1) Q
            refine rx_aw_s 5 (pc := 64) rfl ?_
            show rx_aw 154 73 [.ref 1, .int a0, .int a1, .ref (rx_ct q1)] [.ref (rx_ct q1), .int a0, .ref 6] (rx_hp L t hi1 hl1 v1) Q
            obtain ⟨j6, ej6, hj6, k⟩ := k
            refine rx_aw_lnC hq1 (pc := 73) rfl ⟨j6, ej6, hj6, ?_⟩
            show rx_aw 154 74 [.ref 1, .int a0, .int a1, .ref (rx_ct q1)] [] (rx_hp L t hi1 hl1 (rx_u v1 6 j6 (some (rx_ct q1)))) Q
            refine rx_aw_s 2 (pc := 74) rfl ?_
            show rx_aw 154 78 [.ref 1, .int a0, .int a1, .ref (rx_ct q1)] [.ref 5] (rx_hp L t hi1 hl1 (rx_u v1 6 j6 (some (rx_ct q1)))) Q
            refine rx_w_callI (j := 155) (pc := 78) rfl rfl rfl rfl rfl ?_
            refine rx_aw.mono k (fun r h2 k => ?_)
            obtain ⟨z7, rfl, hi7, hl7, v7, rfl, k⟩ := k
            refine ⟨z7, rfl, ?_⟩
            show rx_aw 154 81 [.ref 1, .int a0, .int a1, .ref (rx_ct q1)] [.int z7] (rx_hp L t hi7 hl7 v7) Q
            exact rx_aw_ret (pc := 81) rfl k
          · have k := k.2 c5
            show rx_aw 154 61 [.ref 1, .int a0, .int a1, .ref (rx_ct q1)] [] (rx_hp L t hi1 hl1 v1) Q
            refine rx_aw_s 1 (pc := 61) rfl ?_
            show rx_aw 154 63 [.ref 1, .int a0, .int a1, .ref (rx_ct q1)] [.int (-14 : Int32)] (rx_hp L t hi1 hl1 v1) Q
            exact rx_aw_ret (pc := 63) rfl k
        · have k := k.2 c4
          show rx_aw 154 44 [.ref 1, .int a0, .int a1, .ref (rx_ct q1)] [] (rx_hp L t hi1 hl1 v1) Q
          refine rx_aw_s 1 (pc := 44) rfl ?_
          show rx_aw 154 46 [.ref 1, .int a0, .int a1, .ref (rx_ct q1)] [.int (-11 : Int32)] (rx_hp L t hi1 hl1 v1) Q
          exact rx_aw_ret (pc := 46) rfl k
    · have k := k.2 c2
      show rx_aw 154 26 [.ref 1, .int a0, .int a1, .ref (rx_ct q1)] [] (rx_hp L t hi1 hl1 v1) Q
      refine rx_aw_s 1 (pc := 26) rfl ?_
      show rx_aw 154 28 [.ref 1, .int a0, .int a1, .ref (rx_ct q1)] [.int (-10 : Int32)] (rx_hp L t hi1 hl1 v1) Q
      exact rx_aw_ret (pc := 28) rfl k
set_option maxRecDepth 100000 in
/-- CartFloorModel.next(II)V -/
theorem w193_next_r {L : Nat} {t : List (Nat × Nat)} {hi : Nat → Nat → Int32} {hl : Nat → Nat → Int64} {v : Nat → Nat → Option Nat} {Q : Option Value → rx_H → Prop} {a0 : Int32} {a1 : Int32} (k : rx_me 194 [.ref 90, .int a0, .int a1] (rx_hp L t hi hl v) (fun r h2 => ∃ z1 : Int32, r = some (.int z1) ∧ rx_ok2 L t h2 (fun hi1 hl1 v1 => (∃ j2 : Nat, (((402 : Int32) * a0) + a1) = nI j2 ∧ j2 < 2412 ∧ (∃ j3 : Nat, (((402 : Int32) * a0) + a1) = nI j3 ∧ j3 < 2412 ∧ (∃ j4 : Nat, (((402 : Int32) * a0) + a1) = nI j4 ∧ j4 < 2412 ∧ ((z1 = (5 : Int32) → (∃ j6 : Nat, a0 = nI j6 ∧ j6 < 6 ∧ (((hi1 93 j6) = (1 : Int32) → ((0 ≤ (hi1 103 j2) → rx_aw 193 74 [.ref 90, .int a0, .int a1, .int (((402 : Int32) * a0) + a1), .int z1, .int (hi1 103 j2), .int (hi1 101 j3), .int (hi1 102 j4), .int (1 : Int32), rx_no] [] (rx_hp L t hi1 hl1 v1) Q) ∧ (¬ (0 ≤ (hi1 103 j2)) → rx_me 195 [.ref 90, .int (hi1 101 j3), .int a1] (rx_hp L t hi1 hl1 v1) (fun r h2 => ∃ z9 : Int32, r = some (.int z9) ∧ rx_ok2 L t h2 (fun hi9 hl9 v9 => rx_aw 193 75 [.ref 90, .int a0, .int a1, .int (((402 : Int32) * a0) + a1), .int z1, .int (hi1 103 j2), .int (hi1 101 j3), .int (hi1 102 j4), .int (1 : Int32), rx_no] [.int z9] (rx_hp L t hi9 hl9 v9) Q))))) ∧ (¬ ((hi1 93 j6) = (1 : Int32)) → rx_aw 193 74 [.ref 90, .int a0, .int a1, .int (((402 : Int32) * a0) + a1), .int z1, .int (hi1 103 j2), .int (hi1 101 j3), .int (hi1 102 j4), .int (1 : Int32), rx_no] [] (rx_hp L t hi1 hl1 v1) Q)))) ∧ (¬ (z1 = (5 : Int32)) → ((z1 = (6 : Int32) → (∃ j11 : Nat, a0 = nI j11 ∧ j11 < 6 ∧ (((hi1 93 j11) = (1 : Int32) → (((hi1 103 j2) < 0 → rx_aw 193 163 [.ref 90, .int a0, .int a1, .int (((402 : Int32) * a0) + a1), .int z1, .int (hi1 103 j2), .int (hi1 101 j3), .int (hi1 102 j4), .int (1 : Int32), rx_no] [] (rx_hp L t hi1 hl1 v1) Q) ∧ (¬ ((hi1 103 j2) < 0) → (∃ j14 : Nat, (hi1 101 j3) = nI j14 ∧ j14 < 64 ∧ (((hi1 91 j14) = (2 : Int32) → rx_aw 193 164 [.ref 90, .int a0, .int a1, .int (((402 : Int32) * a0) + a1), .int z1, .int (hi1 103 j2), .int (hi1 101 j3), .int (hi1 102 j4), .int (1 : Int32), rx_no] [.int (1 : Int32)] (rx_hp L t hi1 hl1 v1) Q) ∧ (¬ ((hi1 91 j14) = (2 : Int32)) → rx_aw 193 163 [.ref 90, .int a0, .int a1, .int (((402 : Int32) * a0) + a1), .int z1, .int (hi1 103 j2), .int (hi1 101 j3), .int (hi1 102 j4), .int (1 : Int32), rx_no] [] (rx_hp L t hi1 hl1 v1) Q)))))) ∧ (¬ ((hi1 93 j11) = (1 : Int32)) → rx_aw 193 163 [.ref 90, .int a0, .int a1, .int (((402 : Int32) * a0) + a1), .int z1, .int (hi1 103 j2), .int (hi1 101 j3), .int (hi1 102 j4), .int (1 : Int32), rx_no] [] (rx_hp L t hi1 hl1 v1) Q)))) ∧ (¬ (z1 = (6 : Int32)) → (∃ j16 : Nat, a0 = nI j16 ∧ j16 < 6 ∧ rx_me 184 [.ref 90, .int (hi1 93 j16), .int (hi1 101 j3), .int (hi1 102 j4), .int z1] (rx_hp L t hi1 hl1 v1) (fun r h2 => ∃ z17 : Int32, r = some (.int z17) ∧ rx_ok2 L t h2 (fun hi17 hl17 v17 => ((z17 = 0 → rx_aw 193 214 [.ref 90, .int a0, .int a1, .int (((402 : Int32) * a0) + a1), .int z1, .int (hi1 103 j2), .int (hi1 101 j3), .int (hi1 102 j4), .int z17, rx_no] [.int (hi1 101 j3)] (rx_hp L t hi17 hl17 v17) Q) ∧ (¬ (z17 = 0) → rx_aw 193 214 [.ref 90, .int a0, .int a1, .int (((402 : Int32) * a0) + a1), .int z1, .int (hi1 103 j2), .int (hi1 101 j3), .int (hi1 102 j4), .int z17, rx_no] [.int (hi17 90 33)] (rx_hp L t hi17 hl17 v17) Q))))))))))))))) : rx_me 193 [.ref 90, .int a0, .int a1] (rx_hp L t hi hl v) Q := by
  show rx_aw 193 0 [.ref 90, .int a0, .int a1, rx_no, rx_no, rx_no, rx_no, rx_no, rx_no, rx_no] [] (rx_hp L t hi hl v) Q
  refine rx_aw_s 9 (pc := 0) rfl ?_
  show rx_aw 193 11 [.ref 90, .int a0, .int a1, .int (((402 : Int32) * a0) + a1), rx_no, rx_no, rx_no, rx_no, rx_no, rx_no] [.int a1, .int a0, .ref 90] (rx_hp L t hi hl v) Q
  refine rx_w_callI (j := 194) (pc := 11) rfl rfl rfl rfl rfl ?_
  refine rx_aw.mono k (fun r h2 k => ?_)
  obtain ⟨z1, rfl, hi1, hl1, v1, rfl, k⟩ := k
  refine ⟨z1, rfl, ?_⟩
  show rx_aw 193 14 [.ref 90, .int a0, .int a1, .int (((402 : Int32) * a0) + a1), rx_no, rx_no, rx_no, rx_no, rx_no, rx_no] [.int z1] (rx_hp L t hi1 hl1 v1) Q
  refine rx_aw_s 4 (pc := 14) rfl ?_
  show rx_aw 193 21 [.ref 90, .int a0, .int a1, .int (((402 : Int32) * a0) + a1), .int z1, rx_no, rx_no, rx_no, rx_no, rx_no] [.int (((402 : Int32) * a0) + a1), .ref 103] (rx_hp L t hi1 hl1 v1) Q
  obtain ⟨j2, ej2, hj2, k⟩ := k
  refine rx_aw_iald (pc := 21) (n := 2412) j2 ej2 rfl rfl rfl hj2 (by decide) ?_
  show rx_aw 193 22 [.ref 90, .int a0, .int a1, .int (((402 : Int32) * a0) + a1), .int z1, rx_no, rx_no, rx_no, rx_no, rx_no] [.int (hi1 103 j2)] (rx_hp L t hi1 hl1 v1) Q
  refine rx_aw_s 4 (pc := 22) rfl ?_
  show rx_aw 193 29 [.ref 90, .int a0, .int a1, .int (((402 : Int32) * a0) + a1), .int z1, .int (hi1 103 j2), rx_no, rx_no, rx_no, rx_no] [.int (((402 : Int32) * a0) + a1), .ref 101] (rx_hp L t hi1 hl1 v1) Q
  obtain ⟨j3, ej3, hj3, k⟩ := k
  refine rx_aw_iald (pc := 29) (n := 2412) j3 ej3 rfl rfl rfl hj3 (by decide) ?_
  show rx_aw 193 30 [.ref 90, .int a0, .int a1, .int (((402 : Int32) * a0) + a1), .int z1, .int (hi1 103 j2), rx_no, rx_no, rx_no, rx_no] [.int (hi1 101 j3)] (rx_hp L t hi1 hl1 v1) Q
  refine rx_aw_s 4 (pc := 30) rfl ?_
  show rx_aw 193 37 [.ref 90, .int a0, .int a1, .int (((402 : Int32) * a0) + a1), .int z1, .int (hi1 103 j2), .int (hi1 101 j3), rx_no, rx_no, rx_no] [.int (((402 : Int32) * a0) + a1), .ref 102] (rx_hp L t hi1 hl1 v1) Q
  obtain ⟨j4, ej4, hj4, k⟩ := k
  refine rx_aw_iald (pc := 37) (n := 2412) j4 ej4 rfl rfl rfl hj4 (by decide) ?_
  show rx_aw 193 38 [.ref 90, .int a0, .int a1, .int (((402 : Int32) * a0) + a1), .int z1, .int (hi1 103 j2), .int (hi1 101 j3), rx_no, rx_no, rx_no] [.int (hi1 102 j4)] (rx_hp L t hi1 hl1 v1) Q
  refine rx_aw_s 6 (pc := 38) rfl ?_
  refine rx_w_ifn (c := z1 = (5 : Int32)) ⟨fun c5 => ?_, fun c5 => ?_⟩
  · have k := k.1 c5
    show rx_aw 193 49 [.ref 90, .int a0, .int a1, .int (((402 : Int32) * a0) + a1), .int z1, .int (hi1 103 j2), .int (hi1 101 j3), .int (hi1 102 j4), .int (1 : Int32), rx_no] [] (rx_hp L t hi1 hl1 v1) Q
    refine rx_aw_s 3 (pc := 49) rfl ?_
    show rx_aw 193 54 [.ref 90, .int a0, .int a1, .int (((402 : Int32) * a0) + a1), .int z1, .int (hi1 103 j2), .int (hi1 101 j3), .int (hi1 102 j4), .int (1 : Int32), rx_no] [.int a0, .ref 93] (rx_hp L t hi1 hl1 v1) Q
    obtain ⟨j6, ej6, hj6, k⟩ := k
    refine rx_aw_iald (pc := 54) (n := 6) j6 ej6 rfl rfl rfl hj6 (by decide) ?_
    show rx_aw 193 55 [.ref 90, .int a0, .int a1, .int (((402 : Int32) * a0) + a1), .int z1, .int (hi1 103 j2), .int (hi1 101 j3), .int (hi1 102 j4), .int (1 : Int32), rx_no] [.int (hi1 93 j6)] (rx_hp L t hi1 hl1 v1) Q
    refine rx_aw_s 2 (pc := 55) rfl ?_
    refine rx_w_ifn (c := (hi1 93 j6) = (1 : Int32)) ⟨fun c7 => ?_, fun c7 => ?_⟩
    · have k := k.1 c7
      show rx_aw 193 59 [.ref 90, .int a0, .int a1, .int (((402 : Int32) * a0) + a1), .int z1, .int (hi1 103 j2), .int (hi1 101 j3), .int (hi1 102 j4), .int (1 : Int32), rx_no] [] (rx_hp L t hi1 hl1 v1) Q
      refine rx_aw_s 2 (pc := 59) rfl ?_
      refine rx_w_if (c := 0 ≤ (hi1 103 j2)) ⟨fun c8 => ?_, fun c8 => ?_⟩
      · have k := k.1 c8
        show rx_aw 193 74 [.ref 90, .int a0, .int a1, .int (((402 : Int32) * a0) + a1), .int z1, .int (hi1 103 j2), .int (hi1 101 j3), .int (hi1 102 j4), .int (1 : Int32), rx_no] [] (rx_hp L t hi1 hl1 v1) Q
        exact k
      · have k := k.2 c8
        show rx_aw 193 64 [.ref 90, .int a0, .int a1, .int (((402 : Int32) * a0) + a1), .int z1, .int (hi1 103 j2), .int (hi1 101 j3), .int (hi1 102 j4), .int (1 : Int32), rx_no] [] (rx_hp L t hi1 hl1 v1) Q
        refine rx_aw_s 3 (pc := 64) rfl ?_
        show rx_aw 193 68 [.ref 90, .int a0, .int a1, .int (((402 : Int32) * a0) + a1), .int z1, .int (hi1 103 j2), .int (hi1 101 j3), .int (hi1 102 j4), .int (1 : Int32), rx_no] [.int a1, .int (hi1 101 j3), .ref 90] (rx_hp L t hi1 hl1 v1) Q
        refine rx_w_callI (j := 195) (pc := 68) rfl rfl rfl rfl rfl ?_
        refine rx_aw.mono k (fun r h2 k => ?_)
        obtain ⟨z9, rfl, hi9, hl9, v9, rfl, k⟩ := k
        refine ⟨z9, rfl, ?_⟩
        show rx_aw 193 71 [.ref 90, .int a0, .int a1, .int (((402 : Int32) * a0) + a1), .int z1, .int (hi1 103 j2), .int (hi1 101 j3), .int (hi1 102 j4), .int (1 : Int32), rx_no] [.int z9] (rx_hp L t hi9 hl9 v9) Q
        refine rx_aw_s 1 (pc := 71) rfl ?_
        show rx_aw 193 75 [.ref 90, .int a0, .int a1, .int (((402 : Int32) * a0) + a1), .int z1, .int (hi1 103 j2), .int (hi1 101 j3), .int (hi1 102 j4), .int (1 : Int32), rx_no] [.int z9] (rx_hp L t hi9 hl9 v9) Q
        exact k
    · have k := k.2 c7
      show rx_aw 193 74 [.ref 90, .int a0, .int a1, .int (((402 : Int32) * a0) + a1), .int z1, .int (hi1 103 j2), .int (hi1 101 j3), .int (hi1 102 j4), .int (1 : Int32), rx_no] [] (rx_hp L t hi1 hl1 v1) Q
      exact k
  · have k := k.2 c5
    show rx_aw 193 126 [.ref 90, .int a0, .int a1, .int (((402 : Int32) * a0) + a1), .int z1, .int (hi1 103 j2), .int (hi1 101 j3), .int (hi1 102 j4), .int (1 : Int32), rx_no] [] (rx_hp L t hi1 hl1 v1) Q
    refine rx_aw_s 3 (pc := 126) rfl ?_
    refine rx_w_ifn (c := z1 = (6 : Int32)) ⟨fun c10 => ?_, fun c10 => ?_⟩
    · have k := k.1 c10
      show rx_aw 193 133 [.ref 90, .int a0, .int a1, .int (((402 : Int32) * a0) + a1), .int z1, .int (hi1 103 j2), .int (hi1 101 j3), .int (hi1 102 j4), .int (1 : Int32), rx_no] [] (rx_hp L t hi1 hl1 v1) Q
      refine rx_aw_s 3 (pc := 133) rfl ?_
      show rx_aw 193 138 [.ref 90, .int a0, .int a1, .int (((402 : Int32) * a0) + a1), .int z1, .int (hi1 103 j2), .int (hi1 101 j3), .int (hi1 102 j4), .int (1 : Int32), rx_no] [.int a0, .ref 93] (rx_hp L t hi1 hl1 v1) Q
      obtain ⟨j11, ej11, hj11, k⟩ := k
      refine rx_aw_iald (pc := 138) (n := 6) j11 ej11 rfl rfl rfl hj11 (by decide) ?_
      show rx_aw 193 139 [.ref 90, .int a0, .int a1, .int (((402 : Int32) * a0) + a1), .int z1, .int (hi1 103 j2), .int (hi1 101 j3), .int (hi1 102 j4), .int (1 : Int32), rx_no] [.int (hi1 93 j11)] (rx_hp L t hi1 hl1 v1) Q
      refine rx_aw_s 2 (pc := 139) rfl ?_
      refine rx_w_ifn (c := (hi1 93 j11) = (1 : Int32)) ⟨fun c12 => ?_, fun c12 => ?_⟩
      · have k := k.1 c12
        show rx_aw 193 143 [.ref 90, .int a0, .int a1, .int (((402 : Int32) * a0) + a1), .int z1, .int (hi1 103 j2), .int (hi1 101 j3), .int (hi1 102 j4), .int (1 : Int32), rx_no] [] (rx_hp L t hi1 hl1 v1) Q
        refine rx_aw_s 2 (pc := 143) rfl ?_
        refine rx_w_if (c := (hi1 103 j2) < 0) ⟨fun c13 => ?_, fun c13 => ?_⟩
        · have k := k.1 c13
          show rx_aw 193 163 [.ref 90, .int a0, .int a1, .int (((402 : Int32) * a0) + a1), .int z1, .int (hi1 103 j2), .int (hi1 101 j3), .int (hi1 102 j4), .int (1 : Int32), rx_no] [] (rx_hp L t hi1 hl1 v1) Q
          exact k
        · have k := k.2 c13
          show rx_aw 193 148 [.ref 90, .int a0, .int a1, .int (((402 : Int32) * a0) + a1), .int z1, .int (hi1 103 j2), .int (hi1 101 j3), .int (hi1 102 j4), .int (1 : Int32), rx_no] [] (rx_hp L t hi1 hl1 v1) Q
          refine rx_aw_s 3 (pc := 148) rfl ?_
          show rx_aw 193 154 [.ref 90, .int a0, .int a1, .int (((402 : Int32) * a0) + a1), .int z1, .int (hi1 103 j2), .int (hi1 101 j3), .int (hi1 102 j4), .int (1 : Int32), rx_no] [.int (hi1 101 j3), .ref 91] (rx_hp L t hi1 hl1 v1) Q
          obtain ⟨j14, ej14, hj14, k⟩ := k
          refine rx_aw_iald (pc := 154) (n := 64) j14 ej14 rfl rfl rfl hj14 (by decide) ?_
          show rx_aw 193 155 [.ref 90, .int a0, .int a1, .int (((402 : Int32) * a0) + a1), .int z1, .int (hi1 103 j2), .int (hi1 101 j3), .int (hi1 102 j4), .int (1 : Int32), rx_no] [.int (hi1 91 j14)] (rx_hp L t hi1 hl1 v1) Q
          refine rx_aw_s 2 (pc := 155) rfl ?_
          refine rx_w_ifn (c := (hi1 91 j14) = (2 : Int32)) ⟨fun c15 => ?_, fun c15 => ?_⟩
          · have k := k.1 c15
            show rx_aw 193 159 [.ref 90, .int a0, .int a1, .int (((402 : Int32) * a0) + a1), .int z1, .int (hi1 103 j2), .int (hi1 101 j3), .int (hi1 102 j4), .int (1 : Int32), rx_no] [] (rx_hp L t hi1 hl1 v1) Q
            refine rx_aw_s 2 (pc := 159) rfl ?_
            show rx_aw 193 164 [.ref 90, .int a0, .int a1, .int (((402 : Int32) * a0) + a1), .int z1, .int (hi1 103 j2), .int (hi1 101 j3), .int (hi1 102 j4), .int (1 : Int32), rx_no] [.int (1 : Int32)] (rx_hp L t hi1 hl1 v1) Q
            exact k
          · have k := k.2 c15
            show rx_aw 193 163 [.ref 90, .int a0, .int a1, .int (((402 : Int32) * a0) + a1), .int z1, .int (hi1 103 j2), .int (hi1 101 j3), .int (hi1 102 j4), .int (1 : Int32), rx_no] [] (rx_hp L t hi1 hl1 v1) Q
            exact k
      · have k := k.2 c12
        show rx_aw 193 163 [.ref 90, .int a0, .int a1, .int (((402 : Int32) * a0) + a1), .int z1, .int (hi1 103 j2), .int (hi1 101 j3), .int (hi1 102 j4), .int (1 : Int32), rx_no] [] (rx_hp L t hi1 hl1 v1) Q
        exact k
    · have k := k.2 c10
      show rx_aw 193 182 [.ref 90, .int a0, .int a1, .int (((402 : Int32) * a0) + a1), .int z1, .int (hi1 103 j2), .int (hi1 101 j3), .int (hi1 102 j4), .int (1 : Int32), rx_no] [] (rx_hp L t hi1 hl1 v1) Q
      refine rx_aw_s 4 (pc := 182) rfl ?_
      show rx_aw 193 188 [.ref 90, .int a0, .int a1, .int (((402 : Int32) * a0) + a1), .int z1, .int (hi1 103 j2), .int (hi1 101 j3), .int (hi1 102 j4), .int (1 : Int32), rx_no] [.int a0, .ref 93, .ref 90] (rx_hp L t hi1 hl1 v1) Q
      obtain ⟨j16, ej16, hj16, k⟩ := k
      refine rx_aw_iald (pc := 188) (n := 6) j16 ej16 rfl rfl rfl hj16 (by decide) ?_
      show rx_aw 193 189 [.ref 90, .int a0, .int a1, .int (((402 : Int32) * a0) + a1), .int z1, .int (hi1 103 j2), .int (hi1 101 j3), .int (hi1 102 j4), .int (1 : Int32), rx_no] [.int (hi1 93 j16), .ref 90] (rx_hp L t hi1 hl1 v1) Q
      refine rx_aw_s 3 (pc := 189) rfl ?_
      show rx_aw 193 195 [.ref 90, .int a0, .int a1, .int (((402 : Int32) * a0) + a1), .int z1, .int (hi1 103 j2), .int (hi1 101 j3), .int (hi1 102 j4), .int (1 : Int32), rx_no] [.int z1, .int (hi1 102 j4), .int (hi1 101 j3), .int (hi1 93 j16), .ref 90] (rx_hp L t hi1 hl1 v1) Q
      refine rx_w_callI (j := 184) (pc := 195) rfl rfl rfl rfl rfl ?_
      refine rx_aw.mono k (fun r h2 k => ?_)
      obtain ⟨z17, rfl, hi17, hl17, v17, rfl, k⟩ := k
      refine ⟨z17, rfl, ?_⟩
      show rx_aw 193 198 [.ref 90, .int a0, .int a1, .int (((402 : Int32) * a0) + a1), .int z1, .int (hi1 103 j2), .int (hi1 101 j3), .int (hi1 102 j4), .int (1 : Int32), rx_no] [.int z17] (rx_hp L t hi17 hl17 v17) Q
      refine rx_aw_s 3 (pc := 198) rfl ?_
      refine rx_w_if (c := z17 = 0) ⟨fun c18 => ?_, fun c18 => ?_⟩
      · have k := k.1 c18
        show rx_aw 193 212 [.ref 90, .int a0, .int a1, .int (((402 : Int32) * a0) + a1), .int z1, .int (hi1 103 j2), .int (hi1 101 j3), .int (hi1 102 j4), .int z17, rx_no] [] (rx_hp L t hi17 hl17 v17) Q
        refine rx_aw_s 1 (pc := 212) rfl ?_
        show rx_aw 193 214 [.ref 90, .int a0, .int a1, .int (((402 : Int32) * a0) + a1), .int z1, .int (hi1 103 j2), .int (hi1 101 j3), .int (hi1 102 j4), .int z17, rx_no] [.int (hi1 101 j3)] (rx_hp L t hi17 hl17 v17) Q
        exact k
      · have k := k.2 c18
        show rx_aw 193 205 [.ref 90, .int a0, .int a1, .int (((402 : Int32) * a0) + a1), .int z1, .int (hi1 103 j2), .int (hi1 101 j3), .int (hi1 102 j4), .int z17, rx_no] [] (rx_hp L t hi17 hl17 v17) Q
        refine rx_aw_s 3 (pc := 205) rfl ?_
        show rx_aw 193 214 [.ref 90, .int a0, .int a1, .int (((402 : Int32) * a0) + a1), .int z1, .int (hi1 103 j2), .int (hi1 101 j3), .int (hi1 102 j4), .int z17, rx_no] [.int (hi17 90 33)] (rx_hp L t hi17 hl17 v17) Q
        exact k
set_option maxRecDepth 100000 in
theorem w193_next_r_74 {L : Nat} {t : List (Nat × Nat)} {hi : Nat → Nat → Int32} {hl : Nat → Nat → Int64} {v : Nat → Nat → Option Nat} {Q : Option Value → rx_H → Prop} {x1 : Int32} {x2 : Int32} {x3 : Int32} {x4 : Int32} {x5 : Int32} {x6 : Int32} {x7 : Int32} {x8 : Int32} (k : rx_aw 193 75 [.ref 90, .int x1, .int x2, .int x3, .int x4, .int x5, .int x6, .int x7, .int x8, rx_no] [.int (-1 : Int32)] (rx_hp L t hi hl v) Q) : rx_aw 193 74 [.ref 90, .int x1, .int x2, .int x3, .int x4, .int x5, .int x6, .int x7, .int x8, rx_no] [] (rx_hp L t hi hl v) Q := by
  refine rx_aw_s 1 (pc := 74) rfl ?_
  show rx_aw 193 75 [.ref 90, .int x1, .int x2, .int x3, .int x4, .int x5, .int x6, .int x7, .int x8, rx_no] [.int (-1 : Int32)] (rx_hp L t hi hl v) Q
  exact k
set_option maxRecDepth 100000 in
theorem w193_next_r_75 {L : Nat} {t : List (Nat × Nat)} {hi : Nat → Nat → Int32} {hl : Nat → Nat → Int64} {v : Nat → Nat → Option Nat} {Q : Option Value → rx_H → Prop} {x1 : Int32} {x2 : Int32} {x3 : Int32} {x4 : Int32} {x5 : Int32} {x6 : Int32} {x7 : Int32} {x8 : Int32} {y0 : Int32} (k : ((y0 < 0 → rx_aw 193 106 [.ref 90, .int x1, .int x2, .int x3, .int x4, .int x5, .int x6, .int x7, .int x8, .int y0] [] (rx_hp L t hi hl v) Q) ∧ (¬ (y0 < 0) → ((x1 = (hi 90 35) → (((((hi 90 36) >>> (y0 &&& 31)) &&& (1 : Int32)) = 0 → rx_aw 193 102 [.ref 90, .int x1, .int x2, .int x3, .int x4, .int x5, .int x6, .int x7, .int x8, .int y0] [] (rx_hp L t hi hl v) Q) ∧ (¬ ((((hi 90 36) >>> (y0 &&& 31)) &&& (1 : Int32)) = 0) → rx_aw 193 106 [.ref 90, .int x1, .int x2, .int x3, .int x4, .int x5, .int x6, .int x7, .int x8, .int y0] [] (rx_hp L t hi hl v) Q))) ∧ (¬ (x1 = (hi 90 35)) → rx_aw 193 102 [.ref 90, .int x1, .int x2, .int x3, .int x4, .int x5, .int x6, .int x7, .int x8, .int y0] [] (rx_hp L t hi hl v) Q))))) : rx_aw 193 75 [.ref 90, .int x1, .int x2, .int x3, .int x4, .int x5, .int x6, .int x7, .int x8, rx_no] [.int y0] (rx_hp L t hi hl v) Q := by
  refine rx_aw_s 3 (pc := 75) rfl ?_
  refine rx_w_if (c := y0 < 0) ⟨fun c19 => ?_, fun c19 => ?_⟩
  · have k := k.1 c19
    show rx_aw 193 106 [.ref 90, .int x1, .int x2, .int x3, .int x4, .int x5, .int x6, .int x7, .int x8, .int y0] [] (rx_hp L t hi hl v) Q
    exact k
  · have k := k.2 c19
    show rx_aw 193 82 [.ref 90, .int x1, .int x2, .int x3, .int x4, .int x5, .int x6, .int x7, .int x8, .int y0] [] (rx_hp L t hi hl v) Q
    refine rx_aw_s 4 (pc := 82) rfl ?_
    refine rx_w_ifn (c := x1 = (hi 90 35)) ⟨fun c20 => ?_, fun c20 => ?_⟩
    · have k := k.1 c20
      show rx_aw 193 90 [.ref 90, .int x1, .int x2, .int x3, .int x4, .int x5, .int x6, .int x7, .int x8, .int y0] [] (rx_hp L t hi hl v) Q
      refine rx_aw_s 7 (pc := 90) rfl ?_
      refine rx_w_ifn (c := (((hi 90 36) >>> (y0 &&& 31)) &&& (1 : Int32)) = 0) ⟨fun c21 => ?_, fun c21 => ?_⟩
      · have k := k.1 c21
        show rx_aw 193 102 [.ref 90, .int x1, .int x2, .int x3, .int x4, .int x5, .int x6, .int x7, .int x8, .int y0] [] (rx_hp L t hi hl v) Q
        exact k
      · have k := k.2 c21
        show rx_aw 193 106 [.ref 90, .int x1, .int x2, .int x3, .int x4, .int x5, .int x6, .int x7, .int x8, .int y0] [] (rx_hp L t hi hl v) Q
        exact k
    · have k := k.2 c20
      show rx_aw 193 102 [.ref 90, .int x1, .int x2, .int x3, .int x4, .int x5, .int x6, .int x7, .int x8, .int y0] [] (rx_hp L t hi hl v) Q
      exact k
set_option maxRecDepth 100000 in
theorem w193_next_r_163 {L : Nat} {t : List (Nat × Nat)} {hi : Nat → Nat → Int32} {hl : Nat → Nat → Int64} {v : Nat → Nat → Option Nat} {Q : Option Value → rx_H → Prop} {x1 : Int32} {x2 : Int32} {x3 : Int32} {x4 : Int32} {x5 : Int32} {x6 : Int32} {x7 : Int32} {x8 : Int32} (k : rx_aw 193 164 [.ref 90, .int x1, .int x2, .int x3, .int x4, .int x5, .int x6, .int x7, .int x8, rx_no] [.int (0 : Int32)] (rx_hp L t hi hl v) Q) : rx_aw 193 163 [.ref 90, .int x1, .int x2, .int x3, .int x4, .int x5, .int x6, .int x7, .int x8, rx_no] [] (rx_hp L t hi hl v) Q := by
  refine rx_aw_s 1 (pc := 163) rfl ?_
  show rx_aw 193 164 [.ref 90, .int x1, .int x2, .int x3, .int x4, .int x5, .int x6, .int x7, .int x8, rx_no] [.int (0 : Int32)] (rx_hp L t hi hl v) Q
  exact k
set_option maxRecDepth 100000 in
theorem w193_next_r_164 {L : Nat} {t : List (Nat × Nat)} {hi : Nat → Nat → Int32} {hl : Nat → Nat → Int64} {v : Nat → Nat → Option Nat} {Q : Option Value → rx_H → Prop} {x1 : Int32} {x2 : Int32} {x3 : Int32} {x4 : Int32} {x5 : Int32} {x6 : Int32} {x7 : Int32} {x8 : Int32} {y0 : Int32} (k : ((y0 = 0 → rx_aw 193 177 [.ref 90, .int x1, .int x2, .int x3, .int x4, .int x5, .int x6, .int x7, .int y0, rx_no] [.int x5] (rx_hp L t hi hl v) Q) ∧ (¬ (y0 = 0) → rx_aw 193 177 [.ref 90, .int x1, .int x2, .int x3, .int x4, .int x5, .int x6, .int x7, .int y0, rx_no] [.int (-1 : Int32)] (rx_hp L t hi hl v) Q))) : rx_aw 193 164 [.ref 90, .int x1, .int x2, .int x3, .int x4, .int x5, .int x6, .int x7, .int x8, rx_no] [.int y0] (rx_hp L t hi hl v) Q := by
  refine rx_aw_s 3 (pc := 164) rfl ?_
  refine rx_w_if (c := y0 = 0) ⟨fun c22 => ?_, fun c22 => ?_⟩
  · have k := k.1 c22
    show rx_aw 193 175 [.ref 90, .int x1, .int x2, .int x3, .int x4, .int x5, .int x6, .int x7, .int y0, rx_no] [] (rx_hp L t hi hl v) Q
    refine rx_aw_s 1 (pc := 175) rfl ?_
    show rx_aw 193 177 [.ref 90, .int x1, .int x2, .int x3, .int x4, .int x5, .int x6, .int x7, .int y0, rx_no] [.int x5] (rx_hp L t hi hl v) Q
    exact k
  · have k := k.2 c22
    show rx_aw 193 171 [.ref 90, .int x1, .int x2, .int x3, .int x4, .int x5, .int x6, .int x7, .int y0, rx_no] [] (rx_hp L t hi hl v) Q
    refine rx_aw_s 2 (pc := 171) rfl ?_
    show rx_aw 193 177 [.ref 90, .int x1, .int x2, .int x3, .int x4, .int x5, .int x6, .int x7, .int y0, rx_no] [.int (-1 : Int32)] (rx_hp L t hi hl v) Q
    exact k
set_option maxRecDepth 100000 in
theorem w193_next_r_214 {L : Nat} {t : List (Nat × Nat)} {hi : Nat → Nat → Int32} {hl : Nat → Nat → Int64} {v : Nat → Nat → Option Nat} {Q : Option Value → rx_H → Prop} {x1 : Int32} {x2 : Int32} {x3 : Int32} {x4 : Int32} {x5 : Int32} {x6 : Int32} {x7 : Int32} {x8 : Int32} {y0 : Int32} (k : ((x8 = 0 → rx_aw 193 230 [.ref 90, .int x1, .int x2, .int x3, .int x4, .int x5, .int y0, .int x7, .int x8, rx_no] [.int x7] (rx_hp L t hi hl v) Q) ∧ (¬ (x8 = 0) → rx_aw 193 230 [.ref 90, .int x1, .int x2, .int x3, .int x4, .int x5, .int y0, .int x7, .int x8, rx_no] [.int (hi 90 34)] (rx_hp L t hi hl v) Q))) : rx_aw 193 214 [.ref 90, .int x1, .int x2, .int x3, .int x4, .int x5, .int x6, .int x7, .int x8, rx_no] [.int y0] (rx_hp L t hi hl v) Q := by
  refine rx_aw_s 3 (pc := 214) rfl ?_
  refine rx_w_if (c := x8 = 0) ⟨fun c23 => ?_, fun c23 => ?_⟩
  · have k := k.1 c23
    show rx_aw 193 228 [.ref 90, .int x1, .int x2, .int x3, .int x4, .int x5, .int y0, .int x7, .int x8, rx_no] [] (rx_hp L t hi hl v) Q
    refine rx_aw_s 1 (pc := 228) rfl ?_
    show rx_aw 193 230 [.ref 90, .int x1, .int x2, .int x3, .int x4, .int x5, .int y0, .int x7, .int x8, rx_no] [.int x7] (rx_hp L t hi hl v) Q
    exact k
  · have k := k.2 c23
    show rx_aw 193 221 [.ref 90, .int x1, .int x2, .int x3, .int x4, .int x5, .int y0, .int x7, .int x8, rx_no] [] (rx_hp L t hi hl v) Q
    refine rx_aw_s 3 (pc := 221) rfl ?_
    show rx_aw 193 230 [.ref 90, .int x1, .int x2, .int x3, .int x4, .int x5, .int y0, .int x7, .int x8, rx_no] [.int (hi 90 34)] (rx_hp L t hi hl v) Q
    exact k
set_option maxRecDepth 100000 in
theorem w193_next_r_106 {L : Nat} {t : List (Nat × Nat)} {hi : Nat → Nat → Int32} {hl : Nat → Nat → Int64} {v : Nat → Nat → Option Nat} {Q : Option Value → rx_H → Prop} {x1 : Int32} {x2 : Int32} {x3 : Int32} {x4 : Int32} {x5 : Int32} {x6 : Int32} {x7 : Int32} {x8 : Int32} {x9 : Int32} (k : rx_aw 193 107 [.ref 90, .int x1, .int x2, .int x3, .int x4, .int x5, .int x6, .int x7, .int x8, .int x9] [.int (0 : Int32)] (rx_hp L t hi hl v) Q) : rx_aw 193 106 [.ref 90, .int x1, .int x2, .int x3, .int x4, .int x5, .int x6, .int x7, .int x8, .int x9] [] (rx_hp L t hi hl v) Q := by
  refine rx_aw_s 1 (pc := 106) rfl ?_
  show rx_aw 193 107 [.ref 90, .int x1, .int x2, .int x3, .int x4, .int x5, .int x6, .int x7, .int x8, .int x9] [.int (0 : Int32)] (rx_hp L t hi hl v) Q
  exact k
set_option maxRecDepth 100000 in
theorem w193_next_r_102 {L : Nat} {t : List (Nat × Nat)} {hi : Nat → Nat → Int32} {hl : Nat → Nat → Int64} {v : Nat → Nat → Option Nat} {Q : Option Value → rx_H → Prop} {x1 : Int32} {x2 : Int32} {x3 : Int32} {x4 : Int32} {x5 : Int32} {x6 : Int32} {x7 : Int32} {x8 : Int32} {x9 : Int32} (k : rx_aw 193 107 [.ref 90, .int x1, .int x2, .int x3, .int x4, .int x5, .int x6, .int x7, .int x8, .int x9] [.int (1 : Int32)] (rx_hp L t hi hl v) Q) : rx_aw 193 102 [.ref 90, .int x1, .int x2, .int x3, .int x4, .int x5, .int x6, .int x7, .int x8, .int x9] [] (rx_hp L t hi hl v) Q := by
  refine rx_aw_s 2 (pc := 102) rfl ?_
  show rx_aw 193 107 [.ref 90, .int x1, .int x2, .int x3, .int x4, .int x5, .int x6, .int x7, .int x8, .int x9] [.int (1 : Int32)] (rx_hp L t hi hl v) Q
  exact k
set_option maxRecDepth 100000 in
theorem w193_next_r_177 {L : Nat} {t : List (Nat × Nat)} {hi : Nat → Nat → Int32} {hl : Nat → Nat → Int64} {v : Nat → Nat → Option Nat} {Q : Option Value → rx_H → Prop} {x1 : Int32} {x2 : Int32} {x3 : Int32} {x4 : Int32} {x5 : Int32} {x6 : Int32} {x7 : Int32} {x8 : Int32} {y0 : Int32} (k : rx_aw 193 232 [.ref 90, .int x1, .int x2, .int x3, .int x4, .int y0, .int x6, .int x7, .int x8, rx_no] [] (rx_hp L t hi hl v) Q) : rx_aw 193 177 [.ref 90, .int x1, .int x2, .int x3, .int x4, .int x5, .int x6, .int x7, .int x8, rx_no] [.int y0] (rx_hp L t hi hl v) Q := by
  refine rx_aw_s 2 (pc := 177) rfl ?_
  show rx_aw 193 232 [.ref 90, .int x1, .int x2, .int x3, .int x4, .int y0, .int x6, .int x7, .int x8, rx_no] [] (rx_hp L t hi hl v) Q
  exact k
set_option maxRecDepth 100000 in
theorem w193_next_r_230 {L : Nat} {t : List (Nat × Nat)} {hi : Nat → Nat → Int32} {hl : Nat → Nat → Int64} {v : Nat → Nat → Option Nat} {Q : Option Value → rx_H → Prop} {x1 : Int32} {x2 : Int32} {x3 : Int32} {x4 : Int32} {x5 : Int32} {x6 : Int32} {x7 : Int32} {x8 : Int32} {y0 : Int32} (k : rx_aw 193 232 [.ref 90, .int x1, .int x2, .int x3, .int x4, .int x5, .int x6, .int y0, .int x8, rx_no] [] (rx_hp L t hi hl v) Q) : rx_aw 193 230 [.ref 90, .int x1, .int x2, .int x3, .int x4, .int x5, .int x6, .int x7, .int x8, rx_no] [.int y0] (rx_hp L t hi hl v) Q := by
  refine rx_aw_s 1 (pc := 230) rfl ?_
  show rx_aw 193 232 [.ref 90, .int x1, .int x2, .int x3, .int x4, .int x5, .int x6, .int y0, .int x8, rx_no] [] (rx_hp L t hi hl v) Q
  exact k
set_option maxRecDepth 100000 in
theorem w193_next_r_107 {L : Nat} {t : List (Nat × Nat)} {hi : Nat → Nat → Int32} {hl : Nat → Nat → Int64} {v : Nat → Nat → Option Nat} {Q : Option Value → rx_H → Prop} {x1 : Int32} {x2 : Int32} {x3 : Int32} {x4 : Int32} {x5 : Int32} {x6 : Int32} {x7 : Int32} {x8 : Int32} {x9 : Int32} {y0 : Int32} (k : ((y0 = 0 → rx_aw 193 121 [.ref 90, .int x1, .int x2, .int x3, .int x4, .int x5, .int x6, .int x7, .int y0, .int x9] [.int x5] (rx_hp L t hi hl v) Q) ∧ (¬ (y0 = 0) → rx_aw 193 121 [.ref 90, .int x1, .int x2, .int x3, .int x4, .int x5, .int x6, .int x7, .int y0, .int x9] [.int x9] (rx_hp L t hi hl v) Q))) : rx_aw 193 107 [.ref 90, .int x1, .int x2, .int x3, .int x4, .int x5, .int x6, .int x7, .int x8, .int x9] [.int y0] (rx_hp L t hi hl v) Q := by
  refine rx_aw_s 3 (pc := 107) rfl ?_
  refine rx_w_if (c := y0 = 0) ⟨fun c24 => ?_, fun c24 => ?_⟩
  · have k := k.1 c24
    show rx_aw 193 119 [.ref 90, .int x1, .int x2, .int x3, .int x4, .int x5, .int x6, .int x7, .int y0, .int x9] [] (rx_hp L t hi hl v) Q
    refine rx_aw_s 1 (pc := 119) rfl ?_
    show rx_aw 193 121 [.ref 90, .int x1, .int x2, .int x3, .int x4, .int x5, .int x6, .int x7, .int y0, .int x9] [.int x5] (rx_hp L t hi hl v) Q
    exact k
  · have k := k.2 c24
    show rx_aw 193 114 [.ref 90, .int x1, .int x2, .int x3, .int x4, .int x5, .int x6, .int x7, .int y0, .int x9] [] (rx_hp L t hi hl v) Q
    refine rx_aw_s 2 (pc := 114) rfl ?_
    show rx_aw 193 121 [.ref 90, .int x1, .int x2, .int x3, .int x4, .int x5, .int x6, .int x7, .int y0, .int x9] [.int x9] (rx_hp L t hi hl v) Q
    exact k
set_option maxRecDepth 100000 in
theorem w193_next_r_232 {L : Nat} {t : List (Nat × Nat)} {hi : Nat → Nat → Int32} {hl : Nat → Nat → Int64} {v : Nat → Nat → Option Nat} {Q : Option Value → rx_H → Prop} {x1 : Int32} {x2 : Int32} {x3 : Int32} {x4 : Int32} {x5 : Int32} {x6 : Int32} {x7 : Int32} {x8 : Int32} (k : (∃ j25 : Nat, x3 = nI j25 ∧ j25 < 2412 ∧ (∃ j26 : Nat, (x3 + (1 : Int32)) = nI j26 ∧ j26 < 2412 ∧ (∃ j27 : Nat, (x3 + (1 : Int32)) = nI j27 ∧ j27 < 2412 ∧ (∃ j28 : Nat, (x3 + (1 : Int32)) = nI j28 ∧ j28 < 2412 ∧ Q none (rx_hp L t (rx_u (rx_u (rx_u (rx_u hi 104 j25 (vp_nar .boolean x8)) 101 j26 x6) 102 j27 x7) 103 j28 x5) hl v)))))) : rx_aw 193 232 [.ref 90, .int x1, .int x2, .int x3, .int x4, .int x5, .int x6, .int x7, .int x8, rx_no] [] (rx_hp L t hi hl v) Q := by
  refine rx_aw_s 4 (pc := 232) rfl ?_
  show rx_aw 193 239 [.ref 90, .int x1, .int x2, .int x3, .int x4, .int x5, .int x6, .int x7, .int x8, rx_no] [.int x8, .int x3, .ref 104] (rx_hp L t hi hl v) Q
  obtain ⟨j25, ej25, hj25, k⟩ := k
  refine rx_aw_zast (pc := 239) (n := 2412) j25 ej25 rfl rfl (by decide) rfl hj25 (by decide) ?_
  show rx_aw 193 240 [.ref 90, .int x1, .int x2, .int x3, .int x4, .int x5, .int x6, .int x7, .int x8, rx_no] [] (rx_hp L t (rx_u hi 104 j25 (vp_nar .boolean x8)) hl v) Q
  refine rx_aw_s 6 (pc := 240) rfl ?_
  show rx_aw 193 249 [.ref 90, .int x1, .int x2, .int x3, .int x4, .int x5, .int x6, .int x7, .int x8, rx_no] [.int x6, .int (x3 + (1 : Int32)), .ref 101] (rx_hp L t (rx_u hi 104 j25 (vp_nar .boolean x8)) hl v) Q
  obtain ⟨j26, ej26, hj26, k⟩ := k
  refine rx_aw_iast (pc := 249) (n := 2412) j26 ej26 rfl rfl (by decide) rfl hj26 (by decide) ?_
  show rx_aw 193 250 [.ref 90, .int x1, .int x2, .int x3, .int x4, .int x5, .int x6, .int x7, .int x8, rx_no] [] (rx_hp L t (rx_u (rx_u hi 104 j25 (vp_nar .boolean x8)) 101 j26 x6) hl v) Q
  refine rx_aw_s 6 (pc := 250) rfl ?_
  show rx_aw 193 259 [.ref 90, .int x1, .int x2, .int x3, .int x4, .int x5, .int x6, .int x7, .int x8, rx_no] [.int x7, .int (x3 + (1 : Int32)), .ref 102] (rx_hp L t (rx_u (rx_u hi 104 j25 (vp_nar .boolean x8)) 101 j26 x6) hl v) Q
  obtain ⟨j27, ej27, hj27, k⟩ := k
  refine rx_aw_iast (pc := 259) (n := 2412) j27 ej27 rfl rfl (by decide) rfl hj27 (by decide) ?_
  show rx_aw 193 260 [.ref 90, .int x1, .int x2, .int x3, .int x4, .int x5, .int x6, .int x7, .int x8, rx_no] [] (rx_hp L t (rx_u (rx_u (rx_u hi 104 j25 (vp_nar .boolean x8)) 101 j26 x6) 102 j27 x7) hl v) Q
  refine rx_aw_s 6 (pc := 260) rfl ?_
  show rx_aw 193 269 [.ref 90, .int x1, .int x2, .int x3, .int x4, .int x5, .int x6, .int x7, .int x8, rx_no] [.int x5, .int (x3 + (1 : Int32)), .ref 103] (rx_hp L t (rx_u (rx_u (rx_u hi 104 j25 (vp_nar .boolean x8)) 101 j26 x6) 102 j27 x7) hl v) Q
  obtain ⟨j28, ej28, hj28, k⟩ := k
  refine rx_aw_iast (pc := 269) (n := 2412) j28 ej28 rfl rfl (by decide) rfl hj28 (by decide) ?_
  show rx_aw 193 270 [.ref 90, .int x1, .int x2, .int x3, .int x4, .int x5, .int x6, .int x7, .int x8, rx_no] [] (rx_hp L t (rx_u (rx_u (rx_u (rx_u hi 104 j25 (vp_nar .boolean x8)) 101 j26 x6) 102 j27 x7) 103 j28 x5) hl v) Q
  exact rx_aw_ret (pc := 270) rfl k
set_option maxRecDepth 100000 in
theorem w193_next_r_121 {L : Nat} {t : List (Nat × Nat)} {hi : Nat → Nat → Int32} {hl : Nat → Nat → Int64} {v : Nat → Nat → Option Nat} {Q : Option Value → rx_H → Prop} {x1 : Int32} {x2 : Int32} {x3 : Int32} {x4 : Int32} {x5 : Int32} {x6 : Int32} {x7 : Int32} {x8 : Int32} {x9 : Int32} {y0 : Int32} (k : rx_aw 193 232 [.ref 90, .int x1, .int x2, .int x3, .int x4, .int y0, .int x6, .int x7, .int x8, rx_no] [] (rx_hp L t hi hl v) Q) : rx_aw 193 121 [.ref 90, .int x1, .int x2, .int x3, .int x4, .int x5, .int x6, .int x7, .int x8, .int x9] [.int y0] (rx_hp L t hi hl v) Q := by
  refine rx_aw_s 2 (pc := 121) rfl ?_
  show rx_aw 193 232 [.ref 90, .int x1, .int x2, .int x3, .int x4, .int y0, .int x6, .int x7, .int x8, .int x9] [] (rx_hp L t hi hl v) Q
  exact rx_aw_le (ls := [.ref 90, .int x1, .int x2, .int x3, .int x4, .int y0, .int x6, .int x7, .int x8, rx_no]) ⟨Or.inr rfl, ⟨Or.inr rfl, ⟨Or.inr rfl, ⟨Or.inr rfl, ⟨Or.inr rfl, ⟨Or.inr rfl, ⟨Or.inr rfl, ⟨Or.inr rfl, ⟨Or.inr rfl, ⟨Or.inl rfl, trivial⟩⟩⟩⟩⟩⟩⟩⟩⟩⟩ k
set_option maxRecDepth 100000 in
/-- CartFloorModel.about(II)I -/
theorem w221_about_r {L : Nat} {t : List (Nat × Nat)} {hi : Nat → Nat → Int32} {hl : Nat → Nat → Int64} {v : Nat → Nat → Option Nat} {Q : Option Value → rx_H → Prop} {a0 : Int32} {a1 : Int32} (k : rx_me 161 [.ref 90, .int a0] (rx_hp L t hi hl v) (fun r h2 => ∃ z1 : Int32, r = some (.int z1) ∧ rx_ok2 L t h2 (fun hi1 hl1 v1 => ((z1 = 0 → Q (some (.int (-2 : Int32))) (rx_hp L t hi1 hl1 v1)) ∧ (¬ (z1 = 0) → ((a1 = (0 : Int32) → (∃ j4 : Nat, a0 = nI j4 ∧ j4 < 6 ∧ Q (some (.int (hi1 93 j4))) (rx_hp L t hi1 hl1 v1))) ∧ (¬ (a1 = (0 : Int32)) → ((a1 = (1 : Int32) → (∃ j5 : Nat, a0 = nI j5 ∧ j5 < 6 ∧ Q (some (.int (hi1 94 j5))) (rx_hp L t hi1 hl1 v1))) ∧ (¬ (a1 = (1 : Int32)) → ((a1 = (2 : Int32) → rx_me 222 [.ref 90, .int a0] (rx_hp L t hi1 hl1 v1) (fun r h2 => ∃ z6 : Int32, r = some (.int z6) ∧ rx_ok2 L t h2 (fun hi6 hl6 v6 => Q (some (.int z6)) (rx_hp L t hi6 hl6 v6)))) ∧ (¬ (a1 = (2 : Int32)) → ((a1 = (3 : Int32) → rx_me 162 [.ref 90, .int a0] (rx_hp L t hi1 hl1 v1) (fun r h2 => ∃ z7 : Int32, r = some (.int z7) ∧ rx_ok2 L t h2 (fun hi7 hl7 v7 => ((z7 = 0 → Q (some (.int (0 : Int32))) (rx_hp L t hi7 hl7 v7)) ∧ (¬ (z7 = 0) → Q (some (.int (1 : Int32))) (rx_hp L t hi7 hl7 v7)))))) ∧ (¬ (a1 = (3 : Int32)) → ((a1 = (4 : Int32) → (∃ j9 : Nat, a0 = nI j9 ∧ j9 < 6 ∧ Q (some (.int (hi1 100 j9))) (rx_hp L t hi1 hl1 v1))) ∧ (¬ (a1 = (4 : Int32)) → ((a1 = (5 : Int32) → (∃ j10 : Nat, a0 = nI j10 ∧ j10 < 6 ∧ (((hi1 96 j10) = 0 → Q (some (.int (-1 : Int32))) (rx_hp L t hi1 hl1 v1)) ∧ (¬ ((hi1 96 j10) = 0) → (∃ j12 : Nat, a0 = nI j12 ∧ j12 < 6 ∧ Q (some (.int (hi1 97 j12))) (rx_hp L t hi1 hl1 v1)))))) ∧ (¬ (a1 = (5 : Int32)) → Q (some (.int (-2 : Int32))) (rx_hp L t hi1 hl1 v1)))))))))))))))))) : rx_me 221 [.ref 90, .int a0, .int a1] (rx_hp L t hi hl v) Q := by
  show rx_aw 221 0 [.ref 90, .int a0, .int a1] [] (rx_hp L t hi hl v) Q
  refine rx_aw_s 2 (pc := 0) rfl ?_
  show rx_aw 221 2 [.ref 90, .int a0, .int a1] [.int a0, .ref 90] (rx_hp L t hi hl v) Q
  refine rx_w_callI (j := 161) (pc := 2) rfl rfl rfl rfl rfl ?_
  refine rx_aw.mono k (fun r h2 k => ?_)
  obtain ⟨z1, rfl, hi1, hl1, v1, rfl, k⟩ := k
  refine ⟨z1, rfl, ?_⟩
  show rx_aw 221 5 [.ref 90, .int a0, .int a1] [.int z1] (rx_hp L t hi1 hl1 v1) Q
  refine rx_aw_s 1 (pc := 5) rfl ?_
  refine rx_w_ifn (c := z1 = 0) ⟨fun c2 => ?_, fun c2 => ?_⟩
  · have k := k.1 c2
    show rx_aw 221 8 [.ref 90, .int a0, .int a1] [] (rx_hp L t hi1 hl1 v1) Q
    refine rx_aw_s 1 (pc := 8) rfl ?_
    show rx_aw 221 10 [.ref 90, .int a0, .int a1] [.int (-2 : Int32)] (rx_hp L t hi1 hl1 v1) Q
    exact rx_aw_ret (pc := 10) rfl k
  · have k := k.2 c2
    show rx_aw 221 11 [.ref 90, .int a0, .int a1] [] (rx_hp L t hi1 hl1 v1) Q
    refine rx_aw_s 1 (pc := 11) rfl ?_
    show rx_aw 221 12 [.ref 90, .int a0, .int a1] [.int a1] (rx_hp L t hi1 hl1 v1) Q
    by_cases s3_0 : a1 = (0 : Int32)
    · have k := k.1 s3_0
      refine rx_aw_tsw (pc := 12) (p2 := 52) rfl (by rw [s3_0]; rfl) ?_
      show rx_aw 221 52 [.ref 90, .int a0, .int a1] [] (rx_hp L t hi1 hl1 v1) Q
      refine rx_aw_s 3 (pc := 52) rfl ?_
      show rx_aw 221 57 [.ref 90, .int a0, .int a1] [.int a0, .ref 93] (rx_hp L t hi1 hl1 v1) Q
      obtain ⟨j4, ej4, hj4, k⟩ := k
      refine rx_aw_iald (pc := 57) (n := 6) j4 ej4 rfl rfl rfl hj4 (by decide) ?_
      show rx_aw 221 58 [.ref 90, .int a0, .int a1] [.int (hi1 93 j4)] (rx_hp L t hi1 hl1 v1) Q
      exact rx_aw_ret (pc := 58) rfl k
    · have k := k.2 s3_0
      by_cases s3_1 : a1 = (1 : Int32)
      · have k := k.1 s3_1
        refine rx_aw_tsw (pc := 12) (p2 := 59) rfl (by rw [s3_1]; rfl) ?_
        show rx_aw 221 59 [.ref 90, .int a0, .int a1] [] (rx_hp L t hi1 hl1 v1) Q
        refine rx_aw_s 3 (pc := 59) rfl ?_
        show rx_aw 221 64 [.ref 90, .int a0, .int a1] [.int a0, .ref 94] (rx_hp L t hi1 hl1 v1) Q
        obtain ⟨j5, ej5, hj5, k⟩ := k
        refine rx_aw_iald (pc := 64) (n := 6) j5 ej5 rfl rfl rfl hj5 (by decide) ?_
        show rx_aw 221 65 [.ref 90, .int a0, .int a1] [.int (hi1 94 j5)] (rx_hp L t hi1 hl1 v1) Q
        exact rx_aw_ret (pc := 65) rfl k
      · have k := k.2 s3_1
        by_cases s3_2 : a1 = (2 : Int32)
        · have k := k.1 s3_2
          refine rx_aw_tsw (pc := 12) (p2 := 66) rfl (by rw [s3_2]; rfl) ?_
          show rx_aw 221 66 [.ref 90, .int a0, .int a1] [] (rx_hp L t hi1 hl1 v1) Q
          refine rx_aw_s 2 (pc := 66) rfl ?_
          show rx_aw 221 68 [.ref 90, .int a0, .int a1] [.int a0, .ref 90] (rx_hp L t hi1 hl1 v1) Q
          refine rx_w_callI (j := 222) (pc := 68) rfl rfl rfl rfl rfl ?_
          refine rx_aw.mono k (fun r h2 k => ?_)
          obtain ⟨z6, rfl, hi6, hl6, v6, rfl, k⟩ := k
          refine ⟨z6, rfl, ?_⟩
          show rx_aw 221 71 [.ref 90, .int a0, .int a1] [.int z6] (rx_hp L t hi6 hl6 v6) Q
          exact rx_aw_ret (pc := 71) rfl k
        · have k := k.2 s3_2
          by_cases s3_3 : a1 = (3 : Int32)
          · have k := k.1 s3_3
            refine rx_aw_tsw (pc := 12) (p2 := 72) rfl (by rw [s3_3]; rfl) ?_
            show rx_aw 221 72 [.ref 90, .int a0, .int a1] [] (rx_hp L t hi1 hl1 v1) Q
            refine rx_aw_s 2 (pc := 72) rfl ?_
            show rx_aw 221 74 [.ref 90, .int a0, .int a1] [.int a0, .ref 90] (rx_hp L t hi1 hl1 v1) Q
            refine rx_w_callI (j := 162) (pc := 74) rfl rfl rfl rfl rfl ?_
            refine rx_aw.mono k (fun r h2 k => ?_)
            obtain ⟨z7, rfl, hi7, hl7, v7, rfl, k⟩ := k
            refine ⟨z7, rfl, ?_⟩
            show rx_aw 221 77 [.ref 90, .int a0, .int a1] [.int z7] (rx_hp L t hi7 hl7 v7) Q
            refine rx_aw_s 1 (pc := 77) rfl ?_
            refine rx_w_if (c := z7 = 0) ⟨fun c8 => ?_, fun c8 => ?_⟩
            · have k := k.1 c8
              show rx_aw 221 84 [.ref 90, .int a0, .int a1] [] (rx_hp L t hi7 hl7 v7) Q
              refine rx_aw_s 1 (pc := 84) rfl ?_
              show rx_aw 221 85 [.ref 90, .int a0, .int a1] [.int (0 : Int32)] (rx_hp L t hi7 hl7 v7) Q
              exact rx_aw_ret (pc := 85) rfl k
            · have k := k.2 c8
              show rx_aw 221 80 [.ref 90, .int a0, .int a1] [] (rx_hp L t hi7 hl7 v7) Q
              refine rx_aw_s 2 (pc := 80) rfl ?_
              show rx_aw 221 85 [.ref 90, .int a0, .int a1] [.int (1 : Int32)] (rx_hp L t hi7 hl7 v7) Q
              exact rx_aw_ret (pc := 85) rfl k
          · have k := k.2 s3_3
            by_cases s3_4 : a1 = (4 : Int32)
            · have k := k.1 s3_4
              refine rx_aw_tsw (pc := 12) (p2 := 86) rfl (by rw [s3_4]; rfl) ?_
              show rx_aw 221 86 [.ref 90, .int a0, .int a1] [] (rx_hp L t hi1 hl1 v1) Q
              refine rx_aw_s 3 (pc := 86) rfl ?_
              show rx_aw 221 91 [.ref 90, .int a0, .int a1] [.int a0, .ref 100] (rx_hp L t hi1 hl1 v1) Q
              obtain ⟨j9, ej9, hj9, k⟩ := k
              refine rx_aw_iald (pc := 91) (n := 6) j9 ej9 rfl rfl rfl hj9 (by decide) ?_
              show rx_aw 221 92 [.ref 90, .int a0, .int a1] [.int (hi1 100 j9)] (rx_hp L t hi1 hl1 v1) Q
              exact rx_aw_ret (pc := 92) rfl k
            · have k := k.2 s3_4
              by_cases s3_5 : a1 = (5 : Int32)
              · have k := k.1 s3_5
                refine rx_aw_tsw (pc := 12) (p2 := 93) rfl (by rw [s3_5]; rfl) ?_
                show rx_aw 221 93 [.ref 90, .int a0, .int a1] [] (rx_hp L t hi1 hl1 v1) Q
                refine rx_aw_s 3 (pc := 93) rfl ?_
                show rx_aw 221 98 [.ref 90, .int a0, .int a1] [.int a0, .ref 96] (rx_hp L t hi1 hl1 v1) Q
                obtain ⟨j10, ej10, hj10, k⟩ := k
                refine rx_aw_bald (pc := 98) (n := 6) j10 ej10 rfl (Or.inr rfl) (by decide) rfl hj10 (by decide) ?_
                show rx_aw 221 99 [.ref 90, .int a0, .int a1] [.int (hi1 96 j10)] (rx_hp L t hi1 hl1 v1) Q
                refine rx_aw_s 1 (pc := 99) rfl ?_
                refine rx_w_if (c := (hi1 96 j10) = 0) ⟨fun c11 => ?_, fun c11 => ?_⟩
                · have k := k.1 c11
                  show rx_aw 221 111 [.ref 90, .int a0, .int a1] [] (rx_hp L t hi1 hl1 v1) Q
                  refine rx_aw_s 1 (pc := 111) rfl ?_
                  show rx_aw 221 112 [.ref 90, .int a0, .int a1] [.int (-1 : Int32)] (rx_hp L t hi1 hl1 v1) Q
                  exact rx_aw_ret (pc := 112) rfl k
                · have k := k.2 c11
                  show rx_aw 221 102 [.ref 90, .int a0, .int a1] [] (rx_hp L t hi1 hl1 v1) Q
                  refine rx_aw_s 3 (pc := 102) rfl ?_
                  show rx_aw 221 107 [.ref 90, .int a0, .int a1] [.int a0, .ref 97] (rx_hp L t hi1 hl1 v1) Q
                  obtain ⟨j12, ej12, hj12, k⟩ := k
                  refine rx_aw_iald (pc := 107) (n := 6) j12 ej12 rfl rfl rfl hj12 (by decide) ?_
                  show rx_aw 221 108 [.ref 90, .int a0, .int a1] [.int (hi1 97 j12)] (rx_hp L t hi1 hl1 v1) Q
                  refine rx_aw_s 1 (pc := 108) rfl ?_
                  show rx_aw 221 112 [.ref 90, .int a0, .int a1] [.int (hi1 97 j12)] (rx_hp L t hi1 hl1 v1) Q
                  exact rx_aw_ret (pc := 112) rfl k
              · have k := k.2 s3_5
                have hds3 : ∀ i : Nat, i < 6 → ¬ a1.toInt = 0 + i := by
                  intro i hi e
                  have := rx_ne_toInt (c := (0 : Int32)) (z := 0) (by decide) s3_0
                  have := rx_ne_toInt (c := (1 : Int32)) (z := 1) (by decide) s3_1
                  have := rx_ne_toInt (c := (2 : Int32)) (z := 2) (by decide) s3_2
                  have := rx_ne_toInt (c := (3 : Int32)) (z := 3) (by decide) s3_3
                  have := rx_ne_toInt (c := (4 : Int32)) (z := 4) (by decide) s3_4
                  have := rx_ne_toInt (c := (5 : Int32)) (z := 5) (by decide) s3_5
                  omega
                refine rx_aw_tsw (pc := 12) (p2 := 113) rfl (rx_tsw_d hds3 (by decide)) ?_
                show rx_aw 221 113 [.ref 90, .int a0, .int a1] [] (rx_hp L t hi1 hl1 v1) Q
                refine rx_aw_s 1 (pc := 113) rfl ?_
                show rx_aw 221 115 [.ref 90, .int a0, .int a1] [.int (-2 : Int32)] (rx_hp L t hi1 hl1 v1) Q
                exact rx_aw_ret (pc := 115) rfl k
set_option maxRecDepth 100000 in
/-- CartFloorModel.count(I)I -/
theorem w223_count_r {L : Nat} {t : List (Nat × Nat)} {hi : Nat → Nat → Int32} {hl : Nat → Nat → Int64} {v : Nat → Nat → Option Nat} {Q : Option Value → rx_H → Prop} {a0 : Int32} (k : ((a0 < 0 → rx_aw 223 10 [.ref 90, .int a0, rx_no, rx_no] [] (rx_hp L t hi hl v) Q) ∧ (¬ (a0 < 0) → ((a0 ≤ (8 : Int32) → ((a0 ≤ (1 : Int32) → rx_aw 223 24 [.ref 90, .int a0, rx_no, rx_no] [] (rx_hp L t hi hl v) Q) ∧ (¬ (a0 ≤ (1 : Int32)) → ((a0 = (8 : Int32) → rx_aw 223 24 [.ref 90, .int a0, rx_no, rx_no] [] (rx_hp L t hi hl v) Q) ∧ (¬ (a0 = (8 : Int32)) → rx_aw 223 56 [.ref 90, .int a0, .int (0 : Int32), .int (0 : Int32)] [] (rx_hp L t hi hl v) Q))))) ∧ (¬ (a0 ≤ (8 : Int32)) → rx_aw 223 10 [.ref 90, .int a0, rx_no, rx_no] [] (rx_hp L t hi hl v) Q))))) : rx_me 223 [.ref 90, .int a0] (rx_hp L t hi hl v) Q := by
  show rx_aw 223 0 [.ref 90, .int a0, rx_no, rx_no] [] (rx_hp L t hi hl v) Q
  refine rx_aw_s 2 (pc := 0) rfl ?_
  refine rx_w_if (c := a0 < 0) ⟨fun c1 => ?_, fun c1 => ?_⟩
  · have k := k.1 c1
    show rx_aw 223 10 [.ref 90, .int a0, rx_no, rx_no] [] (rx_hp L t hi hl v) Q
    exact k
  · have k := k.2 c1
    show rx_aw 223 4 [.ref 90, .int a0, rx_no, rx_no] [] (rx_hp L t hi hl v) Q
    refine rx_aw_s 3 (pc := 4) rfl ?_
    refine rx_w_if (c := a0 ≤ (8 : Int32)) ⟨fun c2 => ?_, fun c2 => ?_⟩
    · have k := k.1 c2
      show rx_aw 223 13 [.ref 90, .int a0, rx_no, rx_no] [] (rx_hp L t hi hl v) Q
      refine rx_aw_s 3 (pc := 13) rfl ?_
      refine rx_w_if (c := a0 ≤ (1 : Int32)) ⟨fun c3 => ?_, fun c3 => ?_⟩
      · have k := k.1 c3
        show rx_aw 223 24 [.ref 90, .int a0, rx_no, rx_no] [] (rx_hp L t hi hl v) Q
        exact k
      · have k := k.2 c3
        show rx_aw 223 18 [.ref 90, .int a0, rx_no, rx_no] [] (rx_hp L t hi hl v) Q
        refine rx_aw_s 3 (pc := 18) rfl ?_
        refine rx_w_ifn (c := a0 = (8 : Int32)) ⟨fun c4 => ?_, fun c4 => ?_⟩
        · have k := k.1 c4
          show rx_aw 223 24 [.ref 90, .int a0, rx_no, rx_no] [] (rx_hp L t hi hl v) Q
          exact k
        · have k := k.2 c4
          show rx_aw 223 52 [.ref 90, .int a0, rx_no, rx_no] [] (rx_hp L t hi hl v) Q
          refine rx_aw_s 4 (pc := 52) rfl ?_
          show rx_aw 223 56 [.ref 90, .int a0, .int (0 : Int32), .int (0 : Int32)] [] (rx_hp L t hi hl v) Q
          exact k
    · have k := k.2 c2
      show rx_aw 223 10 [.ref 90, .int a0, rx_no, rx_no] [] (rx_hp L t hi hl v) Q
      exact k
set_option maxRecDepth 100000 in
theorem w223_count_r_10 {L : Nat} {t : List (Nat × Nat)} {hi : Nat → Nat → Int32} {hl : Nat → Nat → Int64} {v : Nat → Nat → Option Nat} {Q : Option Value → rx_H → Prop} {x1 : Int32} (k : Q (some (.int (-2 : Int32))) (rx_hp L t hi hl v)) : rx_aw 223 10 [.ref 90, .int x1, rx_no, rx_no] [] (rx_hp L t hi hl v) Q := by
  refine rx_aw_s 1 (pc := 10) rfl ?_
  show rx_aw 223 12 [.ref 90, .int x1, rx_no, rx_no] [.int (-2 : Int32)] (rx_hp L t hi hl v) Q
  exact rx_aw_ret (pc := 12) rfl k
set_option maxRecDepth 100000 in
theorem w223_count_r_24 {L : Nat} {t : List (Nat × Nat)} {hi : Nat → Nat → Int32} {hl : Nat → Nat → Int64} {v : Nat → Nat → Option Nat} {Q : Option Value → rx_H → Prop} {x1 : Int32} (k : ((x1 = 0 → rx_aw 223 51 [.ref 90, .int x1, rx_no, rx_no] [.int (hi 90 6)] (rx_hp L t hi hl v) Q) ∧ (¬ (x1 = 0) → ((x1 = (1 : Int32) → rx_aw 223 51 [.ref 90, .int x1, rx_no, rx_no] [.int (hi 90 21)] (rx_hp L t hi hl v) Q) ∧ (¬ (x1 = (1 : Int32)) → rx_aw 223 51 [.ref 90, .int x1, rx_no, rx_no] [.int (hi 90 5)] (rx_hp L t hi hl v) Q))))) : rx_aw 223 24 [.ref 90, .int x1, rx_no, rx_no] [] (rx_hp L t hi hl v) Q := by
  refine rx_aw_s 2 (pc := 24) rfl ?_
  refine rx_w_ifn (c := x1 = 0) ⟨fun c5 => ?_, fun c5 => ?_⟩
  · have k := k.1 c5
    show rx_aw 223 28 [.ref 90, .int x1, rx_no, rx_no] [] (rx_hp L t hi hl v) Q
    refine rx_aw_s 3 (pc := 28) rfl ?_
    show rx_aw 223 51 [.ref 90, .int x1, rx_no, rx_no] [.int (hi 90 6)] (rx_hp L t hi hl v) Q
    exact k
  · have k := k.2 c5
    show rx_aw 223 35 [.ref 90, .int x1, rx_no, rx_no] [] (rx_hp L t hi hl v) Q
    refine rx_aw_s 3 (pc := 35) rfl ?_
    refine rx_w_ifn (c := x1 = (1 : Int32)) ⟨fun c6 => ?_, fun c6 => ?_⟩
    · have k := k.1 c6
      show rx_aw 223 40 [.ref 90, .int x1, rx_no, rx_no] [] (rx_hp L t hi hl v) Q
      refine rx_aw_s 3 (pc := 40) rfl ?_
      show rx_aw 223 51 [.ref 90, .int x1, rx_no, rx_no] [.int (hi 90 21)] (rx_hp L t hi hl v) Q
      exact k
    · have k := k.2 c6
      show rx_aw 223 47 [.ref 90, .int x1, rx_no, rx_no] [] (rx_hp L t hi hl v) Q
      refine rx_aw_s 2 (pc := 47) rfl ?_
      show rx_aw 223 51 [.ref 90, .int x1, rx_no, rx_no] [.int (hi 90 5)] (rx_hp L t hi hl v) Q
      exact k
set_option maxRecDepth 100000 in
theorem w223_count_r_56 {L : Nat} {t : List (Nat × Nat)} {hi : Nat → Nat → Int32} {hl : Nat → Nat → Int64} {v : Nat → Nat → Option Nat} {Q : Option Value → rx_H → Prop} {x1 : Int32} {x2 : Int32} {x3 : Int32} (k : (((hi 90 6) ≤ x3 → Q (some (.int x2)) (rx_hp L t hi hl v)) ∧ (¬ ((hi 90 6) ≤ x3) → ((x1 = (2 : Int32) → (∃ j9 : Nat, x3 = nI j9 ∧ j9 < 6 ∧ (((hi 96 j9) = 0 → rx_aw 223 79 [.ref 90, .int x1, .int x2, .int x3] [.int x2] (rx_hp L t hi hl v) Q) ∧ (¬ ((hi 96 j9) = 0) → rx_aw 223 122 [.ref 90, .int x1, .int x2, .int x3] [.int x2] (rx_hp L t hi hl v) Q)))) ∧ (¬ (x1 = (2 : Int32)) → rx_aw 223 79 [.ref 90, .int x1, .int x2, .int x3] [.int x2] (rx_hp L t hi hl v) Q))))) : rx_aw 223 56 [.ref 90, .int x1, .int x2, .int x3] [] (rx_hp L t hi hl v) Q := by
  refine rx_aw_s 4 (pc := 56) rfl ?_
  refine rx_w_if (c := (hi 90 6) ≤ x3) ⟨fun c7 => ?_, fun c7 => ?_⟩
  · have k := k.1 c7
    show rx_aw 223 181 [.ref 90, .int x1, .int x2, .int x3] [] (rx_hp L t hi hl v) Q
    refine rx_aw_s 1 (pc := 181) rfl ?_
    show rx_aw 223 182 [.ref 90, .int x1, .int x2, .int x3] [.int x2] (rx_hp L t hi hl v) Q
    exact rx_aw_ret (pc := 182) rfl k
  · have k := k.2 c7
    show rx_aw 223 64 [.ref 90, .int x1, .int x2, .int x3] [] (rx_hp L t hi hl v) Q
    refine rx_aw_s 4 (pc := 64) rfl ?_
    refine rx_w_ifn (c := x1 = (2 : Int32)) ⟨fun c8 => ?_, fun c8 => ?_⟩
    · have k := k.1 c8
      show rx_aw 223 70 [.ref 90, .int x1, .int x2, .int x3] [.int x2] (rx_hp L t hi hl v) Q
      refine rx_aw_s 3 (pc := 70) rfl ?_
      show rx_aw 223 75 [.ref 90, .int x1, .int x2, .int x3] [.int x3, .ref 96, .int x2] (rx_hp L t hi hl v) Q
      obtain ⟨j9, ej9, hj9, k⟩ := k
      refine rx_aw_bald (pc := 75) (n := 6) j9 ej9 rfl (Or.inr rfl) (by decide) rfl hj9 (by decide) ?_
      show rx_aw 223 76 [.ref 90, .int x1, .int x2, .int x3] [.int (hi 96 j9), .int x2] (rx_hp L t hi hl v) Q
      refine rx_aw_s 1 (pc := 76) rfl ?_
      refine rx_w_ifn (c := (hi 96 j9) = 0) ⟨fun c10 => ?_, fun c10 => ?_⟩
      · have k := k.1 c10
        show rx_aw 223 79 [.ref 90, .int x1, .int x2, .int x3] [.int x2] (rx_hp L t hi hl v) Q
        exact k
      · have k := k.2 c10
        show rx_aw 223 122 [.ref 90, .int x1, .int x2, .int x3] [.int x2] (rx_hp L t hi hl v) Q
        exact k
    · have k := k.2 c8
      show rx_aw 223 79 [.ref 90, .int x1, .int x2, .int x3] [.int x2] (rx_hp L t hi hl v) Q
      exact k
set_option maxRecDepth 100000 in
theorem w223_count_r_51 {L : Nat} {t : List (Nat × Nat)} {hi : Nat → Nat → Int32} {hl : Nat → Nat → Int64} {v : Nat → Nat → Option Nat} {Q : Option Value → rx_H → Prop} {x1 : Int32} {y0 : Int32} (k : Q (some (.int y0)) (rx_hp L t hi hl v)) : rx_aw 223 51 [.ref 90, .int x1, rx_no, rx_no] [.int y0] (rx_hp L t hi hl v) Q := by
  exact rx_aw_ret (pc := 51) rfl k
set_option maxRecDepth 100000 in
theorem w223_count_r_79 {L : Nat} {t : List (Nat × Nat)} {hi : Nat → Nat → Int32} {hl : Nat → Nat → Int64} {v : Nat → Nat → Option Nat} {Q : Option Value → rx_H → Prop} {x1 : Int32} {x2 : Int32} {x3 : Int32} {y0 : Int32} (k : ((x1 = (3 : Int32) → rx_me 162 [.ref 90, .int x3] (rx_hp L t hi hl v) (fun r h2 => ∃ z12 : Int32, r = some (.int z12) ∧ rx_ok2 L t h2 (fun hi12 hl12 v12 => ((z12 = 0 → rx_aw 223 92 [.ref 90, .int x1, .int x2, .int x3] [.int y0] (rx_hp L t hi12 hl12 v12) Q) ∧ (¬ (z12 = 0) → rx_aw 223 122 [.ref 90, .int x1, .int x2, .int x3] [.int y0] (rx_hp L t hi12 hl12 v12) Q))))) ∧ (¬ (x1 = (3 : Int32)) → rx_aw 223 92 [.ref 90, .int x1, .int x2, .int x3] [.int y0] (rx_hp L t hi hl v) Q))) : rx_aw 223 79 [.ref 90, .int x1, .int x2, .int x3] [.int y0] (rx_hp L t hi hl v) Q := by
  refine rx_aw_s 3 (pc := 79) rfl ?_
  refine rx_w_ifn (c := x1 = (3 : Int32)) ⟨fun c11 => ?_, fun c11 => ?_⟩
  · have k := k.1 c11
    show rx_aw 223 84 [.ref 90, .int x1, .int x2, .int x3] [.int y0] (rx_hp L t hi hl v) Q
    refine rx_aw_s 2 (pc := 84) rfl ?_
    show rx_aw 223 86 [.ref 90, .int x1, .int x2, .int x3] [.int x3, .ref 90, .int y0] (rx_hp L t hi hl v) Q
    refine rx_w_callI (j := 162) (pc := 86) rfl rfl rfl rfl rfl ?_
    refine rx_aw.mono k (fun r h2 k => ?_)
    obtain ⟨z12, rfl, hi12, hl12, v12, rfl, k⟩ := k
    refine ⟨z12, rfl, ?_⟩
    show rx_aw 223 89 [.ref 90, .int x1, .int x2, .int x3] [.int z12, .int y0] (rx_hp L t hi12 hl12 v12) Q
    refine rx_aw_s 1 (pc := 89) rfl ?_
    refine rx_w_ifn (c := z12 = 0) ⟨fun c13 => ?_, fun c13 => ?_⟩
    · have k := k.1 c13
      show rx_aw 223 92 [.ref 90, .int x1, .int x2, .int x3] [.int y0] (rx_hp L t hi12 hl12 v12) Q
      exact k
    · have k := k.2 c13
      show rx_aw 223 122 [.ref 90, .int x1, .int x2, .int x3] [.int y0] (rx_hp L t hi12 hl12 v12) Q
      exact k
  · have k := k.2 c11
    show rx_aw 223 92 [.ref 90, .int x1, .int x2, .int x3] [.int y0] (rx_hp L t hi hl v) Q
    exact k
set_option maxRecDepth 100000 in
theorem w223_count_r_122 {L : Nat} {t : List (Nat × Nat)} {hi : Nat → Nat → Int32} {hl : Nat → Nat → Int64} {v : Nat → Nat → Option Nat} {Q : Option Value → rx_H → Prop} {x1 : Int32} {x2 : Int32} {x3 : Int32} {y0 : Int32} (k : rx_aw 223 127 [.ref 90, .int x1, .int x2, .int x3] [.int (1 : Int32), .int y0] (rx_hp L t hi hl v) Q) : rx_aw 223 122 [.ref 90, .int x1, .int x2, .int x3] [.int y0] (rx_hp L t hi hl v) Q := by
  refine rx_aw_s 2 (pc := 122) rfl ?_
  show rx_aw 223 127 [.ref 90, .int x1, .int x2, .int x3] [.int (1 : Int32), .int y0] (rx_hp L t hi hl v) Q
  exact k
set_option maxRecDepth 100000 in
theorem w223_count_r_92 {L : Nat} {t : List (Nat × Nat)} {hi : Nat → Nat → Int32} {hl : Nat → Nat → Int64} {v : Nat → Nat → Option Nat} {Q : Option Value → rx_H → Prop} {x1 : Int32} {x2 : Int32} {x3 : Int32} {y0 : Int32} (k : ((x1 = (4 : Int32) → (∃ j15 : Nat, x3 = nI j15 ∧ j15 < 6 ∧ (((hi 100 j15) = (1 : Int32) → rx_aw 223 122 [.ref 90, .int x1, .int x2, .int x3] [.int y0] (rx_hp L t hi hl v) Q) ∧ (¬ ((hi 100 j15) = (1 : Int32)) → rx_aw 223 107 [.ref 90, .int x1, .int x2, .int x3] [.int y0] (rx_hp L t hi hl v) Q)))) ∧ (¬ (x1 = (4 : Int32)) → rx_aw 223 107 [.ref 90, .int x1, .int x2, .int x3] [.int y0] (rx_hp L t hi hl v) Q))) : rx_aw 223 92 [.ref 90, .int x1, .int x2, .int x3] [.int y0] (rx_hp L t hi hl v) Q := by
  refine rx_aw_s 3 (pc := 92) rfl ?_
  refine rx_w_ifn (c := x1 = (4 : Int32)) ⟨fun c14 => ?_, fun c14 => ?_⟩
  · have k := k.1 c14
    show rx_aw 223 97 [.ref 90, .int x1, .int x2, .int x3] [.int y0] (rx_hp L t hi hl v) Q
    refine rx_aw_s 3 (pc := 97) rfl ?_
    show rx_aw 223 102 [.ref 90, .int x1, .int x2, .int x3] [.int x3, .ref 100, .int y0] (rx_hp L t hi hl v) Q
    obtain ⟨j15, ej15, hj15, k⟩ := k
    refine rx_aw_iald (pc := 102) (n := 6) j15 ej15 rfl rfl rfl hj15 (by decide) ?_
    show rx_aw 223 103 [.ref 90, .int x1, .int x2, .int x3] [.int (hi 100 j15), .int y0] (rx_hp L t hi hl v) Q
    refine rx_aw_s 2 (pc := 103) rfl ?_
    refine rx_w_if (c := (hi 100 j15) = (1 : Int32)) ⟨fun c16 => ?_, fun c16 => ?_⟩
    · have k := k.1 c16
      show rx_aw 223 122 [.ref 90, .int x1, .int x2, .int x3] [.int y0] (rx_hp L t hi hl v) Q
      exact k
    · have k := k.2 c16
      show rx_aw 223 107 [.ref 90, .int x1, .int x2, .int x3] [.int y0] (rx_hp L t hi hl v) Q
      exact k
  · have k := k.2 c14
    show rx_aw 223 107 [.ref 90, .int x1, .int x2, .int x3] [.int y0] (rx_hp L t hi hl v) Q
    exact k
set_option maxRecDepth 100000 in
theorem w223_count_r_127 {L : Nat} {t : List (Nat × Nat)} {hi : Nat → Nat → Int32} {hl : Nat → Nat → Int64} {v : Nat → Nat → Option Nat} {Q : Option Value → rx_H → Prop} {x1 : Int32} {x2 : Int32} {x3 : Int32} {y0 : Int32} {y1 : Int32} (k : ((x1 = (6 : Int32) → (∃ j18 : Nat, x3 = nI j18 ∧ j18 < 6 ∧ rx_aw 223 146 [.ref 90, .int x1, .int (y1 + y0), .int x3] [.int (hi 94 j18), .int (y1 + y0)] (rx_hp L t hi hl v) Q)) ∧ (¬ (x1 = (6 : Int32)) → rx_aw 223 146 [.ref 90, .int x1, .int (y1 + y0), .int x3] [.int (0 : Int32), .int (y1 + y0)] (rx_hp L t hi hl v) Q))) : rx_aw 223 127 [.ref 90, .int x1, .int x2, .int x3] [.int y0, .int y1] (rx_hp L t hi hl v) Q := by
  refine rx_aw_s 6 (pc := 127) rfl ?_
  refine rx_w_ifn (c := x1 = (6 : Int32)) ⟨fun c17 => ?_, fun c17 => ?_⟩
  · have k := k.1 c17
    show rx_aw 223 136 [.ref 90, .int x1, .int (y1 + y0), .int x3] [.int (y1 + y0)] (rx_hp L t hi hl v) Q
    refine rx_aw_s 3 (pc := 136) rfl ?_
    show rx_aw 223 141 [.ref 90, .int x1, .int (y1 + y0), .int x3] [.int x3, .ref 94, .int (y1 + y0)] (rx_hp L t hi hl v) Q
    obtain ⟨j18, ej18, hj18, k⟩ := k
    refine rx_aw_iald (pc := 141) (n := 6) j18 ej18 rfl rfl rfl hj18 (by decide) ?_
    show rx_aw 223 142 [.ref 90, .int x1, .int (y1 + y0), .int x3] [.int (hi 94 j18), .int (y1 + y0)] (rx_hp L t hi hl v) Q
    refine rx_aw_s 1 (pc := 142) rfl ?_
    show rx_aw 223 146 [.ref 90, .int x1, .int (y1 + y0), .int x3] [.int (hi 94 j18), .int (y1 + y0)] (rx_hp L t hi hl v) Q
    exact k
  · have k := k.2 c17
    show rx_aw 223 145 [.ref 90, .int x1, .int (y1 + y0), .int x3] [.int (y1 + y0)] (rx_hp L t hi hl v) Q
    refine rx_aw_s 1 (pc := 145) rfl ?_
    show rx_aw 223 146 [.ref 90, .int x1, .int (y1 + y0), .int x3] [.int (0 : Int32), .int (y1 + y0)] (rx_hp L t hi hl v) Q
    exact k
set_option maxRecDepth 100000 in
theorem w223_count_r_107 {L : Nat} {t : List (Nat × Nat)} {hi : Nat → Nat → Int32} {hl : Nat → Nat → Int64} {v : Nat → Nat → Option Nat} {Q : Option Value → rx_H → Prop} {x1 : Int32} {x2 : Int32} {x3 : Int32} {y0 : Int32} (k : ((x1 = (5 : Int32) → (∃ j20 : Nat, x3 = nI j20 ∧ j20 < 6 ∧ (((hi 100 j20) = (2 : Int32) → rx_aw 223 122 [.ref 90, .int x1, .int x2, .int x3] [.int y0] (rx_hp L t hi hl v) Q) ∧ (¬ ((hi 100 j20) = (2 : Int32)) → rx_aw 223 126 [.ref 90, .int x1, .int x2, .int x3] [.int y0] (rx_hp L t hi hl v) Q)))) ∧ (¬ (x1 = (5 : Int32)) → rx_aw 223 126 [.ref 90, .int x1, .int x2, .int x3] [.int y0] (rx_hp L t hi hl v) Q))) : rx_aw 223 107 [.ref 90, .int x1, .int x2, .int x3] [.int y0] (rx_hp L t hi hl v) Q := by
  refine rx_aw_s 3 (pc := 107) rfl ?_
  refine rx_w_ifn (c := x1 = (5 : Int32)) ⟨fun c19 => ?_, fun c19 => ?_⟩
  · have k := k.1 c19
    show rx_aw 223 112 [.ref 90, .int x1, .int x2, .int x3] [.int y0] (rx_hp L t hi hl v) Q
    refine rx_aw_s 3 (pc := 112) rfl ?_
    show rx_aw 223 117 [.ref 90, .int x1, .int x2, .int x3] [.int x3, .ref 100, .int y0] (rx_hp L t hi hl v) Q
    obtain ⟨j20, ej20, hj20, k⟩ := k
    refine rx_aw_iald (pc := 117) (n := 6) j20 ej20 rfl rfl rfl hj20 (by decide) ?_
    show rx_aw 223 118 [.ref 90, .int x1, .int x2, .int x3] [.int (hi 100 j20), .int y0] (rx_hp L t hi hl v) Q
    refine rx_aw_s 2 (pc := 118) rfl ?_
    refine rx_w_ifn (c := (hi 100 j20) = (2 : Int32)) ⟨fun c21 => ?_, fun c21 => ?_⟩
    · have k := k.1 c21
      show rx_aw 223 122 [.ref 90, .int x1, .int x2, .int x3] [.int y0] (rx_hp L t hi hl v) Q
      exact k
    · have k := k.2 c21
      show rx_aw 223 126 [.ref 90, .int x1, .int x2, .int x3] [.int y0] (rx_hp L t hi hl v) Q
      exact k
  · have k := k.2 c19
    show rx_aw 223 126 [.ref 90, .int x1, .int x2, .int x3] [.int y0] (rx_hp L t hi hl v) Q
    exact k
set_option maxRecDepth 100000 in
theorem w223_count_r_146 {L : Nat} {t : List (Nat × Nat)} {hi : Nat → Nat → Int32} {hl : Nat → Nat → Int64} {v : Nat → Nat → Option Nat} {Q : Option Value → rx_H → Prop} {x1 : Int32} {x2 : Int32} {x3 : Int32} {y0 : Int32} {y1 : Int32} (k : ((x1 = (7 : Int32) → (∃ j23 : Nat, x3 = nI j23 ∧ j23 < 6 ∧ (((hi 94 j23) ≤ (y1 + y0) → rx_aw 223 173 [.ref 90, .int x1, .int (y1 + y0), .int x3] [] (rx_hp L t hi hl v) Q) ∧ (¬ ((hi 94 j23) ≤ (y1 + y0)) → (∃ j25 : Nat, x3 = nI j25 ∧ j25 < 6 ∧ rx_aw 223 174 [.ref 90, .int x1, .int (y1 + y0), .int x3] [.int (hi 94 j25)] (rx_hp L t hi hl v) Q))))) ∧ (¬ (x1 = (7 : Int32)) → rx_aw 223 173 [.ref 90, .int x1, .int (y1 + y0), .int x3] [] (rx_hp L t hi hl v) Q))) : rx_aw 223 146 [.ref 90, .int x1, .int x2, .int x3] [.int y0, .int y1] (rx_hp L t hi hl v) Q := by
  refine rx_aw_s 5 (pc := 146) rfl ?_
  refine rx_w_ifn (c := x1 = (7 : Int32)) ⟨fun c22 => ?_, fun c22 => ?_⟩
  · have k := k.1 c22
    show rx_aw 223 154 [.ref 90, .int x1, .int (y1 + y0), .int x3] [] (rx_hp L t hi hl v) Q
    refine rx_aw_s 3 (pc := 154) rfl ?_
    show rx_aw 223 159 [.ref 90, .int x1, .int (y1 + y0), .int x3] [.int x3, .ref 94] (rx_hp L t hi hl v) Q
    obtain ⟨j23, ej23, hj23, k⟩ := k
    refine rx_aw_iald (pc := 159) (n := 6) j23 ej23 rfl rfl rfl hj23 (by decide) ?_
    show rx_aw 223 160 [.ref 90, .int x1, .int (y1 + y0), .int x3] [.int (hi 94 j23)] (rx_hp L t hi hl v) Q
    refine rx_aw_s 2 (pc := 160) rfl ?_
    refine rx_w_if (c := (hi 94 j23) ≤ (y1 + y0)) ⟨fun c24 => ?_, fun c24 => ?_⟩
    · have k := k.1 c24
      show rx_aw 223 173 [.ref 90, .int x1, .int (y1 + y0), .int x3] [] (rx_hp L t hi hl v) Q
      exact k
    · have k := k.2 c24
      show rx_aw 223 164 [.ref 90, .int x1, .int (y1 + y0), .int x3] [] (rx_hp L t hi hl v) Q
      refine rx_aw_s 3 (pc := 164) rfl ?_
      show rx_aw 223 169 [.ref 90, .int x1, .int (y1 + y0), .int x3] [.int x3, .ref 94] (rx_hp L t hi hl v) Q
      obtain ⟨j25, ej25, hj25, k⟩ := k
      refine rx_aw_iald (pc := 169) (n := 6) j25 ej25 rfl rfl rfl hj25 (by decide) ?_
      show rx_aw 223 170 [.ref 90, .int x1, .int (y1 + y0), .int x3] [.int (hi 94 j25)] (rx_hp L t hi hl v) Q
      refine rx_aw_s 1 (pc := 170) rfl ?_
      show rx_aw 223 174 [.ref 90, .int x1, .int (y1 + y0), .int x3] [.int (hi 94 j25)] (rx_hp L t hi hl v) Q
      exact k
  · have k := k.2 c22
    show rx_aw 223 173 [.ref 90, .int x1, .int (y1 + y0), .int x3] [] (rx_hp L t hi hl v) Q
    exact k
set_option maxRecDepth 100000 in
theorem w223_count_r_126 {L : Nat} {t : List (Nat × Nat)} {hi : Nat → Nat → Int32} {hl : Nat → Nat → Int64} {v : Nat → Nat → Option Nat} {Q : Option Value → rx_H → Prop} {x1 : Int32} {x2 : Int32} {x3 : Int32} {y0 : Int32} (k : rx_aw 223 127 [.ref 90, .int x1, .int x2, .int x3] [.int (0 : Int32), .int y0] (rx_hp L t hi hl v) Q) : rx_aw 223 126 [.ref 90, .int x1, .int x2, .int x3] [.int y0] (rx_hp L t hi hl v) Q := by
  refine rx_aw_s 1 (pc := 126) rfl ?_
  show rx_aw 223 127 [.ref 90, .int x1, .int x2, .int x3] [.int (0 : Int32), .int y0] (rx_hp L t hi hl v) Q
  exact k
set_option maxRecDepth 100000 in
theorem w223_count_r_173 {L : Nat} {t : List (Nat × Nat)} {hi : Nat → Nat → Int32} {hl : Nat → Nat → Int64} {v : Nat → Nat → Option Nat} {Q : Option Value → rx_H → Prop} {x1 : Int32} {x2 : Int32} {x3 : Int32} (k : rx_aw 223 174 [.ref 90, .int x1, .int x2, .int x3] [.int x2] (rx_hp L t hi hl v) Q) : rx_aw 223 173 [.ref 90, .int x1, .int x2, .int x3] [] (rx_hp L t hi hl v) Q := by
  refine rx_aw_s 1 (pc := 173) rfl ?_
  show rx_aw 223 174 [.ref 90, .int x1, .int x2, .int x3] [.int x2] (rx_hp L t hi hl v) Q
  exact k
set_option maxRecDepth 100000 in
theorem w223_count_r_174 {L : Nat} {t : List (Nat × Nat)} {hi : Nat → Nat → Int32} {hl : Nat → Nat → Int64} {v : Nat → Nat → Option Nat} {Q : Option Value → rx_H → Prop} {x1 : Int32} {x2 : Int32} {x3 : Int32} {y0 : Int32} (k : rx_aw 223 56 [.ref 90, .int x1, .int y0, .int (x3 + (1 : Int32))] [] (rx_hp L t hi hl v) Q) : rx_aw 223 174 [.ref 90, .int x1, .int x2, .int x3] [.int y0] (rx_hp L t hi hl v) Q := by
  refine rx_aw_s 3 (pc := 174) rfl ?_
  show rx_aw 223 56 [.ref 90, .int x1, .int y0, .int (x3 + (1 : Int32))] [] (rx_hp L t hi hl v) Q
  exact k
set_option maxRecDepth 100000 in
/-- CartFloorModel.stateOf([II)I -/
theorem w231_stateOf_r_at132 {L : Nat} {t : List (Nat × Nat)} {hi : Nat → Nat → Int32} {hl : Nat → Nat → Int64} {v : Nat → Nat → Option Nat} {Q : Option Value → rx_H → Prop} {a1 : Int32} (k : rx_aw 231 5 [.ref 90, .ref 132, .int a1, .int (0 : Int32), .int (0 : Int32)] [] (rx_hp L t hi hl v) Q) : rx_me 231 [.ref 90, .ref 132, .int a1] (rx_hp L t hi hl v) Q := by
  show rx_aw 231 0 [.ref 90, .ref 132, .int a1, rx_no, rx_no] [] (rx_hp L t hi hl v) Q
  refine rx_aw_s 4 (pc := 0) rfl ?_
  show rx_aw 231 5 [.ref 90, .ref 132, .int a1, .int (0 : Int32), .int (0 : Int32)] [] (rx_hp L t hi hl v) Q
  exact k
set_option maxRecDepth 100000 in
theorem w231_stateOf_r_at132_5 {L : Nat} {t : List (Nat × Nat)} {hi : Nat → Nat → Int32} {hl : Nat → Nat → Int64} {v : Nat → Nat → Option Nat} {Q : Option Value → rx_H → Prop} {x2 : Int32} {x3 : Int32} {x4 : Int32} (k : (((3 : Int32) ≤ x4 → Q (some (.int (((8 : Int32) * x3) + x2))) (rx_hp L t hi hl v)) ∧ (¬ ((3 : Int32) ≤ x4) → (((hi 90 53) ≤ x4 → rx_aw 231 5 [.ref 90, .ref 132, .int x2, .int (((20 : Int32) * x3) + (0 : Int32)), .int (x4 + (1 : Int32))] [] (rx_hp L t hi hl v) Q) ∧ (¬ ((hi 90 53) ≤ x4) → (∃ j3 : Nat, x4 = nI j3 ∧ j3 < 3 ∧ rx_aw 231 5 [.ref 90, .ref 132, .int x2, .int (((20 : Int32) * x3) + (hi 132 j3)), .int (x4 + (1 : Int32))] [] (rx_hp L t hi hl v) Q)))))) : rx_aw 231 5 [.ref 90, .ref 132, .int x2, .int x3, .int x4] [] (rx_hp L t hi hl v) Q := by
  refine rx_aw_s 3 (pc := 5) rfl ?_
  refine rx_w_if (c := (3 : Int32) ≤ x4) ⟨fun c1 => ?_, fun c1 => ?_⟩
  · have k := k.1 c1
    show rx_aw 231 40 [.ref 90, .ref 132, .int x2, .int x3, .int x4] [] (rx_hp L t hi hl v) Q
    refine rx_aw_s 5 (pc := 40) rfl ?_
    show rx_aw 231 46 [.ref 90, .ref 132, .int x2, .int x3, .int x4] [.int (((8 : Int32) * x3) + x2)] (rx_hp L t hi hl v) Q
    exact rx_aw_ret (pc := 46) rfl k
  · have k := k.2 c1
    show rx_aw 231 11 [.ref 90, .ref 132, .int x2, .int x3, .int x4] [] (rx_hp L t hi hl v) Q
    refine rx_aw_s 7 (pc := 11) rfl ?_
    refine rx_w_if (c := (hi 90 53) ≤ x4) ⟨fun c2 => ?_, fun c2 => ?_⟩
    · have k := k.1 c2
      show rx_aw 231 31 [.ref 90, .ref 132, .int x2, .int x3, .int x4] [.int ((20 : Int32) * x3)] (rx_hp L t hi hl v) Q
      refine rx_aw_s 5 (pc := 31) rfl ?_
      show rx_aw 231 5 [.ref 90, .ref 132, .int x2, .int (((20 : Int32) * x3) + (0 : Int32)), .int (x4 + (1 : Int32))] [] (rx_hp L t hi hl v) Q
      exact k
    · have k := k.2 c2
      show rx_aw 231 24 [.ref 90, .ref 132, .int x2, .int x3, .int x4] [.int ((20 : Int32) * x3)] (rx_hp L t hi hl v) Q
      refine rx_aw_s 2 (pc := 24) rfl ?_
      show rx_aw 231 27 [.ref 90, .ref 132, .int x2, .int x3, .int x4] [.int x4, .ref 132, .int ((20 : Int32) * x3)] (rx_hp L t hi hl v) Q
      obtain ⟨j3, ej3, hj3, k⟩ := k
      refine rx_aw_iald (pc := 27) (n := 3) j3 ej3 rfl rfl rfl hj3 (by decide) ?_
      show rx_aw 231 28 [.ref 90, .ref 132, .int x2, .int x3, .int x4] [.int (hi 132 j3), .int ((20 : Int32) * x3)] (rx_hp L t hi hl v) Q
      refine rx_aw_s 5 (pc := 28) rfl ?_
      show rx_aw 231 5 [.ref 90, .ref 132, .int x2, .int (((20 : Int32) * x3) + (hi 132 j3)), .int (x4 + (1 : Int32))] [] (rx_hp L t hi hl v) Q
      exact k
set_option maxRecDepth 100000 in
/-- CartFloorModel.stateOf([II)I -/
theorem w231_stateOf_r_at133 {L : Nat} {t : List (Nat × Nat)} {hi : Nat → Nat → Int32} {hl : Nat → Nat → Int64} {v : Nat → Nat → Option Nat} {Q : Option Value → rx_H → Prop} {a1 : Int32} (k : rx_aw 231 5 [.ref 90, .ref 133, .int a1, .int (0 : Int32), .int (0 : Int32)] [] (rx_hp L t hi hl v) Q) : rx_me 231 [.ref 90, .ref 133, .int a1] (rx_hp L t hi hl v) Q := by
  show rx_aw 231 0 [.ref 90, .ref 133, .int a1, rx_no, rx_no] [] (rx_hp L t hi hl v) Q
  refine rx_aw_s 4 (pc := 0) rfl ?_
  show rx_aw 231 5 [.ref 90, .ref 133, .int a1, .int (0 : Int32), .int (0 : Int32)] [] (rx_hp L t hi hl v) Q
  exact k
set_option maxRecDepth 100000 in
theorem w231_stateOf_r_at133_5 {L : Nat} {t : List (Nat × Nat)} {hi : Nat → Nat → Int32} {hl : Nat → Nat → Int64} {v : Nat → Nat → Option Nat} {Q : Option Value → rx_H → Prop} {x2 : Int32} {x3 : Int32} {x4 : Int32} (k : (((3 : Int32) ≤ x4 → Q (some (.int (((8 : Int32) * x3) + x2))) (rx_hp L t hi hl v)) ∧ (¬ ((3 : Int32) ≤ x4) → (((hi 90 53) ≤ x4 → rx_aw 231 5 [.ref 90, .ref 133, .int x2, .int (((20 : Int32) * x3) + (0 : Int32)), .int (x4 + (1 : Int32))] [] (rx_hp L t hi hl v) Q) ∧ (¬ ((hi 90 53) ≤ x4) → (∃ j3 : Nat, x4 = nI j3 ∧ j3 < 3 ∧ rx_aw 231 5 [.ref 90, .ref 133, .int x2, .int (((20 : Int32) * x3) + (hi 133 j3)), .int (x4 + (1 : Int32))] [] (rx_hp L t hi hl v) Q)))))) : rx_aw 231 5 [.ref 90, .ref 133, .int x2, .int x3, .int x4] [] (rx_hp L t hi hl v) Q := by
  refine rx_aw_s 3 (pc := 5) rfl ?_
  refine rx_w_if (c := (3 : Int32) ≤ x4) ⟨fun c1 => ?_, fun c1 => ?_⟩
  · have k := k.1 c1
    show rx_aw 231 40 [.ref 90, .ref 133, .int x2, .int x3, .int x4] [] (rx_hp L t hi hl v) Q
    refine rx_aw_s 5 (pc := 40) rfl ?_
    show rx_aw 231 46 [.ref 90, .ref 133, .int x2, .int x3, .int x4] [.int (((8 : Int32) * x3) + x2)] (rx_hp L t hi hl v) Q
    exact rx_aw_ret (pc := 46) rfl k
  · have k := k.2 c1
    show rx_aw 231 11 [.ref 90, .ref 133, .int x2, .int x3, .int x4] [] (rx_hp L t hi hl v) Q
    refine rx_aw_s 7 (pc := 11) rfl ?_
    refine rx_w_if (c := (hi 90 53) ≤ x4) ⟨fun c2 => ?_, fun c2 => ?_⟩
    · have k := k.1 c2
      show rx_aw 231 31 [.ref 90, .ref 133, .int x2, .int x3, .int x4] [.int ((20 : Int32) * x3)] (rx_hp L t hi hl v) Q
      refine rx_aw_s 5 (pc := 31) rfl ?_
      show rx_aw 231 5 [.ref 90, .ref 133, .int x2, .int (((20 : Int32) * x3) + (0 : Int32)), .int (x4 + (1 : Int32))] [] (rx_hp L t hi hl v) Q
      exact k
    · have k := k.2 c2
      show rx_aw 231 24 [.ref 90, .ref 133, .int x2, .int x3, .int x4] [.int ((20 : Int32) * x3)] (rx_hp L t hi hl v) Q
      refine rx_aw_s 2 (pc := 24) rfl ?_
      show rx_aw 231 27 [.ref 90, .ref 133, .int x2, .int x3, .int x4] [.int x4, .ref 133, .int ((20 : Int32) * x3)] (rx_hp L t hi hl v) Q
      obtain ⟨j3, ej3, hj3, k⟩ := k
      refine rx_aw_iald (pc := 27) (n := 3) j3 ej3 rfl rfl rfl hj3 (by decide) ?_
      show rx_aw 231 28 [.ref 90, .ref 133, .int x2, .int x3, .int x4] [.int (hi 133 j3), .int ((20 : Int32) * x3)] (rx_hp L t hi hl v) Q
      refine rx_aw_s 5 (pc := 28) rfl ?_
      show rx_aw 231 5 [.ref 90, .ref 133, .int x2, .int (((20 : Int32) * x3) + (hi 133 j3)), .int (x4 + (1 : Int32))] [] (rx_hp L t hi hl v) Q
      exact k
set_option maxRecDepth 100000 in
/-- CartFloorModel.weight(I)I -/
theorem w240_weight_r {L : Nat} {t : List (Nat × Nat)} {hi : Nat → Nat → Int32} {hl : Nat → Nat → Int64} {v : Nat → Nat → Option Nat} {Q : Option Value → rx_H → Prop} {a0 : Int32} (k : ((a0 < 0 → Q (some (.int (-11 : Int32))) (rx_hp L t hi hl v)) ∧ (¬ (a0 < 0) → ((a0 ≤ (9 : Int32) → (∃ j3 : Nat, a0 = nI j3 ∧ j3 < 10 ∧ (∃ j4 : Nat, a0 = nI j4 ∧ j4 < 10 ∧ (((hi 110 j4) = (0 : Int32) → Q (some (.int (-10 : Int32))) (rx_hp L t hi hl v)) ∧ (¬ ((hi 110 j4) = (0 : Int32)) → (((hi 110 j4) = (2 : Int32) → Q (some (.int ((5 : Int32) + (hi 111 j3)))) (rx_hp L t hi hl v)) ∧ (¬ ((hi 110 j4) = (2 : Int32)) → (∃ j6 : Nat, ((((402 : Int32) * (hi 111 j3)) + (402 : Int32)) - (1 : Int32)) = nI j6 ∧ j6 < 2412 ∧ (∃ j7 : Nat, (hi 111 j3) = nI j7 ∧ j7 < 6 ∧ (((hi 93 j7) = 0 → Q (some (.int (10 : Int32))) (rx_hp L t hi hl v)) ∧ (¬ ((hi 93 j7) = 0) → (∃ j9 : Nat, (hi 111 j3) = nI j9 ∧ j9 < 6 ∧ (((hi 93 j9) = (1 : Int32) → ((0 ≤ (hi 103 j6) → Q (some (.int ((20 : Int32) + (hi 103 j6)))) (rx_hp L t hi hl v)) ∧ (¬ (0 ≤ (hi 103 j6)) → Q (some (.int (15 : Int32))) (rx_hp L t hi hl v)))) ∧ (¬ ((hi 93 j9) = (1 : Int32)) → (∃ j12 : Nat, (hi 111 j3) = nI j12 ∧ j12 < 6 ∧ (((hi 93 j12) = (2 : Int32) → Q (some (.int (30 : Int32))) (rx_hp L t hi hl v)) ∧ (¬ ((hi 93 j12) = (2 : Int32)) → Q (some (.int (12 : Int32))) (rx_hp L t hi hl v)))))))))))))))))) ∧ (¬ (a0 ≤ (9 : Int32)) → Q (some (.int (-11 : Int32))) (rx_hp L t hi hl v)))))) : rx_me 240 [.ref 90, .int a0] (rx_hp L t hi hl v) Q := by
  show rx_aw 240 0 [.ref 90, .int a0, rx_no, rx_no] [] (rx_hp L t hi hl v) Q
  refine rx_aw_s 2 (pc := 0) rfl ?_
  refine rx_w_if (c := a0 < 0) ⟨fun c1 => ?_, fun c1 => ?_⟩
  · have k := k.1 c1
    show rx_aw 240 10 [.ref 90, .int a0, rx_no, rx_no] [] (rx_hp L t hi hl v) Q
    refine rx_aw_s 1 (pc := 10) rfl ?_
    show rx_aw 240 12 [.ref 90, .int a0, rx_no, rx_no] [.int (-11 : Int32)] (rx_hp L t hi hl v) Q
    exact rx_aw_ret (pc := 12) rfl k
  · have k := k.2 c1
    show rx_aw 240 4 [.ref 90, .int a0, rx_no, rx_no] [] (rx_hp L t hi hl v) Q
    refine rx_aw_s 3 (pc := 4) rfl ?_
    refine rx_w_if (c := a0 ≤ (9 : Int32)) ⟨fun c2 => ?_, fun c2 => ?_⟩
    · have k := k.1 c2
      show rx_aw 240 13 [.ref 90, .int a0, rx_no, rx_no] [] (rx_hp L t hi hl v) Q
      refine rx_aw_s 3 (pc := 13) rfl ?_
      show rx_aw 240 18 [.ref 90, .int a0, rx_no, rx_no] [.int a0, .ref 111] (rx_hp L t hi hl v) Q
      obtain ⟨j3, ej3, hj3, k⟩ := k
      refine rx_aw_iald (pc := 18) (n := 10) j3 ej3 rfl rfl rfl hj3 (by decide) ?_
      show rx_aw 240 19 [.ref 90, .int a0, rx_no, rx_no] [.int (hi 111 j3)] (rx_hp L t hi hl v) Q
      refine rx_aw_s 4 (pc := 19) rfl ?_
      show rx_aw 240 25 [.ref 90, .int a0, .int (hi 111 j3), rx_no] [.int a0, .ref 110] (rx_hp L t hi hl v) Q
      obtain ⟨j4, ej4, hj4, k⟩ := k
      refine rx_aw_iald (pc := 25) (n := 10) j4 ej4 rfl rfl rfl hj4 (by decide) ?_
      show rx_aw 240 26 [.ref 90, .int a0, .int (hi 111 j3), rx_no] [.int (hi 110 j4)] (rx_hp L t hi hl v) Q
      by_cases s5_0 : (hi 110 j4) = (0 : Int32)
      · have k := k.1 s5_0
        refine rx_aw_lsw (pc := 26) (p2 := 52) rfl (by rw [s5_0]; rfl) ?_
        show rx_aw 240 52 [.ref 90, .int a0, .int (hi 111 j3), rx_no] [] (rx_hp L t hi hl v) Q
        refine rx_aw_s 1 (pc := 52) rfl ?_
        show rx_aw 240 54 [.ref 90, .int a0, .int (hi 111 j3), rx_no] [.int (-10 : Int32)] (rx_hp L t hi hl v) Q
        exact rx_aw_ret (pc := 54) rfl k
      · have k := k.2 s5_0
        by_cases s5_1 : (hi 110 j4) = (2 : Int32)
        · have k := k.1 s5_1
          refine rx_aw_lsw (pc := 26) (p2 := 55) rfl (by rw [s5_1]; rfl) ?_
          show rx_aw 240 55 [.ref 90, .int a0, .int (hi 111 j3), rx_no] [] (rx_hp L t hi hl v) Q
          refine rx_aw_s 3 (pc := 55) rfl ?_
          show rx_aw 240 58 [.ref 90, .int a0, .int (hi 111 j3), rx_no] [.int ((5 : Int32) + (hi 111 j3))] (rx_hp L t hi hl v) Q
          exact rx_aw_ret (pc := 58) rfl k
        · have k := k.2 s5_1
          refine rx_aw_lsw (pc := 26) (p2 := 59) rfl (by rw [show ∀ z : Int, Op.lookupswitch.offset [(0, 26), (2, 29)] 33 z = (if (0 : Int) = z then (26 : Int) else if (2 : Int) = z then (29 : Int) else (33 : Int)) from fun z => rfl, if_neg (fun e => rx_ne_toInt (c := (0 : Int32)) (by decide) s5_0 e.symm), if_neg (fun e => rx_ne_toInt (c := (2 : Int32)) (by decide) s5_1 e.symm)]; rfl) ?_
          show rx_aw 240 59 [.ref 90, .int a0, .int (hi 111 j3), rx_no] [] (rx_hp L t hi hl v) Q
          refine rx_aw_s 9 (pc := 59) rfl ?_
          show rx_aw 240 74 [.ref 90, .int a0, .int (hi 111 j3), rx_no] [.int ((((402 : Int32) * (hi 111 j3)) + (402 : Int32)) - (1 : Int32)), .ref 103] (rx_hp L t hi hl v) Q
          obtain ⟨j6, ej6, hj6, k⟩ := k
          refine rx_aw_iald (pc := 74) (n := 2412) j6 ej6 rfl rfl rfl hj6 (by decide) ?_
          show rx_aw 240 75 [.ref 90, .int a0, .int (hi 111 j3), rx_no] [.int (hi 103 j6)] (rx_hp L t hi hl v) Q
          refine rx_aw_s 4 (pc := 75) rfl ?_
          show rx_aw 240 81 [.ref 90, .int a0, .int (hi 111 j3), .int (hi 103 j6)] [.int (hi 111 j3), .ref 93] (rx_hp L t hi hl v) Q
          obtain ⟨j7, ej7, hj7, k⟩ := k
          refine rx_aw_iald (pc := 81) (n := 6) j7 ej7 rfl rfl rfl hj7 (by decide) ?_
          show rx_aw 240 82 [.ref 90, .int a0, .int (hi 111 j3), .int (hi 103 j6)] [.int (hi 93 j7)] (rx_hp L t hi hl v) Q
          refine rx_aw_s 1 (pc := 82) rfl ?_
          refine rx_w_ifn (c := (hi 93 j7) = 0) ⟨fun c8 => ?_, fun c8 => ?_⟩
          · have k := k.1 c8
            show rx_aw 240 85 [.ref 90, .int a0, .int (hi 111 j3), .int (hi 103 j6)] [] (rx_hp L t hi hl v) Q
            refine rx_aw_s 2 (pc := 85) rfl ?_
            show rx_aw 240 133 [.ref 90, .int a0, .int (hi 111 j3), .int (hi 103 j6)] [.int (10 : Int32)] (rx_hp L t hi hl v) Q
            exact rx_aw_ret (pc := 133) rfl k
          · have k := k.2 c8
            show rx_aw 240 90 [.ref 90, .int a0, .int (hi 111 j3), .int (hi 103 j6)] [] (rx_hp L t hi hl v) Q
            refine rx_aw_s 3 (pc := 90) rfl ?_
            show rx_aw 240 95 [.ref 90, .int a0, .int (hi 111 j3), .int (hi 103 j6)] [.int (hi 111 j3), .ref 93] (rx_hp L t hi hl v) Q
            obtain ⟨j9, ej9, hj9, k⟩ := k
            refine rx_aw_iald (pc := 95) (n := 6) j9 ej9 rfl rfl rfl hj9 (by decide) ?_
            show rx_aw 240 96 [.ref 90, .int a0, .int (hi 111 j3), .int (hi 103 j6)] [.int (hi 93 j9)] (rx_hp L t hi hl v) Q
            refine rx_aw_s 2 (pc := 96) rfl ?_
            refine rx_w_ifn (c := (hi 93 j9) = (1 : Int32)) ⟨fun c10 => ?_, fun c10 => ?_⟩
            · have k := k.1 c10
              show rx_aw 240 100 [.ref 90, .int a0, .int (hi 111 j3), .int (hi 103 j6)] [] (rx_hp L t hi hl v) Q
              refine rx_aw_s 2 (pc := 100) rfl ?_
              refine rx_w_if (c := 0 ≤ (hi 103 j6)) ⟨fun c11 => ?_, fun c11 => ?_⟩
              · have k := k.1 c11
                show rx_aw 240 109 [.ref 90, .int a0, .int (hi 111 j3), .int (hi 103 j6)] [] (rx_hp L t hi hl v) Q
                refine rx_aw_s 4 (pc := 109) rfl ?_
                show rx_aw 240 133 [.ref 90, .int a0, .int (hi 111 j3), .int (hi 103 j6)] [.int ((20 : Int32) + (hi 103 j6))] (rx_hp L t hi hl v) Q
                exact rx_aw_ret (pc := 133) rfl k
              · have k := k.2 c11
                show rx_aw 240 104 [.ref 90, .int a0, .int (hi 111 j3), .int (hi 103 j6)] [] (rx_hp L t hi hl v) Q
                refine rx_aw_s 2 (pc := 104) rfl ?_
                show rx_aw 240 133 [.ref 90, .int a0, .int (hi 111 j3), .int (hi 103 j6)] [.int (15 : Int32)] (rx_hp L t hi hl v) Q
                exact rx_aw_ret (pc := 133) rfl k
            · have k := k.2 c10
              show rx_aw 240 116 [.ref 90, .int a0, .int (hi 111 j3), .int (hi 103 j6)] [] (rx_hp L t hi hl v) Q
              refine rx_aw_s 3 (pc := 116) rfl ?_
              show rx_aw 240 121 [.ref 90, .int a0, .int (hi 111 j3), .int (hi 103 j6)] [.int (hi 111 j3), .ref 93] (rx_hp L t hi hl v) Q
              obtain ⟨j12, ej12, hj12, k⟩ := k
              refine rx_aw_iald (pc := 121) (n := 6) j12 ej12 rfl rfl rfl hj12 (by decide) ?_
              show rx_aw 240 122 [.ref 90, .int a0, .int (hi 111 j3), .int (hi 103 j6)] [.int (hi 93 j12)] (rx_hp L t hi hl v) Q
              refine rx_aw_s 2 (pc := 122) rfl ?_
              refine rx_w_ifn (c := (hi 93 j12) = (2 : Int32)) ⟨fun c13 => ?_, fun c13 => ?_⟩
              · have k := k.1 c13
                show rx_aw 240 126 [.ref 90, .int a0, .int (hi 111 j3), .int (hi 103 j6)] [] (rx_hp L t hi hl v) Q
                refine rx_aw_s 2 (pc := 126) rfl ?_
                show rx_aw 240 133 [.ref 90, .int a0, .int (hi 111 j3), .int (hi 103 j6)] [.int (30 : Int32)] (rx_hp L t hi hl v) Q
                exact rx_aw_ret (pc := 133) rfl k
              · have k := k.2 c13
                show rx_aw 240 131 [.ref 90, .int a0, .int (hi 111 j3), .int (hi 103 j6)] [] (rx_hp L t hi hl v) Q
                refine rx_aw_s 1 (pc := 131) rfl ?_
                show rx_aw 240 133 [.ref 90, .int a0, .int (hi 111 j3), .int (hi 103 j6)] [.int (12 : Int32)] (rx_hp L t hi hl v) Q
                exact rx_aw_ret (pc := 133) rfl k
    · have k := k.2 c2
      show rx_aw 240 10 [.ref 90, .int a0, rx_no, rx_no] [] (rx_hp L t hi hl v) Q
      refine rx_aw_s 1 (pc := 10) rfl ?_
      show rx_aw 240 12 [.ref 90, .int a0, rx_no, rx_no] [.int (-11 : Int32)] (rx_hp L t hi hl v) Q
      exact rx_aw_ret (pc := 12) rfl k
