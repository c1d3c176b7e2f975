/-! Methods walked by program (gen/wp.py): what is left to show of each. -/
set_option maxRecDepth 100000 in
/-- CartFloorModel.swaps(JJJJ)Z -/
theorem w176_swaps_r {L : Nat} {t : List (Nat × Nat)} {hi : Nat → Nat → Int32} {hl : Nat → Nat → Int64} {v : Nat → Nat → Option Nat} {Q : Option Value → rx_H → Prop} {a0 : Int64} {a1 : Int64} {a2 : Int64} {a3 : Int64} (k : (((lg_cmp (a0 &&& a3) (0 : Int64)) = 0 → Q (some (.int (0 : Int32))) (rx_hp L t hi hl v)) ∧ (¬ ((lg_cmp (a0 &&& a3) (0 : Int64)) = 0) → (((lg_cmp (a1 &&& a2) (0 : Int64)) = 0 → Q (some (.int (0 : Int32))) (rx_hp L t hi hl v)) ∧ (¬ ((lg_cmp (a1 &&& a2) (0 : Int64)) = 0) → (((lg_cmp (a0 &&& a3) (a1 &&& a2)) = 0 → (((lg_cmp ((a0 &&& a3) &&& ((a0 &&& a3) - (1 : Int64))) (0 : Int64)) = 0 → Q (some (.int (0 : Int32))) (rx_hp L t hi hl v)) ∧ (¬ ((lg_cmp ((a0 &&& a3) &&& ((a0 &&& a3) - (1 : Int64))) (0 : Int64)) = 0) → Q (some (.int (1 : Int32))) (rx_hp L t hi hl v)))) ∧ (¬ ((lg_cmp (a0 &&& a3) (a1 &&& a2)) = 0) → Q (some (.int (1 : Int32))) (rx_hp L t hi hl v)))))))) : rx_me 176 [.long a0, .long a1, .long a2, .long a3] (rx_hp L t hi hl v) Q := by
  show rx_aw 176 0 [.long a0, rx_no, .long a1, rx_no, .long a2, rx_no, .long a3, rx_no, rx_no, rx_no, rx_no, rx_no] [] (rx_hp L t hi hl v) Q
  refine rx_aw_s 12 (pc := 0) rfl ?_
  refine rx_w_if (c := (lg_cmp (a0 &&& a3) (0 : Int64)) = 0) ⟨fun c1 => ?_, fun c1 => ?_⟩
  · have k := k.1 c1
    show rx_aw 176 50 [.long a0, rx_no, .long a1, rx_no, .long a2, rx_no, .long a3, rx_no, .long (a0 &&& a3), rx_no, .long (a1 &&& a2), rx_no] [] (rx_hp L t hi hl v) Q
    refine rx_aw_s 1 (pc := 50) rfl ?_
    show rx_aw 176 51 [.long a0, rx_no, .long a1, rx_no, .long a2, rx_no, .long a3, rx_no, .long (a0 &&& a3), rx_no, .long (a1 &&& a2), rx_no] [.int (0 : Int32)] (rx_hp L t hi hl v) Q
    exact rx_aw_ret (pc := 51) rfl k
  · have k := k.2 c1
    show rx_aw 176 19 [.long a0, rx_no, .long a1, rx_no, .long a2, rx_no, .long a3, rx_no, .long (a0 &&& a3), rx_no, .long (a1 &&& a2), rx_no] [] (rx_hp L t hi hl v) Q
    refine rx_aw_s 4 (pc := 19) rfl ?_
    refine rx_w_if (c := (lg_cmp (a1 &&& a2) (0 : Int64)) = 0) ⟨fun c2 => ?_, fun c2 => ?_⟩
    · have k := k.1 c2
      show rx_aw 176 50 [.long a0, rx_no, .long a1, rx_no, .long a2, rx_no, .long a3, rx_no, .long (a0 &&& a3), rx_no, .long (a1 &&& a2), rx_no] [] (rx_hp L t hi hl v) Q
      refine rx_aw_s 1 (pc := 50) rfl ?_
      show rx_aw 176 51 [.long a0, rx_no, .long a1, rx_no, .long a2, rx_no, .long a3, rx_no, .long (a0 &&& a3), rx_no, .long (a1 &&& a2), rx_no] [.int (0 : Int32)] (rx_hp L t hi hl v) Q
      exact rx_aw_ret (pc := 51) rfl k
    · have k := k.2 c2
      show rx_aw 176 26 [.long a0, rx_no, .long a1, rx_no, .long a2, rx_no, .long a3, rx_no, .long (a0 &&& a3), rx_no, .long (a1 &&& a2), rx_no] [] (rx_hp L t hi hl v) Q
      refine rx_aw_s 4 (pc := 26) rfl ?_
      refine rx_w_ifn (c := (lg_cmp (a0 &&& a3) (a1 &&& a2)) = 0) ⟨fun c3 => ?_, fun c3 => ?_⟩
      · have k := k.1 c3
        show rx_aw 176 34 [.long a0, rx_no, .long a1, rx_no, .long a2, rx_no, .long a3, rx_no, .long (a0 &&& a3), rx_no, .long (a1 &&& a2), rx_no] [] (rx_hp L t hi hl v) Q
        refine rx_aw_s 8 (pc := 34) rfl ?_
        refine rx_w_if (c := (lg_cmp ((a0 &&& a3) &&& ((a0 &&& a3) - (1 : Int64))) (0 : Int64)) = 0) ⟨fun c4 => ?_, fun c4 => ?_⟩
        · have k := k.1 c4
          show rx_aw 176 50 [.long a0, rx_no, .long a1, rx_no, .long a2, rx_no, .long a3, rx_no, .long (a0 &&& a3), rx_no, .long (a1 &&& a2), rx_no] [] (rx_hp L t hi hl v) Q
          refine rx_aw_s 1 (pc := 50) rfl ?_
          show rx_aw 176 51 [.long a0, rx_no, .long a1, rx_no, .long a2, rx_no, .long a3, rx_no, .long (a0 &&& a3), rx_no, .long (a1 &&& a2), rx_no] [.int (0 : Int32)] (rx_hp L t hi hl v) Q
          exact rx_aw_ret (pc := 51) rfl k
        · have k := k.2 c4
          show rx_aw 176 46 [.long a0, rx_no, .long a1, rx_no, .long a2, rx_no, .long a3, rx_no, .long (a0 &&& a3), rx_no, .long (a1 &&& a2), rx_no] [] (rx_hp L t hi hl v) Q
          refine rx_aw_s 2 (pc := 46) rfl ?_
          show rx_aw 176 51 [.long a0, rx_no, .long a1, rx_no, .long a2, rx_no, .long a3, rx_no, .long (a0 &&& a3), rx_no, .long (a1 &&& a2), rx_no] [.int (1 : Int32)] (rx_hp L t hi hl v) Q
          exact rx_aw_ret (pc := 51) rfl k
      · have k := k.2 c3
        show rx_aw 176 46 [.long a0, rx_no, .long a1, rx_no, .long a2, rx_no, .long a3, rx_no, .long (a0 &&& a3), rx_no, .long (a1 &&& a2), rx_no] [] (rx_hp L t hi hl v) Q
        refine rx_aw_s 2 (pc := 46) rfl ?_
        show rx_aw 176 51 [.long a0, rx_no, .long a1, rx_no, .long a2, rx_no, .long a3, rx_no, .long (a0 &&& a3), rx_no, .long (a1 &&& a2), rx_no] [.int (1 : Int32)] (rx_hp L t hi hl v) Q
        exact rx_aw_ret (pc := 51) rfl k
set_option maxRecDepth 100000 in
/-- CartFloorModel.isGoal(IIIZII)Z -/
theorem w177_isGoal_r {L : Nat} {t : List (Nat × Nat)} {hi : Nat → Nat → Int32} {hl : Nat → Nat → Int64} {v : Nat → Nat → Option Nat} {Q : Option Value → rx_H → Prop} {a0 : Int32} {a1 : Int32} {a2 : Int32} {a3 : Int32} {a4 : Int32} {a5 : Int32} (k : (((a4 / (4 : Int32)) = a1 → ((a2 < 0 → (∃ j3 : Nat, a0 = nI j3 ∧ j3 < 6 ∧ rx_me 179 [.ref 90, .int (hi 93 j3), .int (a4 / (4 : Int32)), .int (a4 - a4 / (4 : Int32) * (4 : Int32))] (rx_hp L t hi hl v) (fun r h2 => ∃ z4 : Int64, r = some (.long z4) ∧ rx_ok2 L t h2 (fun hi4 hl4 v4 => ((a3 = 0 → Q (some (.int (1 : Int32))) (rx_hp L t hi4 hl4 v4)) ∧ (¬ (a3 = 0) → (∃ j6 : Nat, a5 = nI j6 ∧ j6 < 402 ∧ (∃ j7 : Nat, a5 = nI j7 ∧ j7 < 402 ∧ (((lg_cmp (z4 &&& ((hl4 118 j6) ||| (hl4 120 j7))) (0 : Int64)) = 0 → Q (some (.int (1 : Int32))) (rx_hp L t hi4 hl4 v4)) ∧ (¬ ((lg_cmp (z4 &&& ((hl4 118 j6) ||| (hl4 120 j7))) (0 : Int64)) = 0) → Q (some (.int (0 : Int32))) (rx_hp L t hi4 hl4 v4))))))))))) ∧ (¬ (a2 < 0) → (∃ j9 : Nat, (((402 : Int32) * a2) + a5) = nI j9 ∧ j9 < 4824 ∧ (((hi 108 j9) = (a4 / (4 : Int32)) → rx_me 178 [.ref 90, .int a2, .int a5] (rx_hp L t hi hl v) (fun r h2 => ∃ z11 : Int32, r = some (.int z11) ∧ rx_ok2 L t h2 (fun hi11 hl11 v11 => ((z11 = 0 → (∃ j13 : Nat, a0 = nI j13 ∧ j13 < 6 ∧ rx_me 179 [.ref 90, .int (hi11 93 j13), .int (a4 / (4 : Int32)), .int (a4 - a4 / (4 : Int32) * (4 : Int32))] (rx_hp L t hi11 hl11 v11) (fun r h2 => ∃ z14 : Int64, r = some (.long z14) ∧ rx_ok2 L t h2 (fun hi14 hl14 v14 => ((a3 = 0 → Q (some (.int (1 : Int32))) (rx_hp L t hi14 hl14 v14)) ∧ (¬ (a3 = 0) → (∃ j16 : Nat, a5 = nI j16 ∧ j16 < 402 ∧ (∃ j17 : Nat, a5 = nI j17 ∧ j17 < 402 ∧ (((lg_cmp (z14 &&& ((hl14 118 j16) ||| (hl14 120 j17))) (0 : Int64)) = 0 → Q (some (.int (1 : Int32))) (rx_hp L t hi14 hl14 v14)) ∧ (¬ ((lg_cmp (z14 &&& ((hl14 118 j16) ||| (hl14 120 j17))) (0 : Int64)) = 0) → Q (some (.int (0 : Int32))) (rx_hp L t hi14 hl14 v14))))))))))) ∧ (¬ (z11 = 0) → Q (some (.int (0 : Int32))) (rx_hp L t hi11 hl11 v11)))))) ∧ (¬ ((hi 108 j9) = (a4 / (4 : Int32))) → Q (some (.int (0 : Int32))) (rx_hp L t hi hl v))))))) ∧ (¬ ((a4 / (4 : Int32)) = a1) → Q (some (.int (0 : Int32))) (rx_hp L t hi hl v)))) : rx_me 177 [.ref 90, .int a0, .int a1, .int a2, .int a3, .int a4, .int a5] (rx_hp L t hi hl v) Q := by
  show rx_aw 177 0 [.ref 90, .int a0, .int a1, .int a2, .int a3, .int a4, .int a5, rx_no, rx_no, rx_no] [] (rx_hp L t hi hl v) Q
  refine rx_aw_s 2 (pc := 0) rfl ?_
  show rx_aw 177 3 [.ref 90, .int a0, .int a1, .int a2, .int a3, .int a4, .int a5, rx_no, rx_no, rx_no] [.int (4 : Int32), .int a4] (rx_hp L t hi hl v) Q
  refine rx_aw_div (pc := 3) rfl (by decide) ?_
  show rx_aw 177 4 [.ref 90, .int a0, .int a1, .int a2, .int a3, .int a4, .int a5, rx_no, rx_no, rx_no] [.int (a4 / (4 : Int32))] (rx_hp L t hi hl v) Q
  refine rx_aw_s 4 (pc := 4) rfl ?_
  refine rx_w_if (c := (a4 / (4 : Int32)) = a1) ⟨fun c1 => ?_, fun c1 => ?_⟩
  · have k := k.1 c1
    show rx_aw 177 14 [.ref 90, .int a0, .int a1, .int a2, .int a3, .int a4, .int a5, .int (a4 / (4 : Int32)), rx_no, rx_no] [] (rx_hp L t hi hl v) Q
    refine rx_aw_s 2 (pc := 14) rfl ?_
    refine rx_w_if (c := a2 < 0) ⟨fun c2 => ?_, fun c2 => ?_⟩
    · have k := k.1 c2
      show rx_aw 177 48 [.ref 90, .int a0, .int a1, .int a2, .int a3, .int a4, .int a5, .int (a4 / (4 : Int32)), rx_no, rx_no] [] (rx_hp L t hi hl v) Q
      refine rx_aw_s 4 (pc := 48) rfl ?_
      show rx_aw 177 54 [.ref 90, .int a0, .int a1, .int a2, .int a3, .int a4, .int a5, .int (a4 / (4 : Int32)), rx_no, rx_no] [.int a0, .ref 93, .ref 90] (rx_hp L t hi hl v) Q
      obtain ⟨j3, ej3, hj3, k⟩ := k
      refine rx_aw_iald (pc := 54) (n := 6) j3 ej3 rfl rfl rfl hj3 (by decide) ?_
      show rx_aw 177 55 [.ref 90, .int a0, .int a1, .int a2, .int a3, .int a4, .int a5, .int (a4 / (4 : Int32)), rx_no, rx_no] [.int (hi 93 j3), .ref 90] (rx_hp L t hi hl v) Q
      refine rx_aw_s 3 (pc := 55) rfl ?_
      show rx_aw 177 60 [.ref 90, .int a0, .int a1, .int a2, .int a3, .int a4, .int a5, .int (a4 / (4 : Int32)), rx_no, rx_no] [.int (4 : Int32), .int a4, .int (a4 / (4 : Int32)), .int (hi 93 j3), .ref 90] (rx_hp L t hi hl v) Q
      refine rx_aw_rem (pc := 60) rfl (by decide) ?_
      show rx_aw 177 61 [.ref 90, .int a0, .int a1, .int a2, .int a3, .int a4, .int a5, .int (a4 / (4 : Int32)), rx_no, rx_no] [.int (a4 - a4 / (4 : Int32) * (4 : Int32)), .int (a4 / (4 : Int32)), .int (hi 93 j3), .ref 90] (rx_hp L t hi hl v) Q
      refine rx_w_callL (j := 179) (pc := 61) rfl rfl rfl rfl rfl ?_
      refine rx_aw.mono k (fun r h2 k => ?_)
      obtain ⟨z4, rfl, hi4, hl4, v4, rfl, k⟩ := k
      refine ⟨z4, rfl, ?_⟩
      show rx_aw 177 64 [.ref 90, .int a0, .int a1, .int a2, .int a3, .int a4, .int a5, .int (a4 / (4 : Int32)), rx_no, rx_no] [.long z4] (rx_hp L t hi4 hl4 v4) Q
      refine rx_aw_s 3 (pc := 64) rfl ?_
      refine rx_w_if (c := a3 = 0) ⟨fun c5 => ?_, fun c5 => ?_⟩
      · have k := k.1 c5
        show rx_aw 177 94 [.ref 90, .int a0, .int a1, .int a2, .int a3, .int a4, .int a5, .int (a4 / (4 : Int32)), .long z4, rx_no] [] (rx_hp L t hi4 hl4 v4) Q
        refine rx_aw_s 2 (pc := 94) rfl ?_
        show rx_aw 177 99 [.ref 90, .int a0, .int a1, .int a2, .int a3, .int a4, .int a5, .int (a4 / (4 : Int32)), .long z4, rx_no] [.int (1 : Int32)] (rx_hp L t hi4 hl4 v4) Q
        exact rx_aw_ret (pc := 99) rfl k
      · have k := k.2 c5
        show rx_aw 177 71 [.ref 90, .int a0, .int a1, .int a2, .int a3, .int a4, .int a5, .int (a4 / (4 : Int32)), .long z4, rx_no] [] (rx_hp L t hi4 hl4 v4) Q
        refine rx_aw_s 4 (pc := 71) rfl ?_
        show rx_aw 177 79 [.ref 90, .int a0, .int a1, .int a2, .int a3, .int a4, .int a5, .int (a4 / (4 : Int32)), .long z4, rx_no] [.int a5, .ref 118, .long z4] (rx_hp L t hi4 hl4 v4) Q
        obtain ⟨j6, ej6, hj6, k⟩ := k
        refine rx_aw_lald (pc := 79) (n := 402) j6 ej6 rfl rfl (by decide) rfl hj6 (by decide) ?_
        show rx_aw 177 80 [.ref 90, .int a0, .int a1, .int a2, .int a3, .int a4, .int a5, .int (a4 / (4 : Int32)), .long z4, rx_no] [.long (hl4 118 j6), .long z4] (rx_hp L t hi4 hl4 v4) Q
        refine rx_aw_s 3 (pc := 80) rfl ?_
        show rx_aw 177 86 [.ref 90, .int a0, .int a1, .int a2, .int a3, .int a4, .int a5, .int (a4 / (4 : Int32)), .long z4, rx_no] [.int a5, .ref 120, .long (hl4 118 j6), .long z4] (rx_hp L t hi4 hl4 v4) Q
        obtain ⟨j7, ej7, hj7, k⟩ := k
        refine rx_aw_lald (pc := 86) (n := 402) j7 ej7 rfl rfl (by decide) rfl hj7 (by decide) ?_
        show rx_aw 177 87 [.ref 90, .int a0, .int a1, .int a2, .int a3, .int a4, .int a5, .int (a4 / (4 : Int32)), .long z4, rx_no] [.long (hl4 120 j7), .long (hl4 118 j6), .long z4] (rx_hp L t hi4 hl4 v4) Q
        refine rx_aw_s 5 (pc := 87) rfl ?_
        refine rx_w_ifn (c := (lg_cmp (z4 &&& ((hl4 118 j6) ||| (hl4 120 j7))) (0 : Int64)) = 0) ⟨fun c8 => ?_, fun c8 => ?_⟩
        · have k := k.1 c8
          show rx_aw 177 94 [.ref 90, .int a0, .int a1, .int a2, .int a3, .int a4, .int a5, .int (a4 / (4 : Int32)), .long z4, rx_no] [] (rx_hp L t hi4 hl4 v4) Q
          refine rx_aw_s 2 (pc := 94) rfl ?_
          show rx_aw 177 99 [.ref 90, .int a0, .int a1, .int a2, .int a3, .int a4, .int a5, .int (a4 / (4 : Int32)), .long z4, rx_no] [.int (1 : Int32)] (rx_hp L t hi4 hl4 v4) Q
          exact rx_aw_ret (pc := 99) rfl k
        · have k := k.2 c8
          show rx_aw 177 98 [.ref 90, .int a0, .int a1, .int a2, .int a3, .int a4, .int a5, .int (a4 / (4 : Int32)), .long z4, rx_no] [] (rx_hp L t hi4 hl4 v4) Q
          refine rx_aw_s 1 (pc := 98) rfl ?_
          show rx_aw 177 99 [.ref 90, .int a0, .int a1, .int a2, .int a3, .int a4, .int a5, .int (a4 / (4 : Int32)), .long z4, rx_no] [.int (0 : Int32)] (rx_hp L t hi4 hl4 v4) Q
          exact rx_aw_ret (pc := 99) rfl k
    · have k := k.2 c2
      show rx_aw 177 18 [.ref 90, .int a0, .int a1, .int a2, .int a3, .int a4, .int a5, .int (a4 / (4 : Int32)), rx_no, rx_no] [] (rx_hp L t hi hl v) Q
      refine rx_aw_s 7 (pc := 18) rfl ?_
      show rx_aw 177 30 [.ref 90, .int a0, .int a1, .int a2, .int a3, .int a4, .int a5, .int (a4 / (4 : Int32)), rx_no, rx_no] [.int (((402 : Int32) * a2) + a5), .ref 108] (rx_hp L t hi hl v) Q
      obtain ⟨j9, ej9, hj9, k⟩ := k
      refine rx_aw_iald (pc := 30) (n := 4824) j9 ej9 rfl rfl rfl hj9 (by decide) ?_
      show rx_aw 177 31 [.ref 90, .int a0, .int a1, .int a2, .int a3, .int a4, .int a5, .int (a4 / (4 : Int32)), rx_no, rx_no] [.int (hi 108 j9)] (rx_hp L t hi hl v) Q
      refine rx_aw_s 2 (pc := 31) rfl ?_
      refine rx_w_ifn (c := (hi 108 j9) = (a4 / (4 : Int32))) ⟨fun c10 => ?_, fun c10 => ?_⟩
      · have k := k.1 c10
        show rx_aw 177 36 [.ref 90, .int a0, .int a1, .int a2, .int a3, .int a4, .int a5, .int (a4 / (4 : Int32)), rx_no, rx_no] [] (rx_hp L t hi hl v) Q
        refine rx_aw_s 3 (pc := 36) rfl ?_
        show rx_aw 177 40 [.ref 90, .int a0, .int a1, .int a2, .int a3, .int a4, .int a5, .int (a4 / (4 : Int32)), rx_no, rx_no] [.int a5, .int a2, .ref 90] (rx_hp L t hi hl v) Q
        refine rx_w_callI (j := 178) (pc := 40) rfl rfl rfl rfl rfl ?_
        refine rx_aw.mono k (fun r h2 k => ?_)
        obtain ⟨z11, rfl, hi11, hl11, v11, rfl, k⟩ := k
        refine ⟨z11, rfl, ?_⟩
        show rx_aw 177 43 [.ref 90, .int a0, .int a1, .int a2, .int a3, .int a4, .int a5, .int (a4 / (4 : Int32)), rx_no, rx_no] [.int z11] (rx_hp L t hi11 hl11 v11) Q
        refine rx_aw_s 1 (pc := 43) rfl ?_
        refine rx_w_if (c := z11 = 0) ⟨fun c12 => ?_, fun c12 => ?_⟩
        · have k := k.1 c12
          show rx_aw 177 48 [.ref 90, .int a0, .int a1, .int a2, .int a3, .int a4, .int a5, .int (a4 / (4 : Int32)), rx_no, rx_no] [] (rx_hp L t hi11 hl11 v11) Q
          refine rx_aw_s 4 (pc := 48) rfl ?_
          show rx_aw 177 54 [.ref 90, .int a0, .int a1, .int a2, .int a3, .int a4, .int a5, .int (a4 / (4 : Int32)), rx_no, rx_no] [.int a0, .ref 93, .ref 90] (rx_hp L t hi11 hl11 v11) Q
          obtain ⟨j13, ej13, hj13, k⟩ := k
          refine rx_aw_iald (pc := 54) (n := 6) j13 ej13 rfl rfl rfl hj13 (by decide) ?_
          show rx_aw 177 55 [.ref 90, .int a0, .int a1, .int a2, .int a3, .int a4, .int a5, .int (a4 / (4 : Int32)), rx_no, rx_no] [.int (hi11 93 j13), .ref 90] (rx_hp L t hi11 hl11 v11) Q
          refine rx_aw_s 3 (pc := 55) rfl ?_
          show rx_aw 177 60 [.ref 90, .int a0, .int a1, .int a2, .int a3, .int a4, .int a5, .int (a4 / (4 : Int32)), rx_no, rx_no] [.int (4 : Int32), .int a4, .int (a4 / (4 : Int32)), .int (hi11 93 j13), .ref 90] (rx_hp L t hi11 hl11 v11) Q
          refine rx_aw_rem (pc := 60) rfl (by decide) ?_
          show rx_aw 177 61 [.ref 90, .int a0, .int a1, .int a2, .int a3, .int a4, .int a5, .int (a4 / (4 : Int32)), rx_no, rx_no] [.int (a4 - a4 / (4 : Int32) * (4 : Int32)), .int (a4 / (4 : Int32)), .int (hi11 93 j13), .ref 90] (rx_hp L t hi11 hl11 v11) Q
          refine rx_w_callL (j := 179) (pc := 61) rfl rfl rfl rfl rfl ?_
          refine rx_aw.mono k (fun r h2 k => ?_)
          obtain ⟨z14, rfl, hi14, hl14, v14, rfl, k⟩ := k
          refine ⟨z14, rfl, ?_⟩
          show rx_aw 177 64 [.ref 90, .int a0, .int a1, .int a2, .int a3, .int a4, .int a5, .int (a4 / (4 : Int32)), rx_no, rx_no] [.long z14] (rx_hp L t hi14 hl14 v14) Q
          refine rx_aw_s 3 (pc := 64) rfl ?_
          refine rx_w_if (c := a3 = 0) ⟨fun c15 => ?_, fun c15 => ?_⟩
          · have k := k.1 c15
            show rx_aw 177 94 [.ref 90, .int a0, .int a1, .int a2, .int a3, .int a4, .int a5, .int (a4 / (4 : Int32)), .long z14, rx_no] [] (rx_hp L t hi14 hl14 v14) Q
            refine rx_aw_s 2 (pc := 94) rfl ?_
            show rx_aw 177 99 [.ref 90, .int a0, .int a1, .int a2, .int a3, .int a4, .int a5, .int (a4 / (4 : Int32)), .long z14, rx_no] [.int (1 : Int32)] (rx_hp L t hi14 hl14 v14) Q
            exact rx_aw_ret (pc := 99) rfl k
          · have k := k.2 c15
            show rx_aw 177 71 [.ref 90, .int a0, .int a1, .int a2, .int a3, .int a4, .int a5, .int (a4 / (4 : Int32)), .long z14, rx_no] [] (rx_hp L t hi14 hl14 v14) Q
            refine rx_aw_s 4 (pc := 71) rfl ?_
            show rx_aw 177 79 [.ref 90, .int a0, .int a1, .int a2, .int a3, .int a4, .int a5, .int (a4 / (4 : Int32)), .long z14, rx_no] [.int a5, .ref 118, .long z14] (rx_hp L t hi14 hl14 v14) Q
            obtain ⟨j16, ej16, hj16, k⟩ := k
            refine rx_aw_lald (pc := 79) (n := 402) j16 ej16 rfl rfl (by decide) rfl hj16 (by decide) ?_
            show rx_aw 177 80 [.ref 90, .int a0, .int a1, .int a2, .int a3, .int a4, .int a5, .int (a4 / (4 : Int32)), .long z14, rx_no] [.long (hl14 118 j16), .long z14] (rx_hp L t hi14 hl14 v14) Q
            refine rx_aw_s 3 (pc := 80) rfl ?_
            show rx_aw 177 86 [.ref 90, .int a0, .int a1, .int a2, .int a3, .int a4, .int a5, .int (a4 / (4 : Int32)), .long z14, rx_no] [.int a5, .ref 120, .long (hl14 118 j16), .long z14] (rx_hp L t hi14 hl14 v14) Q
            obtain ⟨j17, ej17, hj17, k⟩ := k
            refine rx_aw_lald (pc := 86) (n := 402) j17 ej17 rfl rfl (by decide) rfl hj17 (by decide) ?_
            show rx_aw 177 87 [.ref 90, .int a0, .int a1, .int a2, .int a3, .int a4, .int a5, .int (a4 / (4 : Int32)), .long z14, rx_no] [.long (hl14 120 j17), .long (hl14 118 j16), .long z14] (rx_hp L t hi14 hl14 v14) Q
            refine rx_aw_s 5 (pc := 87) rfl ?_
            refine rx_w_ifn (c := (lg_cmp (z14 &&& ((hl14 118 j16) ||| (hl14 120 j17))) (0 : Int64)) = 0) ⟨fun c18 => ?_, fun c18 => ?_⟩
            · have k := k.1 c18
              show rx_aw 177 94 [.ref 90, .int a0, .int a1, .int a2, .int a3, .int a4, .int a5, .int (a4 / (4 : Int32)), .long z14, rx_no] [] (rx_hp L t hi14 hl14 v14) Q
              refine rx_aw_s 2 (pc := 94) rfl ?_
              show rx_aw 177 99 [.ref 90, .int a0, .int a1, .int a2, .int a3, .int a4, .int a5, .int (a4 / (4 : Int32)), .long z14, rx_no] [.int (1 : Int32)] (rx_hp L t hi14 hl14 v14) Q
              exact rx_aw_ret (pc := 99) rfl k
            · have k := k.2 c18
              show rx_aw 177 98 [.ref 90, .int a0, .int a1, .int a2, .int a3, .int a4, .int a5, .int (a4 / (4 : Int32)), .long z14, rx_no] [] (rx_hp L t hi14 hl14 v14) Q
              refine rx_aw_s 1 (pc := 98) rfl ?_
              show rx_aw 177 99 [.ref 90, .int a0, .int a1, .int a2, .int a3, .int a4, .int a5, .int (a4 / (4 : Int32)), .long z14, rx_no] [.int (0 : Int32)] (rx_hp L t hi14 hl14 v14) Q
              exact rx_aw_ret (pc := 99) rfl k
        · have k := k.2 c12
          show rx_aw 177 46 [.ref 90, .int a0, .int a1, .int a2, .int a3, .int a4, .int a5, .int (a4 / (4 : Int32)), rx_no, rx_no] [] (rx_hp L t hi11 hl11 v11) Q
          refine rx_aw_s 1 (pc := 46) rfl ?_
          show rx_aw 177 47 [.ref 90, .int a0, .int a1, .int a2, .int a3, .int a4, .int a5, .int (a4 / (4 : Int32)), rx_no, rx_no] [.int (0 : Int32)] (rx_hp L t hi11 hl11 v11) Q
          exact rx_aw_ret (pc := 47) rfl k
      · have k := k.2 c10
        show rx_aw 177 46 [.ref 90, .int a0, .int a1, .int a2, .int a3, .int a4, .int a5, .int (a4 / (4 : Int32)), rx_no, rx_no] [] (rx_hp L t hi hl v) Q
        refine rx_aw_s 1 (pc := 46) rfl ?_
        show rx_aw 177 47 [.ref 90, .int a0, .int a1, .int a2, .int a3, .int a4, .int a5, .int (a4 / (4 : Int32)), rx_no, rx_no] [.int (0 : Int32)] (rx_hp L t hi hl v) Q
        exact rx_aw_ret (pc := 47) rfl k
  · have k := k.2 c1
    show rx_aw 177 12 [.ref 90, .int a0, .int a1, .int a2, .int a3, .int a4, .int a5, .int (a4 / (4 : Int32)), rx_no, rx_no] [] (rx_hp L t hi hl v) Q
    refine rx_aw_s 1 (pc := 12) rfl ?_
    show rx_aw 177 13 [.ref 90, .int a0, .int a1, .int a2, .int a3, .int a4, .int a5, .int (a4 / (4 : Int32)), rx_no, rx_no] [.int (0 : Int32)] (rx_hp L t hi hl v) Q
    exact rx_aw_ret (pc := 13) rfl k
set_option maxRecDepth 100000 in
/-- CartFloorModel.isCarried(II)Z -/
theorem w178_isCarried_r {L : Nat} {t : List (Nat × Nat)} {hi : Nat → Nat → Int32} {hl : Nat → Nat → Int64} {v : Nat → Nat → Option Nat} {Q : Option Value → rx_H → Prop} {a0 : Int32} {a1 : Int32} (k : rx_aw 178 5 [.ref 90, .int a0, .int a1, .int (0 : Int32), .int (0 : Int32)] [] (rx_hp L t hi hl v) Q) : rx_me 178 [.ref 90, .int a0, .int a1] (rx_hp L t hi hl v) Q := by
  show rx_aw 178 0 [.ref 90, .int a0, .int a1, rx_no, rx_no] [] (rx_hp L t hi hl v) Q
  refine rx_aw_s 4 (pc := 0) rfl ?_
  show rx_aw 178 5 [.ref 90, .int a0, .int a1, .int (0 : Int32), .int (0 : Int32)] [] (rx_hp L t hi hl v) Q
  exact k
set_option maxRecDepth 100000 in
theorem w178_isCarried_r_5 {L : Nat} {t : List (Nat × Nat)} {hi : Nat → Nat → Int32} {hl : Nat → Nat → Int64} {v : Nat → Nat → Option Nat} {Q : Option Value → rx_H → Prop} {x1 : Int32} {x2 : Int32} {x3 : Int32} {x4 : Int32} (k : (((hi 90 6) ≤ x4 → ((x3 = 0 ∨ x3 = 1) ∧ Q (some (.int x3)) (rx_hp L t hi hl v))) ∧ (¬ ((hi 90 6) ≤ x4) → (∃ j2 : Nat, (((402 : Int32) * x4) + x2) = nI j2 ∧ j2 < 2412 ∧ (((hi 103 j2) = x1 → rx_aw 178 5 [.ref 90, .int x1, .int x2, .int (x3 ||| (1 : Int32)), .int (x4 + (1 : Int32))] [] (rx_hp L t hi hl v) Q) ∧ (¬ ((hi 103 j2) = x1) → rx_aw 178 5 [.ref 90, .int x1, .int x2, .int (x3 ||| (0 : Int32)), .int (x4 + (1 : Int32))] [] (rx_hp L t hi hl v) Q)))))) : rx_aw 178 5 [.ref 90, .int x1, .int x2, .int x3, .int x4] [] (rx_hp L t hi hl v) Q := by
  refine rx_aw_s 4 (pc := 5) rfl ?_
  refine rx_w_if (c := (hi 90 6) ≤ x4) ⟨fun c1 => ?_, fun c1 => ?_⟩
  · have k := k.1 c1
    show rx_aw 178 45 [.ref 90, .int x1, .int x2, .int x3, .int x4] [] (rx_hp L t hi hl v) Q
    refine rx_aw_s 1 (pc := 45) rfl ?_
    show rx_aw 178 46 [.ref 90, .int x1, .int x2, .int x3, .int x4] [.int x3] (rx_hp L t hi hl v) Q
    exact rx_w_zret (pc := 46) rfl rfl k
  · have k := k.2 c1
    show rx_aw 178 14 [.ref 90, .int x1, .int x2, .int x3, .int x4] [] (rx_hp L t hi hl v) Q
    refine rx_aw_s 8 (pc := 14) rfl ?_
    show rx_aw 178 27 [.ref 90, .int x1, .int x2, .int x3, .int x4] [.int (((402 : Int32) * x4) + x2), .ref 103, .int x3] (rx_hp L t hi hl v) Q
    obtain ⟨j2, ej2, hj2, k⟩ := k
    refine rx_aw_iald (pc := 27) (n := 2412) j2 ej2 rfl rfl rfl hj2 (by decide) ?_
    show rx_aw 178 28 [.ref 90, .int x1, .int x2, .int x3, .int x4] [.int (hi 103 j2), .int x3] (rx_hp L t hi hl v) Q
    refine rx_aw_s 2 (pc := 28) rfl ?_
    refine rx_w_ifn (c := (hi 103 j2) = x1) ⟨fun c3 => ?_, fun c3 => ?_⟩
    · have k := k.1 c3
      show rx_aw 178 32 [.ref 90, .int x1, .int x2, .int x3, .int x4] [.int x3] (rx_hp L t hi hl v) Q
      refine rx_aw_s 6 (pc := 32) rfl ?_
      show rx_aw 178 5 [.ref 90, .int x1, .int x2, .int (x3 ||| (1 : Int32)), .int (x4 + (1 : Int32))] [] (rx_hp L t hi hl v) Q
      exact k
    · have k := k.2 c3
      show rx_aw 178 36 [.ref 90, .int x1, .int x2, .int x3, .int x4] [.int x3] (rx_hp L t hi hl v) Q
      refine rx_aw_s 5 (pc := 36) rfl ?_
      show rx_aw 178 5 [.ref 90, .int x1, .int x2, .int (x3 ||| (0 : Int32)), .int (x4 + (1 : Int32))] [] (rx_hp L t hi hl v) Q
      exact k
set_option maxRecDepth 100000 in
/-- CartFloorModel.standing(III)J -/
theorem w179_standing_r {L : Nat} {t : List (Nat × Nat)} {hi : Nat → Nat → Int32} {hl : Nat → Nat → Int64} {v : Nat → Nat → Option Nat} {Q : Option Value → rx_H → Prop} {a0 : Int32} {a1 : Int32} {a2 : Int32} (k : rx_me 180 [.ref 90, .int a0] (rx_hp L t hi hl v) (fun r h2 => ∃ z1 : Int32, r = some (.int z1) ∧ rx_ok2 L t h2 (fun hi1 hl1 v1 => ((z1 = 0 → rx_me 169 [.int a1] (rx_hp L t hi1 hl1 v1) (fun r h2 => ∃ z3 : Int64, r = some (.long z3) ∧ rx_ok2 L t h2 (fun hi3 hl3 v3 => Q (some (.long z3)) (rx_hp L t hi3 hl3 v3)))) ∧ (¬ (z1 = 0) → rx_me 181 [.ref 90, .int a1, .int ((a2 + (2 : Int32)) - (a2 + (2 : Int32)) / (4 : Int32) * (4 : Int32))] (rx_hp L t hi1 hl1 v1) (fun r h2 => ∃ z4 : Int32, r = some (.int z4) ∧ rx_ok2 L t h2 (fun hi4 hl4 v4 => ((0 ≤ z4 → rx_me 169 [.int a1] (rx_hp L t hi4 hl4 v4) (fun r h2 => ∃ z6 : Int64, r = some (.long z6) ∧ rx_ok2 L t h2 (fun hi6 hl6 v6 => rx_me 169 [.int z4] (rx_hp L t hi6 hl6 v6) (fun r h2 => ∃ z7 : Int64, r = some (.long z7) ∧ rx_ok2 L t h2 (fun hi7 hl7 v7 => Q (some (.long (z6 ||| z7))) (rx_hp L t hi7 hl7 v7)))))) ∧ (¬ (0 ≤ z4) → Q (some (.long (0 : Int64))) (rx_hp L t hi4 hl4 v4)))))))))) : rx_me 179 [.ref 90, .int a0, .int a1, .int a2] (rx_hp L t hi hl v) Q := by
  show rx_aw 179 0 [.ref 90, .int a0, .int a1, .int a2, rx_no] [] (rx_hp L t hi hl v) Q
  refine rx_aw_s 2 (pc := 0) rfl ?_
  show rx_aw 179 2 [.ref 90, .int a0, .int a1, .int a2, rx_no] [.int a0, .ref 90] (rx_hp L t hi hl v) Q
  refine rx_w_callI (j := 180) (pc := 2) rfl rfl rfl rfl rfl ?_
  refine rx_aw.mono k (fun r h2 k => ?_)
  obtain ⟨z1, rfl, hi1, hl1, v1, rfl, k⟩ := k
  refine ⟨z1, rfl, ?_⟩
  show rx_aw 179 5 [.ref 90, .int a0, .int a1, .int a2, rx_no] [.int z1] (rx_hp L t hi1 hl1 v1) Q
  refine rx_aw_s 1 (pc := 5) rfl ?_
  refine rx_w_ifn (c := z1 = 0) ⟨fun c2 => ?_, fun c2 => ?_⟩
  · have k := k.1 c2
    show rx_aw 179 8 [.ref 90, .int a0, .int a1, .int a2, rx_no] [] (rx_hp L t hi1 hl1 v1) Q
    refine rx_aw_s 1 (pc := 8) rfl ?_
    show rx_aw 179 9 [.ref 90, .int a0, .int a1, .int a2, rx_no] [.int a1] (rx_hp L t hi1 hl1 v1) Q
    refine rx_w_callL (j := 169) (pc := 9) rfl rfl rfl rfl rfl ?_
    refine rx_aw.mono k (fun r h2 k => ?_)
    obtain ⟨z3, rfl, hi3, hl3, v3, rfl, k⟩ := k
    refine ⟨z3, rfl, ?_⟩
    show rx_aw 179 12 [.ref 90, .int a0, .int a1, .int a2, rx_no] [.long z3] (rx_hp L t hi3 hl3 v3) Q
    exact rx_aw_ret (pc := 12) rfl k
  · have k := k.2 c2
    show rx_aw 179 13 [.ref 90, .int a0, .int a1, .int a2, rx_no] [] (rx_hp L t hi1 hl1 v1) Q
    refine rx_aw_s 6 (pc := 13) rfl ?_
    show rx_aw 179 19 [.ref 90, .int a0, .int a1, .int a2, rx_no] [.int (4 : Int32), .int (a2 + (2 : Int32)), .int a1, .ref 90] (rx_hp L t hi1 hl1 v1) Q
    refine rx_aw_rem (pc := 19) rfl (by decide) ?_
    show rx_aw 179 20 [.ref 90, .int a0, .int a1, .int a2, rx_no] [.int ((a2 + (2 : Int32)) - (a2 + (2 : Int32)) / (4 : Int32) * (4 : Int32)), .int a1, .ref 90] (rx_hp L t hi1 hl1 v1) Q
    refine rx_w_callI (j := 181) (pc := 20) rfl rfl rfl rfl rfl ?_
    refine rx_aw.mono k (fun r h2 k => ?_)
    obtain ⟨z4, rfl, hi4, hl4, v4, rfl, k⟩ := k
    refine ⟨z4, rfl, ?_⟩
    show rx_aw 179 23 [.ref 90, .int a0, .int a1, .int a2, rx_no] [.int z4] (rx_hp L t hi4 hl4 v4) Q
    refine rx_aw_s 3 (pc := 23) rfl ?_
    refine rx_w_if (c := 0 ≤ z4) ⟨fun c5 => ?_, fun c5 => ?_⟩
    · have k := k.1 c5
      show rx_aw 179 34 [.ref 90, .int a0, .int a1, .int a2, .int z4] [] (rx_hp L t hi4 hl4 v4) Q
      refine rx_aw_s 1 (pc := 34) rfl ?_
      show rx_aw 179 35 [.ref 90, .int a0, .int a1, .int a2, .int z4] [.int a1] (rx_hp L t hi4 hl4 v4) Q
      refine rx_w_callL (j := 169) (pc := 35) rfl rfl rfl rfl rfl ?_
      refine rx_aw.mono k (fun r h2 k => ?_)
      obtain ⟨z6, rfl, hi6, hl6, v6, rfl, k⟩ := k
      refine ⟨z6, rfl, ?_⟩
      show rx_aw 179 38 [.ref 90, .int a0, .int a1, .int a2, .int z4] [.long z6] (rx_hp L t hi6 hl6 v6) Q
      refine rx_aw_s 1 (pc := 38) rfl ?_
      show rx_aw 179 40 [.ref 90, .int a0, .int a1, .int a2, .int z4] [.int z4, .long z6] (rx_hp L t hi6 hl6 v6) Q
      refine rx_w_callL (j := 169) (pc := 40) rfl rfl rfl rfl rfl ?_
      refine rx_aw.mono k (fun r h2 k => ?_)
      obtain ⟨z7, rfl, hi7, hl7, v7, rfl, k⟩ := k
      refine ⟨z7, rfl, ?_⟩
      show rx_aw 179 43 [.ref 90, .int a0, .int a1, .int a2, .int z4] [.long z7, .long z6] (rx_hp L t hi7 hl7 v7) Q
      refine rx_aw_s 1 (pc := 43) rfl ?_
      show rx_aw 179 44 [.ref 90, .int a0, .int a1, .int a2, .int z4] [.long (z6 ||| z7)] (rx_hp L t hi7 hl7 v7) Q
      exact rx_aw_ret (pc := 44) rfl k
    · have k := k.2 c5
      show rx_aw 179 30 [.ref 90, .int a0, .int a1, .int a2, .int z4] [] (rx_hp L t hi4 hl4 v4) Q
      refine rx_aw_s 2 (pc := 30) rfl ?_
      show rx_aw 179 44 [.ref 90, .int a0, .int a1, .int a2, .int z4] [.long (0 : Int64)] (rx_hp L t hi4 hl4 v4) Q
      exact rx_aw_ret (pc := 44) rfl k
set_option maxRecDepth 100000 in
/-- CartFloorModel.isTwo(I)Z -/
theorem w180_isTwo_r {L : Nat} {t : List (Nat × Nat)} {hi : Nat → Nat → Int32} {hl : Nat → Nat → Int64} {v : Nat → Nat → Option Nat} {Q : Option Value → rx_H → Prop} {a0 : Int32} (k : ((a0 = (2 : Int32) → Q (some (.int (1 : Int32))) (rx_hp L t hi hl v)) ∧ (¬ (a0 = (2 : Int32)) → ((a0 = (3 : Int32) → Q (some (.int (1 : Int32))) (rx_hp L t hi hl v)) ∧ (¬ (a0 = (3 : Int32)) → Q (some (.int (0 : Int32))) (rx_hp L t hi hl v)))))) : rx_me 180 [.ref 90, .int a0] (rx_hp L t hi hl v) Q := by
  show rx_aw 180 0 [.ref 90, .int a0] [] (rx_hp L t hi hl v) Q
  refine rx_aw_s 3 (pc := 0) rfl ?_
  refine rx_w_if (c := a0 = (2 : Int32)) ⟨fun c1 => ?_, fun c1 => ?_⟩
  · have k := k.1 c1
    show rx_aw 180 10 [.ref 90, .int a0] [] (rx_hp L t hi hl v) Q
    refine rx_aw_s 2 (pc := 10) rfl ?_
    show rx_aw 180 15 [.ref 90, .int a0] [.int (1 : Int32)] (rx_hp L t hi hl v) Q
    exact rx_aw_ret (pc := 15) rfl k
  · have k := k.2 c1
    show rx_aw 180 5 [.ref 90, .int a0] [] (rx_hp L t hi hl v) Q
    refine rx_aw_s 3 (pc := 5) rfl ?_
    refine rx_w_ifn (c := a0 = (3 : Int32)) ⟨fun c2 => ?_, fun c2 => ?_⟩
    · have k := k.1 c2
      show rx_aw 180 10 [.ref 90, .int a0] [] (rx_hp L t hi hl v) Q
      refine rx_aw_s 2 (pc := 10) rfl ?_
      show rx_aw 180 15 [.ref 90, .int a0] [.int (1 : Int32)] (rx_hp L t hi hl v) Q
      exact rx_aw_ret (pc := 15) rfl k
    · have k := k.2 c2
      show rx_aw 180 14 [.ref 90, .int a0] [] (rx_hp L t hi hl v) Q
      refine rx_aw_s 1 (pc := 14) rfl ?_
      show rx_aw 180 15 [.ref 90, .int a0] [.int (0 : Int32)] (rx_hp L t hi hl v) Q
      exact rx_aw_ret (pc := 15) rfl k
set_option maxRecDepth 100000 in
/-- CartFloorModel.step(II)I -/
theorem w181_step_r {L : Nat} {t : List (Nat × Nat)} {hi : Nat → Nat → Int32} {hl : Nat → Nat → Int64} {v : Nat → Nat → Option Nat} {Q : Option Value → rx_H → Prop} {a0 : Int32} {a1 : Int32} (k : (¬ (hi 90 0) = 0 ∧ ((a1 = (1 : Int32) → (¬ (hi 90 0) = 0 ∧ ((a1 = (2 : Int32) → ((a0 < 0 → Q (some (.int (-1 : Int32))) (rx_hp L t hi hl v)) ∧ (¬ (a0 < 0) → rx_me 182 [.ref 90, .int ((a0 - a0 / (hi 90 0) * (hi 90 0)) + (1 : Int32)), .int ((a0 / (hi 90 0)) + (1 : Int32))] (rx_hp L t hi hl v) (fun r h2 => ∃ z4 : Int32, r = some (.int z4) ∧ rx_ok2 L t h2 (fun hi4 hl4 v4 => ((z4 = 0 → Q (some (.int (-1 : Int32))) (rx_hp L t hi4 hl4 v4)) ∧ (¬ (z4 = 0) → Q (some (.int ((((a0 / (hi 90 0)) + (1 : Int32)) * (hi4 90 0)) + ((a0 - a0 / (hi 90 0) * (hi 90 0)) + (1 : Int32))))) (rx_hp L t hi4 hl4 v4)))))))) ∧ (¬ (a1 = (2 : Int32)) → ((a1 = 0 → ((a0 < 0 → Q (some (.int (-1 : Int32))) (rx_hp L t hi hl v)) ∧ (¬ (a0 < 0) → rx_me 182 [.ref 90, .int ((a0 - a0 / (hi 90 0) * (hi 90 0)) + (1 : Int32)), .int ((a0 / (hi 90 0)) + (-1 : Int32))] (rx_hp L t hi hl v) (fun r h2 => ∃ z8 : Int32, r = some (.int z8) ∧ rx_ok2 L t h2 (fun hi8 hl8 v8 => ((z8 = 0 → Q (some (.int (-1 : Int32))) (rx_hp L t hi8 hl8 v8)) ∧ (¬ (z8 = 0) → Q (some (.int ((((a0 / (hi 90 0)) + (-1 : Int32)) * (hi8 90 0)) + ((a0 - a0 / (hi 90 0) * (hi 90 0)) + (1 : Int32))))) (rx_hp L t hi8 hl8 v8)))))))) ∧ (¬ (a1 = 0) → ((a0 < 0 → Q (some (.int (-1 : Int32))) (rx_hp L t hi hl v)) ∧ (¬ (a0 < 0) → rx_me 182 [.ref 90, .int ((a0 - a0 / (hi 90 0) * (hi 90 0)) + (1 : Int32)), .int ((a0 / (hi 90 0)) + (0 : Int32))] (rx_hp L t hi hl v) (fun r h2 => ∃ z11 : Int32, r = some (.int z11) ∧ rx_ok2 L t h2 (fun hi11 hl11 v11 => ((z11 = 0 → Q (some (.int (-1 : Int32))) (rx_hp L t hi11 hl11 v11)) ∧ (¬ (z11 = 0) → Q (some (.int ((((a0 / (hi 90 0)) + (0 : Int32)) * (hi11 90 0)) + ((a0 - a0 / (hi 90 0) * (hi 90 0)) + (1 : Int32))))) (rx_hp L t hi11 hl11 v11))))))))))))) ∧ (¬ (a1 = (1 : Int32)) → ((a1 = (3 : Int32) → (¬ (hi 90 0) = 0 ∧ ((a1 = (2 : Int32) → ((a0 < 0 → Q (some (.int (-1 : Int32))) (rx_hp L t hi hl v)) ∧ (¬ (a0 < 0) → rx_me 182 [.ref 90, .int ((a0 - a0 / (hi 90 0) * (hi 90 0)) + (-1 : Int32)), .int ((a0 / (hi 90 0)) + (1 : Int32))] (rx_hp L t hi hl v) (fun r h2 => ∃ z16 : Int32, r = some (.int z16) ∧ rx_ok2 L t h2 (fun hi16 hl16 v16 => ((z16 = 0 → Q (some (.int (-1 : Int32))) (rx_hp L t hi16 hl16 v16)) ∧ (¬ (z16 = 0) → Q (some (.int ((((a0 / (hi 90 0)) + (1 : Int32)) * (hi16 90 0)) + ((a0 - a0 / (hi 90 0) * (hi 90 0)) + (-1 : Int32))))) (rx_hp L t hi16 hl16 v16)))))))) ∧ (¬ (a1 = (2 : Int32)) → ((a1 = 0 → ((a0 < 0 → Q (some (.int (-1 : Int32))) (rx_hp L t hi hl v)) ∧ (¬ (a0 < 0) → rx_me 182 [.ref 90, .int ((a0 - a0 / (hi 90 0) * (hi 90 0)) + (-1 : Int32)), .int ((a0 / (hi 90 0)) + (-1 : Int32))] (rx_hp L t hi hl v) (fun r h2 => ∃ z20 : Int32, r = some (.int z20) ∧ rx_ok2 L t h2 (fun hi20 hl20 v20 => ((z20 = 0 → Q (some (.int (-1 : Int32))) (rx_hp L t hi20 hl20 v20)) ∧ (¬ (z20 = 0) → Q (some (.int ((((a0 / (hi 90 0)) + (-1 : Int32)) * (hi20 90 0)) + ((a0 - a0 / (hi 90 0) * (hi 90 0)) + (-1 : Int32))))) (rx_hp L t hi20 hl20 v20)))))))) ∧ (¬ (a1 = 0) → ((a0 < 0 → Q (some (.int (-1 : Int32))) (rx_hp L t hi hl v)) ∧ (¬ (a0 < 0) → rx_me 182 [.ref 90, .int ((a0 - a0 / (hi 90 0) * (hi 90 0)) + (-1 : Int32)), .int ((a0 / (hi 90 0)) + (0 : Int32))] (rx_hp L t hi hl v) (fun r h2 => ∃ z23 : Int32, r = some (.int z23) ∧ rx_ok2 L t h2 (fun hi23 hl23 v23 => ((z23 = 0 → Q (some (.int (-1 : Int32))) (rx_hp L t hi23 hl23 v23)) ∧ (¬ (z23 = 0) → Q (some (.int ((((a0 / (hi 90 0)) + (0 : Int32)) * (hi23 90 0)) + ((a0 - a0 / (hi 90 0) * (hi 90 0)) + (-1 : Int32))))) (rx_hp L t hi23 hl23 v23))))))))))))) ∧ (¬ (a1 = (3 : Int32)) → (¬ (hi 90 0) = 0 ∧ ((a1 = (2 : Int32) → ((a0 < 0 → Q (some (.int (-1 : Int32))) (rx_hp L t hi hl v)) ∧ (¬ (a0 < 0) → rx_me 182 [.ref 90, .int ((a0 - a0 / (hi 90 0) * (hi 90 0)) + (0 : Int32)), .int ((a0 / (hi 90 0)) + (1 : Int32))] (rx_hp L t hi hl v) (fun r h2 => ∃ z27 : Int32, r = some (.int z27) ∧ rx_ok2 L t h2 (fun hi27 hl27 v27 => ((z27 = 0 → Q (some (.int (-1 : Int32))) (rx_hp L t hi27 hl27 v27)) ∧ (¬ (z27 = 0) → Q (some (.int ((((a0 / (hi 90 0)) + (1 : Int32)) * (hi27 90 0)) + ((a0 - a0 / (hi 90 0) * (hi 90 0)) + (0 : Int32))))) (rx_hp L t hi27 hl27 v27)))))))) ∧ (¬ (a1 = (2 : Int32)) → ((a1 = 0 → ((a0 < 0 → Q (some (.int (-1 : Int32))) (rx_hp L t hi hl v)) ∧ (¬ (a0 < 0) → rx_me 182 [.ref 90, .int ((a0 - a0 / (hi 90 0) * (hi 90 0)) + (0 : Int32)), .int ((a0 / (hi 90 0)) + (-1 : Int32))] (rx_hp L t hi hl v) (fun r h2 => ∃ z31 : Int32, r = some (.int z31) ∧ rx_ok2 L t h2 (fun hi31 hl31 v31 => ((z31 = 0 → Q (some (.int (-1 : Int32))) (rx_hp L t hi31 hl31 v31)) ∧ (¬ (z31 = 0) → Q (some (.int ((((a0 / (hi 90 0)) + (-1 : Int32)) * (hi31 90 0)) + ((a0 - a0 / (hi 90 0) * (hi 90 0)) + (0 : Int32))))) (rx_hp L t hi31 hl31 v31)))))))) ∧ (¬ (a1 = 0) → ((a0 < 0 → Q (some (.int (-1 : Int32))) (rx_hp L t hi hl v)) ∧ (¬ (a0 < 0) → rx_me 182 [.ref 90, .int ((a0 - a0 / (hi 90 0) * (hi 90 0)) + (0 : Int32)), .int ((a0 / (hi 90 0)) + (0 : Int32))] (rx_hp L t hi hl v) (fun r h2 => ∃ z34 : Int32, r = some (.int z34) ∧ rx_ok2 L t h2 (fun hi34 hl34 v34 => ((z34 = 0 → Q (some (.int (-1 : Int32))) (rx_hp L t hi34 hl34 v34)) ∧ (¬ (z34 = 0) → Q (some (.int ((((a0 / (hi 90 0)) + (0 : Int32)) * (hi34 90 0)) + ((a0 - a0 / (hi 90 0) * (hi 90 0)) + (0 : Int32))))) (rx_hp L t hi34 hl34 v34)))))))))))))))))) : rx_me 181 [.ref 90, .int a0, .int a1] (rx_hp L t hi hl v) Q := by
  show rx_aw 181 0 [.ref 90, .int a0, .int a1, rx_no, rx_no] [] (rx_hp L t hi hl v) Q
  refine rx_aw_s 3 (pc := 0) rfl ?_
  show rx_aw 181 5 [.ref 90, .int a0, .int a1, rx_no, rx_no] [.int (hi 90 0), .int a0] (rx_hp L t hi hl v) Q
  refine rx_aw_rem (pc := 5) rfl k.1 ?_
  have k := k.2
  show rx_aw 181 6 [.ref 90, .int a0, .int a1, rx_no, rx_no] [.int (a0 - a0 / (hi 90 0) * (hi 90 0))] (rx_hp L t hi hl v) Q
  refine rx_aw_s 3 (pc := 6) rfl ?_
  refine rx_w_ifn (c := a1 = (1 : Int32)) ⟨fun c1 => ?_, fun c1 => ?_⟩
  · have k := k.1 c1
    show rx_aw 181 11 [.ref 90, .int a0, .int a1, rx_no, rx_no] [.int (a0 - a0 / (hi 90 0) * (hi 90 0))] (rx_hp L t hi hl v) Q
    refine rx_aw_s 7 (pc := 11) rfl ?_
    show rx_aw 181 32 [.ref 90, .int a0, .int a1, .int ((a0 - a0 / (hi 90 0) * (hi 90 0)) + (1 : Int32)), rx_no] [.int (hi 90 0), .int a0] (rx_hp L t hi hl v) Q
    refine rx_aw_div (pc := 32) rfl k.1 ?_
    have k := k.2
    show rx_aw 181 33 [.ref 90, .int a0, .int a1, .int ((a0 - a0 / (hi 90 0) * (hi 90 0)) + (1 : Int32)), rx_no] [.int (a0 / (hi 90 0))] (rx_hp L t hi hl v) Q
    refine rx_aw_s 3 (pc := 33) rfl ?_
    refine rx_w_ifn (c := a1 = (2 : Int32)) ⟨fun c2 => ?_, fun c2 => ?_⟩
    · have k := k.1 c2
      show rx_aw 181 38 [.ref 90, .int a0, .int a1, .int ((a0 - a0 / (hi 90 0) * (hi 90 0)) + (1 : Int32)), rx_no] [.int (a0 / (hi 90 0))] (rx_hp L t hi hl v) Q
      refine rx_aw_s 6 (pc := 38) rfl ?_
      refine rx_w_if (c := a0 < 0) ⟨fun c3 => ?_, fun c3 => ?_⟩
      · have k := k.1 c3
        show rx_aw 181 80 [.ref 90, .int a0, .int a1, .int ((a0 - a0 / (hi 90 0) * (hi 90 0)) + (1 : Int32)), .int ((a0 / (hi 90 0)) + (1 : Int32))] [] (rx_hp L t hi hl v) Q
        refine rx_aw_s 1 (pc := 80) rfl ?_
        show rx_aw 181 81 [.ref 90, .int a0, .int a1, .int ((a0 - a0 / (hi 90 0) * (hi 90 0)) + (1 : Int32)), .int ((a0 / (hi 90 0)) + (1 : Int32))] [.int (-1 : Int32)] (rx_hp L t hi hl v) Q
        exact rx_aw_ret (pc := 81) rfl k
      · have k := k.2 c3
        show rx_aw 181 58 [.ref 90, .int a0, .int a1, .int ((a0 - a0 / (hi 90 0) * (hi 90 0)) + (1 : Int32)), .int ((a0 / (hi 90 0)) + (1 : Int32))] [] (rx_hp L t hi hl v) Q
        refine rx_aw_s 3 (pc := 58) rfl ?_
        show rx_aw 181 62 [.ref 90, .int a0, .int a1, .int ((a0 - a0 / (hi 90 0) * (hi 90 0)) + (1 : Int32)), .int ((a0 / (hi 90 0)) + (1 : Int32))] [.int ((a0 / (hi 90 0)) + (1 : Int32)), .int ((a0 - a0 / (hi 90 0) * (hi 90 0)) + (1 : Int32)), .ref 90] (rx_hp L t hi hl v) Q
        refine rx_w_callI (j := 182) (pc := 62) rfl rfl rfl rfl rfl ?_
        refine rx_aw.mono k (fun r h2 k => ?_)
        obtain ⟨z4, rfl, hi4, hl4, v4, rfl, k⟩ := k
        refine ⟨z4, rfl, ?_⟩
        show rx_aw 181 65 [.ref 90, .int a0, .int a1, .int ((a0 - a0 / (hi 90 0) * (hi 90 0)) + (1 : Int32)), .int ((a0 / (hi 90 0)) + (1 : Int32))] [.int z4] (rx_hp L t hi4 hl4 v4) Q
        refine rx_aw_s 1 (pc := 65) rfl ?_
        refine rx_w_if (c := z4 = 0) ⟨fun c5 => ?_, fun c5 => ?_⟩
        · have k := k.1 c5
          show rx_aw 181 80 [.ref 90, .int a0, .int a1, .int ((a0 - a0 / (hi 90 0) * (hi 90 0)) + (1 : Int32)), .int ((a0 / (hi 90 0)) + (1 : Int32))] [] (rx_hp L t hi4 hl4 v4) Q
          refine rx_aw_s 1 (pc := 80) rfl ?_
          show rx_aw 181 81 [.ref 90, .int a0, .int a1, .int ((a0 - a0 / (hi 90 0) * (hi 90 0)) + (1 : Int32)), .int ((a0 / (hi 90 0)) + (1 : Int32))] [.int (-1 : Int32)] (rx_hp L t hi4 hl4 v4) Q
          exact rx_aw_ret (pc := 81) rfl k
        · have k := k.2 c5
          show rx_aw 181 68 [.ref 90, .int a0, .int a1, .int ((a0 - a0 / (hi 90 0) * (hi 90 0)) + (1 : Int32)), .int ((a0 / (hi 90 0)) + (1 : Int32))] [] (rx_hp L t hi4 hl4 v4) Q
          refine rx_aw_s 7 (pc := 68) rfl ?_
          show rx_aw 181 81 [.ref 90, .int a0, .int a1, .int ((a0 - a0 / (hi 90 0) * (hi 90 0)) + (1 : Int32)), .int ((a0 / (hi 90 0)) + (1 : Int32))] [.int ((((a0 / (hi 90 0)) + (1 : Int32)) * (hi4 90 0)) + ((a0 - a0 / (hi 90 0) * (hi 90 0)) + (1 : Int32)))] (rx_hp L t hi4 hl4 v4) Q
          exact rx_aw_ret (pc := 81) rfl k
    · have k := k.2 c2
      show rx_aw 181 42 [.ref 90, .int a0, .int a1, .int ((a0 - a0 / (hi 90 0) * (hi 90 0)) + (1 : Int32)), rx_no] [.int (a0 / (hi 90 0))] (rx_hp L t hi hl v) Q
      refine rx_aw_s 2 (pc := 42) rfl ?_
      refine rx_w_ifn (c := a1 = 0) ⟨fun c6 => ?_, fun c6 => ?_⟩
      · have k := k.1 c6
        show rx_aw 181 46 [.ref 90, .int a0, .int a1, .int ((a0 - a0 / (hi 90 0) * (hi 90 0)) + (1 : Int32)), rx_no] [.int (a0 / (hi 90 0))] (rx_hp L t hi hl v) Q
        refine rx_aw_s 6 (pc := 46) rfl ?_
        refine rx_w_if (c := a0 < 0) ⟨fun c7 => ?_, fun c7 => ?_⟩
        · have k := k.1 c7
          show rx_aw 181 80 [.ref 90, .int a0, .int a1, .int ((a0 - a0 / (hi 90 0) * (hi 90 0)) + (1 : Int32)), .int ((a0 / (hi 90 0)) + (-1 : Int32))] [] (rx_hp L t hi hl v) Q
          refine rx_aw_s 1 (pc := 80) rfl ?_
          show rx_aw 181 81 [.ref 90, .int a0, .int a1, .int ((a0 - a0 / (hi 90 0) * (hi 90 0)) + (1 : Int32)), .int ((a0 / (hi 90 0)) + (-1 : Int32))] [.int (-1 : Int32)] (rx_hp L t hi hl v) Q
          exact rx_aw_ret (pc := 81) rfl k
        · have k := k.2 c7
          show rx_aw 181 58 [.ref 90, .int a0, .int a1, .int ((a0 - a0 / (hi 90 0) * (hi 90 0)) + (1 : Int32)), .int ((a0 / (hi 90 0)) + (-1 : Int32))] [] (rx_hp L t hi hl v) Q
          refine rx_aw_s 3 (pc := 58) rfl ?_
          show rx_aw 181 62 [.ref 90, .int a0, .int a1, .int ((a0 - a0 / (hi 90 0) * (hi 90 0)) + (1 : Int32)), .int ((a0 / (hi 90 0)) + (-1 : Int32))] [.int ((a0 / (hi 90 0)) + (-1 : Int32)), .int ((a0 - a0 / (hi 90 0) * (hi 90 0)) + (1 : Int32)), .ref 90] (rx_hp L t hi hl v) Q
          refine rx_w_callI (j := 182) (pc := 62) rfl rfl rfl rfl rfl ?_
          refine rx_aw.mono k (fun r h2 k => ?_)
          obtain ⟨z8, rfl, hi8, hl8, v8, rfl, k⟩ := k
          refine ⟨z8, rfl, ?_⟩
          show rx_aw 181 65 [.ref 90, .int a0, .int a1, .int ((a0 - a0 / (hi 90 0) * (hi 90 0)) + (1 : Int32)), .int ((a0 / (hi 90 0)) + (-1 : Int32))] [.int z8] (rx_hp L t hi8 hl8 v8) Q
          refine rx_aw_s 1 (pc := 65) rfl ?_
          refine rx_w_if (c := z8 = 0) ⟨fun c9 => ?_, fun c9 => ?_⟩
          · have k := k.1 c9
            show rx_aw 181 80 [.ref 90, .int a0, .int a1, .int ((a0 - a0 / (hi 90 0) * (hi 90 0)) + (1 : Int32)), .int ((a0 / (hi 90 0)) + (-1 : Int32))] [] (rx_hp L t hi8 hl8 v8) Q
            refine rx_aw_s 1 (pc := 80) rfl ?_
            show rx_aw 181 81 [.ref 90, .int a0, .int a1, .int ((a0 - a0 / (hi 90 0) * (hi 90 0)) + (1 : Int32)), .int ((a0 / (hi 90 0)) + (-1 : Int32))] [.int (-1 : Int32)] (rx_hp L t hi8 hl8 v8) Q
            exact rx_aw_ret (pc := 81) rfl k
          · have k := k.2 c9
            show rx_aw 181 68 [.ref 90, .int a0, .int a1, .int ((a0 - a0 / (hi 90 0) * (hi 90 0)) + (1 : Int32)), .int ((a0 / (hi 90 0)) + (-1 : Int32))] [] (rx_hp L t hi8 hl8 v8) Q
            refine rx_aw_s 7 (pc := 68) rfl ?_
            show rx_aw 181 81 [.ref 90, .int a0, .int a1, .int ((a0 - a0 / (hi 90 0) * (hi 90 0)) + (1 : Int32)), .int ((a0 / (hi 90 0)) + (-1 : Int32))] [.int ((((a0 / (hi 90 0)) + (-1 : Int32)) * (hi8 90 0)) + ((a0 - a0 / (hi 90 0) * (hi 90 0)) + (1 : Int32)))] (rx_hp L t hi8 hl8 v8) Q
            exact rx_aw_ret (pc := 81) rfl k
      · have k := k.2 c6
        show rx_aw 181 50 [.ref 90, .int a0, .int a1, .int ((a0 - a0 / (hi 90 0) * (hi 90 0)) + (1 : Int32)), rx_no] [.int (a0 / (hi 90 0))] (rx_hp L t hi hl v) Q
        refine rx_aw_s 5 (pc := 50) rfl ?_
        refine rx_w_if (c := a0 < 0) ⟨fun c10 => ?_, fun c10 => ?_⟩
        · have k := k.1 c10
          show rx_aw 181 80 [.ref 90, .int a0, .int a1, .int ((a0 - a0 / (hi 90 0) * (hi 90 0)) + (1 : Int32)), .int ((a0 / (hi 90 0)) + (0 : Int32))] [] (rx_hp L t hi hl v) Q
          refine rx_aw_s 1 (pc := 80) rfl ?_
          show rx_aw 181 81 [.ref 90, .int a0, .int a1, .int ((a0 - a0 / (hi 90 0) * (hi 90 0)) + (1 : Int32)), .int ((a0 / (hi 90 0)) + (0 : Int32))] [.int (-1 : Int32)] (rx_hp L t hi hl v) Q
          exact rx_aw_ret (pc := 81) rfl k
        · have k := k.2 c10
          show rx_aw 181 58 [.ref 90, .int a0, .int a1, .int ((a0 - a0 / (hi 90 0) * (hi 90 0)) + (1 : Int32)), .int ((a0 / (hi 90 0)) + (0 : Int32))] [] (rx_hp L t hi hl v) Q
          refine rx_aw_s 3 (pc := 58) rfl ?_
          show rx_aw 181 62 [.ref 90, .int a0, .int a1, .int ((a0 - a0 / (hi 90 0) * (hi 90 0)) + (1 : Int32)), .int ((a0 / (hi 90 0)) + (0 : Int32))] [.int ((a0 / (hi 90 0)) + (0 : Int32)), .int ((a0 - a0 / (hi 90 0) * (hi 90 0)) + (1 : Int32)), .ref 90] (rx_hp L t hi hl v) Q
          refine rx_w_callI (j := 182) (pc := 62) rfl rfl rfl rfl rfl ?_
          refine rx_aw.mono k (fun r h2 k => ?_)
          obtain ⟨z11, rfl, hi11, hl11, v11, rfl, k⟩ := k
          refine ⟨z11, rfl, ?_⟩
          show rx_aw 181 65 [.ref 90, .int a0, .int a1, .int ((a0 - a0 / (hi 90 0) * (hi 90 0)) + (1 : Int32)), .int ((a0 / (hi 90 0)) + (0 : Int32))] [.int z11] (rx_hp L t hi11 hl11 v11) Q
          refine rx_aw_s 1 (pc := 65) rfl ?_
          refine rx_w_if (c := z11 = 0) ⟨fun c12 => ?_, fun c12 => ?_⟩
          · have k := k.1 c12
            show rx_aw 181 80 [.ref 90, .int a0, .int a1, .int ((a0 - a0 / (hi 90 0) * (hi 90 0)) + (1 : Int32)), .int ((a0 / (hi 90 0)) + (0 : Int32))] [] (rx_hp L t hi11 hl11 v11) Q
            refine rx_aw_s 1 (pc := 80) rfl ?_
            show rx_aw 181 81 [.ref 90, .int a0, .int a1, .int ((a0 - a0 / (hi 90 0) * (hi 90 0)) + (1 : Int32)), .int ((a0 / (hi 90 0)) + (0 : Int32))] [.int (-1 : Int32)] (rx_hp L t hi11 hl11 v11) Q
            exact rx_aw_ret (pc := 81) rfl k
          · have k := k.2 c12
            show rx_aw 181 68 [.ref 90, .int a0, .int a1, .int ((a0 - a0 / (hi 90 0) * (hi 90 0)) + (1 : Int32)), .int ((a0 / (hi 90 0)) + (0 : Int32))] [] (rx_hp L t hi11 hl11 v11) Q
            refine rx_aw_s 7 (pc := 68) rfl ?_
            show rx_aw 181 81 [.ref 90, .int a0, .int a1, .int ((a0 - a0 / (hi 90 0) * (hi 90 0)) + (1 : Int32)), .int ((a0 / (hi 90 0)) + (0 : Int32))] [.int ((((a0 / (hi 90 0)) + (0 : Int32)) * (hi11 90 0)) + ((a0 - a0 / (hi 90 0) * (hi 90 0)) + (1 : Int32)))] (rx_hp L t hi11 hl11 v11) Q
            exact rx_aw_ret (pc := 81) rfl k
  · have k := k.2 c1
    show rx_aw 181 15 [.ref 90, .int a0, .int a1, rx_no, rx_no] [.int (a0 - a0 / (hi 90 0) * (hi 90 0))] (rx_hp L t hi hl v) Q
    refine rx_aw_s 3 (pc := 15) rfl ?_
    refine rx_w_ifn (c := a1 = (3 : Int32)) ⟨fun c13 => ?_, fun c13 => ?_⟩
    · have k := k.1 c13
      show rx_aw 181 20 [.ref 90, .int a0, .int a1, rx_no, rx_no] [.int (a0 - a0 / (hi 90 0) * (hi 90 0))] (rx_hp L t hi hl v) Q
      refine rx_aw_s 7 (pc := 20) rfl ?_
      show rx_aw 181 32 [.ref 90, .int a0, .int a1, .int ((a0 - a0 / (hi 90 0) * (hi 90 0)) + (-1 : Int32)), rx_no] [.int (hi 90 0), .int a0] (rx_hp L t hi hl v) Q
      refine rx_aw_div (pc := 32) rfl k.1 ?_
      have k := k.2
      show rx_aw 181 33 [.ref 90, .int a0, .int a1, .int ((a0 - a0 / (hi 90 0) * (hi 90 0)) + (-1 : Int32)), rx_no] [.int (a0 / (hi 90 0))] (rx_hp L t hi hl v) Q
      refine rx_aw_s 3 (pc := 33) rfl ?_
      refine rx_w_ifn (c := a1 = (2 : Int32)) ⟨fun c14 => ?_, fun c14 => ?_⟩
      · have k := k.1 c14
        show rx_aw 181 38 [.ref 90, .int a0, .int a1, .int ((a0 - a0 / (hi 90 0) * (hi 90 0)) + (-1 : Int32)), rx_no] [.int (a0 / (hi 90 0))] (rx_hp L t hi hl v) Q
        refine rx_aw_s 6 (pc := 38) rfl ?_
        refine rx_w_if (c := a0 < 0) ⟨fun c15 => ?_, fun c15 => ?_⟩
        · have k := k.1 c15
          show rx_aw 181 80 [.ref 90, .int a0, .int a1, .int ((a0 - a0 / (hi 90 0) * (hi 90 0)) + (-1 : Int32)), .int ((a0 / (hi 90 0)) + (1 : Int32))] [] (rx_hp L t hi hl v) Q
          refine rx_aw_s 1 (pc := 80) rfl ?_
          show rx_aw 181 81 [.ref 90, .int a0, .int a1, .int ((a0 - a0 / (hi 90 0) * (hi 90 0)) + (-1 : Int32)), .int ((a0 / (hi 90 0)) + (1 : Int32))] [.int (-1 : Int32)] (rx_hp L t hi hl v) Q
          exact rx_aw_ret (pc := 81) rfl k
        · have k := k.2 c15
          show rx_aw 181 58 [.ref 90, .int a0, .int a1, .int ((a0 - a0 / (hi 90 0) * (hi 90 0)) + (-1 : Int32)), .int ((a0 / (hi 90 0)) + (1 : Int32))] [] (rx_hp L t hi hl v) Q
          refine rx_aw_s 3 (pc := 58) rfl ?_
          show rx_aw 181 62 [.ref 90, .int a0, .int a1, .int ((a0 - a0 / (hi 90 0) * (hi 90 0)) + (-1 : Int32)), .int ((a0 / (hi 90 0)) + (1 : Int32))] [.int ((a0 / (hi 90 0)) + (1 : Int32)), .int ((a0 - a0 / (hi 90 0) * (hi 90 0)) + (-1 : Int32)), .ref 90] (rx_hp L t hi hl v) Q
          refine rx_w_callI (j := 182) (pc := 62) rfl rfl rfl rfl rfl ?_
          refine rx_aw.mono k (fun r h2 k => ?_)
          obtain ⟨z16, rfl, hi16, hl16, v16, rfl, k⟩ := k
          refine ⟨z16, rfl, ?_⟩
          show rx_aw 181 65 [.ref 90, .int a0, .int a1, .int ((a0 - a0 / (hi 90 0) * (hi 90 0)) + (-1 : Int32)), .int ((a0 / (hi 90 0)) + (1 : Int32))] [.int z16] (rx_hp L t hi16 hl16 v16) Q
          refine rx_aw_s 1 (pc := 65) rfl ?_
          refine rx_w_if (c := z16 = 0) ⟨fun c17 => ?_, fun c17 => ?_⟩
          · have k := k.1 c17
            show rx_aw 181 80 [.ref 90, .int a0, .int a1, .int ((a0 - a0 / (hi 90 0) * (hi 90 0)) + (-1 : Int32)), .int ((a0 / (hi 90 0)) + (1 : Int32))] [] (rx_hp L t hi16 hl16 v16) Q
            refine rx_aw_s 1 (pc := 80) rfl ?_
            show rx_aw 181 81 [.ref 90, .int a0, .int a1, .int ((a0 - a0 / (hi 90 0) * (hi 90 0)) + (-1 : Int32)), .int ((a0 / (hi 90 0)) + (1 : Int32))] [.int (-1 : Int32)] (rx_hp L t hi16 hl16 v16) Q
            exact rx_aw_ret (pc := 81) rfl k
          · have k := k.2 c17
            show rx_aw 181 68 [.ref 90, .int a0, .int a1, .int ((a0 - a0 / (hi 90 0) * (hi 90 0)) + (-1 : Int32)), .int ((a0 / (hi 90 0)) + (1 : Int32))] [] (rx_hp L t hi16 hl16 v16) Q
            refine rx_aw_s 7 (pc := 68) rfl ?_
            show rx_aw 181 81 [.ref 90, .int a0, .int a1, .int ((a0 - a0 / (hi 90 0) * (hi 90 0)) + (-1 : Int32)), .int ((a0 / (hi 90 0)) + (1 : Int32))] [.int ((((a0 / (hi 90 0)) + (1 : Int32)) * (hi16 90 0)) + ((a0 - a0 / (hi 90 0) * (hi 90 0)) + (-1 : Int32)))] (rx_hp L t hi16 hl16 v16) Q
            exact rx_aw_ret (pc := 81) rfl k
      · have k := k.2 c14
        show rx_aw 181 42 [.ref 90, .int a0, .int a1, .int ((a0 - a0 / (hi 90 0) * (hi 90 0)) + (-1 : Int32)), rx_no] [.int (a0 / (hi 90 0))] (rx_hp L t hi hl v) Q
        refine rx_aw_s 2 (pc := 42) rfl ?_
        refine rx_w_ifn (c := a1 = 0) ⟨fun c18 => ?_, fun c18 => ?_⟩
        · have k := k.1 c18
          show rx_aw 181 46 [.ref 90, .int a0, .int a1, .int ((a0 - a0 / (hi 90 0) * (hi 90 0)) + (-1 : Int32)), rx_no] [.int (a0 / (hi 90 0))] (rx_hp L t hi hl v) Q
          refine rx_aw_s 6 (pc := 46) rfl ?_
          refine rx_w_if (c := a0 < 0) ⟨fun c19 => ?_, fun c19 => ?_⟩
          · have k := k.1 c19
            show rx_aw 181 80 [.ref 90, .int a0, .int a1, .int ((a0 - a0 / (hi 90 0) * (hi 90 0)) + (-1 : Int32)), .int ((a0 / (hi 90 0)) + (-1 : Int32))] [] (rx_hp L t hi hl v) Q
            refine rx_aw_s 1 (pc := 80) rfl ?_
            show rx_aw 181 81 [.ref 90, .int a0, .int a1, .int ((a0 - a0 / (hi 90 0) * (hi 90 0)) + (-1 : Int32)), .int ((a0 / (hi 90 0)) + (-1 : Int32))] [.int (-1 : Int32)] (rx_hp L t hi hl v) Q
            exact rx_aw_ret (pc := 81) rfl k
          · have k := k.2 c19
            show rx_aw 181 58 [.ref 90, .int a0, .int a1, .int ((a0 - a0 / (hi 90 0) * (hi 90 0)) + (-1 : Int32)), .int ((a0 / (hi 90 0)) + (-1 : Int32))] [] (rx_hp L t hi hl v) Q
            refine rx_aw_s 3 (pc := 58) rfl ?_
            show rx_aw 181 62 [.ref 90, .int a0, .int a1, .int ((a0 - a0 / (hi 90 0) * (hi 90 0)) + (-1 : Int32)), .int ((a0 / (hi 90 0)) + (-1 : Int32))] [.int ((a0 / (hi 90 0)) + (-1 : Int32)), .int ((a0 - a0 / (hi 90 0) * (hi 90 0)) + (-1 : Int32)), .ref 90] (rx_hp L t hi hl v) Q
            refine rx_w_callI (j := 182) (pc := 62) rfl rfl rfl rfl rfl ?_
            refine rx_aw.mono k (fun r h2 k => ?_)
            obtain ⟨z20, rfl, hi20, hl20, v20, rfl, k⟩ := k
            refine ⟨z20, rfl, ?_⟩
            show rx_aw 181 65 [.ref 90, .int a0, .int a1, .int ((a0 - a0 / (hi 90 0) * (hi 90 0)) + (-1 : Int32)), .int ((a0 / (hi 90 0)) + (-1 : Int32))] [.int z20] (rx_hp L t hi20 hl20 v20) Q
            refine rx_aw_s 1 (pc := 65) rfl ?_
            refine rx_w_if (c := z20 = 0) ⟨fun c21 => ?_, fun c21 => ?_⟩
            · have k := k.1 c21
              show rx_aw 181 80 [.ref 90, .int a0, .int a1, .int ((a0 - a0 / (hi 90 0) * (hi 90 0)) + (-1 : Int32)), .int ((a0 / (hi 90 0)) + (-1 : Int32))] [] (rx_hp L t hi20 hl20 v20) Q
              refine rx_aw_s 1 (pc := 80) rfl ?_
              show rx_aw 181 81 [.ref 90, .int a0, .int a1, .int ((a0 - a0 / (hi 90 0) * (hi 90 0)) + (-1 : Int32)), .int ((a0 / (hi 90 0)) + (-1 : Int32))] [.int (-1 : Int32)] (rx_hp L t hi20 hl20 v20) Q
              exact rx_aw_ret (pc := 81) rfl k
            · have k := k.2 c21
              show rx_aw 181 68 [.ref 90, .int a0, .int a1, .int ((a0 - a0 / (hi 90 0) * (hi 90 0)) + (-1 : Int32)), .int ((a0 / (hi 90 0)) + (-1 : Int32))] [] (rx_hp L t hi20 hl20 v20) Q
              refine rx_aw_s 7 (pc := 68) rfl ?_
              show rx_aw 181 81 [.ref 90, .int a0, .int a1, .int ((a0 - a0 / (hi 90 0) * (hi 90 0)) + (-1 : Int32)), .int ((a0 / (hi 90 0)) + (-1 : Int32))] [.int ((((a0 / (hi 90 0)) + (-1 : Int32)) * (hi20 90 0)) + ((a0 - a0 / (hi 90 0) * (hi 90 0)) + (-1 : Int32)))] (rx_hp L t hi20 hl20 v20) Q
              exact rx_aw_ret (pc := 81) rfl k
        · have k := k.2 c18
          show rx_aw 181 50 [.ref 90, .int a0, .int a1, .int ((a0 - a0 / (hi 90 0) * (hi 90 0)) + (-1 : Int32)), rx_no] [.int (a0 / (hi 90 0))] (rx_hp L t hi hl v) Q
          refine rx_aw_s 5 (pc := 50) rfl ?_
          refine rx_w_if (c := a0 < 0) ⟨fun c22 => ?_, fun c22 => ?_⟩
          · have k := k.1 c22
            show rx_aw 181 80 [.ref 90, .int a0, .int a1, .int ((a0 - a0 / (hi 90 0) * (hi 90 0)) + (-1 : Int32)), .int ((a0 / (hi 90 0)) + (0 : Int32))] [] (rx_hp L t hi hl v) Q
            refine rx_aw_s 1 (pc := 80) rfl ?_
            show rx_aw 181 81 [.ref 90, .int a0, .int a1, .int ((a0 - a0 / (hi 90 0) * (hi 90 0)) + (-1 : Int32)), .int ((a0 / (hi 90 0)) + (0 : Int32))] [.int (-1 : Int32)] (rx_hp L t hi hl v) Q
            exact rx_aw_ret (pc := 81) rfl k
          · have k := k.2 c22
            show rx_aw 181 58 [.ref 90, .int a0, .int a1, .int ((a0 - a0 / (hi 90 0) * (hi 90 0)) + (-1 : Int32)), .int ((a0 / (hi 90 0)) + (0 : Int32))] [] (rx_hp L t hi hl v) Q
            refine rx_aw_s 3 (pc := 58) rfl ?_
            show rx_aw 181 62 [.ref 90, .int a0, .int a1, .int ((a0 - a0 / (hi 90 0) * (hi 90 0)) + (-1 : Int32)), .int ((a0 / (hi 90 0)) + (0 : Int32))] [.int ((a0 / (hi 90 0)) + (0 : Int32)), .int ((a0 - a0 / (hi 90 0) * (hi 90 0)) + (-1 : Int32)), .ref 90] (rx_hp L t hi hl v) Q
            refine rx_w_callI (j := 182) (pc := 62) rfl rfl rfl rfl rfl ?_
            refine rx_aw.mono k (fun r h2 k => ?_)
            obtain ⟨z23, rfl, hi23, hl23, v23, rfl, k⟩ := k
            refine ⟨z23, rfl, ?_⟩
            show rx_aw 181 65 [.ref 90, .int a0, .int a1, .int ((a0 - a0 / (hi 90 0) * (hi 90 0)) + (-1 : Int32)), .int ((a0 / (hi 90 0)) + (0 : Int32))] [.int z23] (rx_hp L t hi23 hl23 v23) Q
            refine rx_aw_s 1 (pc := 65) rfl ?_
            refine rx_w_if (c := z23 = 0) ⟨fun c24 => ?_, fun c24 => ?_⟩
            · have k := k.1 c24
              show rx_aw 181 80 [.ref 90, .int a0, .int a1, .int ((a0 - a0 / (hi 90 0) * (hi 90 0)) + (-1 : Int32)), .int ((a0 / (hi 90 0)) + (0 : Int32))] [] (rx_hp L t hi23 hl23 v23) Q
              refine rx_aw_s 1 (pc := 80) rfl ?_
              show rx_aw 181 81 [.ref 90, .int a0, .int a1, .int ((a0 - a0 / (hi 90 0) * (hi 90 0)) + (-1 : Int32)), .int ((a0 / (hi 90 0)) + (0 : Int32))] [.int (-1 : Int32)] (rx_hp L t hi23 hl23 v23) Q
              exact rx_aw_ret (pc := 81) rfl k
            · have k := k.2 c24
              show rx_aw 181 68 [.ref 90, .int a0, .int a1, .int ((a0 - a0 / (hi 90 0) * (hi 90 0)) + (-1 : Int32)), .int ((a0 / (hi 90 0)) + (0 : Int32))] [] (rx_hp L t hi23 hl23 v23) Q
              refine rx_aw_s 7 (pc := 68) rfl ?_
              show rx_aw 181 81 [.ref 90, .int a0, .int a1, .int ((a0 - a0 / (hi 90 0) * (hi 90 0)) + (-1 : Int32)), .int ((a0 / (hi 90 0)) + (0 : Int32))] [.int ((((a0 / (hi 90 0)) + (0 : Int32)) * (hi23 90 0)) + ((a0 - a0 / (hi 90 0) * (hi 90 0)) + (-1 : Int32)))] (rx_hp L t hi23 hl23 v23) Q
              exact rx_aw_ret (pc := 81) rfl k
    · have k := k.2 c13
      show rx_aw 181 24 [.ref 90, .int a0, .int a1, rx_no, rx_no] [.int (a0 - a0 / (hi 90 0) * (hi 90 0))] (rx_hp L t hi hl v) Q
      refine rx_aw_s 6 (pc := 24) rfl ?_
      show rx_aw 181 32 [.ref 90, .int a0, .int a1, .int ((a0 - a0 / (hi 90 0) * (hi 90 0)) + (0 : Int32)), rx_no] [.int (hi 90 0), .int a0] (rx_hp L t hi hl v) Q
      refine rx_aw_div (pc := 32) rfl k.1 ?_
      have k := k.2
      show rx_aw 181 33 [.ref 90, .int a0, .int a1, .int ((a0 - a0 / (hi 90 0) * (hi 90 0)) + (0 : Int32)), rx_no] [.int (a0 / (hi 90 0))] (rx_hp L t hi hl v) Q
      refine rx_aw_s 3 (pc := 33) rfl ?_
      refine rx_w_ifn (c := a1 = (2 : Int32)) ⟨fun c25 => ?_, fun c25 => ?_⟩
      · have k := k.1 c25
        show rx_aw 181 38 [.ref 90, .int a0, .int a1, .int ((a0 - a0 / (hi 90 0) * (hi 90 0)) + (0 : Int32)), rx_no] [.int (a0 / (hi 90 0))] (rx_hp L t hi hl v) Q
        refine rx_aw_s 6 (pc := 38) rfl ?_
        refine rx_w_if (c := a0 < 0) ⟨fun c26 => ?_, fun c26 => ?_⟩
        · have k := k.1 c26
          show rx_aw 181 80 [.ref 90, .int a0, .int a1, .int ((a0 - a0 / (hi 90 0) * (hi 90 0)) + (0 : Int32)), .int ((a0 / (hi 90 0)) + (1 : Int32))] [] (rx_hp L t hi hl v) Q
          refine rx_aw_s 1 (pc := 80) rfl ?_
          show rx_aw 181 81 [.ref 90, .int a0, .int a1, .int ((a0 - a0 / (hi 90 0) * (hi 90 0)) + (0 : Int32)), .int ((a0 / (hi 90 0)) + (1 : Int32))] [.int (-1 : Int32)] (rx_hp L t hi hl v) Q
          exact rx_aw_ret (pc := 81) rfl k
        · have k := k.2 c26
          show rx_aw 181 58 [.ref 90, .int a0, .int a1, .int ((a0 - a0 / (hi 90 0) * (hi 90 0)) + (0 : Int32)), .int ((a0 / (hi 90 0)) + (1 : Int32))] [] (rx_hp L t hi hl v) Q
          refine rx_aw_s 3 (pc := 58) rfl ?_
          show rx_aw 181 62 [.ref 90, .int a0, .int a1, .int ((a0 - a0 / (hi 90 0) * (hi 90 0)) + (0 : Int32)), .int ((a0 / (hi 90 0)) + (1 : Int32))] [.int ((a0 / (hi 90 0)) + (1 : Int32)), .int ((a0 - a0 / (hi 90 0) * (hi 90 0)) + (0 : Int32)), .ref 90] (rx_hp L t hi hl v) Q
          refine rx_w_callI (j := 182) (pc := 62) rfl rfl rfl rfl rfl ?_
          refine rx_aw.mono k (fun r h2 k => ?_)
          obtain ⟨z27, rfl, hi27, hl27, v27, rfl, k⟩ := k
          refine ⟨z27, rfl, ?_⟩
          show rx_aw 181 65 [.ref 90, .int a0, .int a1, .int ((a0 - a0 / (hi 90 0) * (hi 90 0)) + (0 : Int32)), .int ((a0 / (hi 90 0)) + (1 : Int32))] [.int z27] (rx_hp L t hi27 hl27 v27) Q
          refine rx_aw_s 1 (pc := 65) rfl ?_
          refine rx_w_if (c := z27 = 0) ⟨fun c28 => ?_, fun c28 => ?_⟩
          · have k := k.1 c28
            show rx_aw 181 80 [.ref 90, .int a0, .int a1, .int ((a0 - a0 / (hi 90 0) * (hi 90 0)) + (0 : Int32)), .int ((a0 / (hi 90 0)) + (1 : Int32))] [] (rx_hp L t hi27 hl27 v27) Q
            refine rx_aw_s 1 (pc := 80) rfl ?_
            show rx_aw 181 81 [.ref 90, .int a0, .int a1, .int ((a0 - a0 / (hi 90 0) * (hi 90 0)) + (0 : Int32)), .int ((a0 / (hi 90 0)) + (1 : Int32))] [.int (-1 : Int32)] (rx_hp L t hi27 hl27 v27) Q
            exact rx_aw_ret (pc := 81) rfl k
          · have k := k.2 c28
            show rx_aw 181 68 [.ref 90, .int a0, .int a1, .int ((a0 - a0 / (hi 90 0) * (hi 90 0)) + (0 : Int32)), .int ((a0 / (hi 90 0)) + (1 : Int32))] [] (rx_hp L t hi27 hl27 v27) Q
            refine rx_aw_s 7 (pc := 68) rfl ?_
            show rx_aw 181 81 [.ref 90, .int a0, .int a1, .int ((a0 - a0 / (hi 90 0) * (hi 90 0)) + (0 : Int32)), .int ((a0 / (hi 90 0)) + (1 : Int32))] [.int ((((a0 / (hi 90 0)) + (1 : Int32)) * (hi27 90 0)) + ((a0 - a0 / (hi 90 0) * (hi 90 0)) + (0 : Int32)))] (rx_hp L t hi27 hl27 v27) Q
            exact rx_aw_ret (pc := 81) rfl k
      · have k := k.2 c25
        show rx_aw 181 42 [.ref 90, .int a0, .int a1, .int ((a0 - a0 / (hi 90 0) * (hi 90 0)) + (0 : Int32)), rx_no] [.int (a0 / (hi 90 0))] (rx_hp L t hi hl v) Q
        refine rx_aw_s 2 (pc := 42) rfl ?_
        refine rx_w_ifn (c := a1 = 0) ⟨fun c29 => ?_, fun c29 => ?_⟩
        · have k := k.1 c29
          show rx_aw 181 46 [.ref 90, .int a0, .int a1, .int ((a0 - a0 / (hi 90 0) * (hi 90 0)) + (0 : Int32)), rx_no] [.int (a0 / (hi 90 0))] (rx_hp L t hi hl v) Q
          refine rx_aw_s 6 (pc := 46) rfl ?_
          refine rx_w_if (c := a0 < 0) ⟨fun c30 => ?_, fun c30 => ?_⟩
          · have k := k.1 c30
            show rx_aw 181 80 [.ref 90, .int a0, .int a1, .int ((a0 - a0 / (hi 90 0) * (hi 90 0)) + (0 : Int32)), .int ((a0 / (hi 90 0)) + (-1 : Int32))] [] (rx_hp L t hi hl v) Q
            refine rx_aw_s 1 (pc := 80) rfl ?_
            show rx_aw 181 81 [.ref 90, .int a0, .int a1, .int ((a0 - a0 / (hi 90 0) * (hi 90 0)) + (0 : Int32)), .int ((a0 / (hi 90 0)) + (-1 : Int32))] [.int (-1 : Int32)] (rx_hp L t hi hl v) Q
            exact rx_aw_ret (pc := 81) rfl k
          · have k := k.2 c30
            show rx_aw 181 58 [.ref 90, .int a0, .int a1, .int ((a0 - a0 / (hi 90 0) * (hi 90 0)) + (0 : Int32)), .int ((a0 / (hi 90 0)) + (-1 : Int32))] [] (rx_hp L t hi hl v) Q
            refine rx_aw_s 3 (pc := 58) rfl ?_
            show rx_aw 181 62 [.ref 90, .int a0, .int a1, .int ((a0 - a0 / (hi 90 0) * (hi 90 0)) + (0 : Int32)), .int ((a0 / (hi 90 0)) + (-1 : Int32))] [.int ((a0 / (hi 90 0)) + (-1 : Int32)), .int ((a0 - a0 / (hi 90 0) * (hi 90 0)) + (0 : Int32)), .ref 90] (rx_hp L t hi hl v) Q
            refine rx_w_callI (j := 182) (pc := 62) rfl rfl rfl rfl rfl ?_
            refine rx_aw.mono k (fun r h2 k => ?_)
            obtain ⟨z31, rfl, hi31, hl31, v31, rfl, k⟩ := k
            refine ⟨z31, rfl, ?_⟩
            show rx_aw 181 65 [.ref 90, .int a0, .int a1, .int ((a0 - a0 / (hi 90 0) * (hi 90 0)) + (0 : Int32)), .int ((a0 / (hi 90 0)) + (-1 : Int32))] [.int z31] (rx_hp L t hi31 hl31 v31) Q
            refine rx_aw_s 1 (pc := 65) rfl ?_
            refine rx_w_if (c := z31 = 0) ⟨fun c32 => ?_, fun c32 => ?_⟩
            · have k := k.1 c32
              show rx_aw 181 80 [.ref 90, .int a0, .int a1, .int ((a0 - a0 / (hi 90 0) * (hi 90 0)) + (0 : Int32)), .int ((a0 / (hi 90 0)) + (-1 : Int32))] [] (rx_hp L t hi31 hl31 v31) Q
              refine rx_aw_s 1 (pc := 80) rfl ?_
              show rx_aw 181 81 [.ref 90, .int a0, .int a1, .int ((a0 - a0 / (hi 90 0) * (hi 90 0)) + (0 : Int32)), .int ((a0 / (hi 90 0)) + (-1 : Int32))] [.int (-1 : Int32)] (rx_hp L t hi31 hl31 v31) Q
              exact rx_aw_ret (pc := 81) rfl k
            · have k := k.2 c32
              show rx_aw 181 68 [.ref 90, .int a0, .int a1, .int ((a0 - a0 / (hi 90 0) * (hi 90 0)) + (0 : Int32)), .int ((a0 / (hi 90 0)) + (-1 : Int32))] [] (rx_hp L t hi31 hl31 v31) Q
              refine rx_aw_s 7 (pc := 68) rfl ?_
              show rx_aw 181 81 [.ref 90, .int a0, .int a1, .int ((a0 - a0 / (hi 90 0) * (hi 90 0)) + (0 : Int32)), .int ((a0 / (hi 90 0)) + (-1 : Int32))] [.int ((((a0 / (hi 90 0)) + (-1 : Int32)) * (hi31 90 0)) + ((a0 - a0 / (hi 90 0) * (hi 90 0)) + (0 : Int32)))] (rx_hp L t hi31 hl31 v31) Q
              exact rx_aw_ret (pc := 81) rfl k
        · have k := k.2 c29
          show rx_aw 181 50 [.ref 90, .int a0, .int a1, .int ((a0 - a0 / (hi 90 0) * (hi 90 0)) + (0 : Int32)), rx_no] [.int (a0 / (hi 90 0))] (rx_hp L t hi hl v) Q
          refine rx_aw_s 5 (pc := 50) rfl ?_
          refine rx_w_if (c := a0 < 0) ⟨fun c33 => ?_, fun c33 => ?_⟩
          · have k := k.1 c33
            show rx_aw 181 80 [.ref 90, .int a0, .int a1, .int ((a0 - a0 / (hi 90 0) * (hi 90 0)) + (0 : Int32)), .int ((a0 / (hi 90 0)) + (0 : Int32))] [] (rx_hp L t hi hl v) Q
            refine rx_aw_s 1 (pc := 80) rfl ?_
            show rx_aw 181 81 [.ref 90, .int a0, .int a1, .int ((a0 - a0 / (hi 90 0) * (hi 90 0)) + (0 : Int32)), .int ((a0 / (hi 90 0)) + (0 : Int32))] [.int (-1 : Int32)] (rx_hp L t hi hl v) Q
            exact rx_aw_ret (pc := 81) rfl k
          · have k := k.2 c33
            show rx_aw 181 58 [.ref 90, .int a0, .int a1, .int ((a0 - a0 / (hi 90 0) * (hi 90 0)) + (0 : Int32)), .int ((a0 / (hi 90 0)) + (0 : Int32))] [] (rx_hp L t hi hl v) Q
            refine rx_aw_s 3 (pc := 58) rfl ?_
            show rx_aw 181 62 [.ref 90, .int a0, .int a1, .int ((a0 - a0 / (hi 90 0) * (hi 90 0)) + (0 : Int32)), .int ((a0 / (hi 90 0)) + (0 : Int32))] [.int ((a0 / (hi 90 0)) + (0 : Int32)), .int ((a0 - a0 / (hi 90 0) * (hi 90 0)) + (0 : Int32)), .ref 90] (rx_hp L t hi hl v) Q
            refine rx_w_callI (j := 182) (pc := 62) rfl rfl rfl rfl rfl ?_
            refine rx_aw.mono k (fun r h2 k => ?_)
            obtain ⟨z34, rfl, hi34, hl34, v34, rfl, k⟩ := k
            refine ⟨z34, rfl, ?_⟩
            show rx_aw 181 65 [.ref 90, .int a0, .int a1, .int ((a0 - a0 / (hi 90 0) * (hi 90 0)) + (0 : Int32)), .int ((a0 / (hi 90 0)) + (0 : Int32))] [.int z34] (rx_hp L t hi34 hl34 v34) Q
            refine rx_aw_s 1 (pc := 65) rfl ?_
            refine rx_w_if (c := z34 = 0) ⟨fun c35 => ?_, fun c35 => ?_⟩
            · have k := k.1 c35
              show rx_aw 181 80 [.ref 90, .int a0, .int a1, .int ((a0 - a0 / (hi 90 0) * (hi 90 0)) + (0 : Int32)), .int ((a0 / (hi 90 0)) + (0 : Int32))] [] (rx_hp L t hi34 hl34 v34) Q
              refine rx_aw_s 1 (pc := 80) rfl ?_
              show rx_aw 181 81 [.ref 90, .int a0, .int a1, .int ((a0 - a0 / (hi 90 0) * (hi 90 0)) + (0 : Int32)), .int ((a0 / (hi 90 0)) + (0 : Int32))] [.int (-1 : Int32)] (rx_hp L t hi34 hl34 v34) Q
              exact rx_aw_ret (pc := 81) rfl k
            · have k := k.2 c35
              show rx_aw 181 68 [.ref 90, .int a0, .int a1, .int ((a0 - a0 / (hi 90 0) * (hi 90 0)) + (0 : Int32)), .int ((a0 / (hi 90 0)) + (0 : Int32))] [] (rx_hp L t hi34 hl34 v34) Q
              refine rx_aw_s 7 (pc := 68) rfl ?_
              show rx_aw 181 81 [.ref 90, .int a0, .int a1, .int ((a0 - a0 / (hi 90 0) * (hi 90 0)) + (0 : Int32)), .int ((a0 / (hi 90 0)) + (0 : Int32))] [.int ((((a0 / (hi 90 0)) + (0 : Int32)) * (hi34 90 0)) + ((a0 - a0 / (hi 90 0) * (hi 90 0)) + (0 : Int32)))] (rx_hp L t hi34 hl34 v34) Q
              exact rx_aw_ret (pc := 81) rfl k
set_option maxRecDepth 100000 in
/-- CartFloorModel.isSquare(II)Z -/
theorem w182_isSquare_r {L : Nat} {t : List (Nat × Nat)} {hi : Nat → Nat → Int32} {hl : Nat → Nat → Int64} {v : Nat → Nat → Option Nat} {Q : Option Value → rx_H → Prop} {a0 : Int32} {a1 : Int32} (k : ((a0 < 0 → Q (some (.int (0 : Int32))) (rx_hp L t hi hl v)) ∧ (¬ (a0 < 0) → (((hi 90 0) ≤ a0 → Q (some (.int (0 : Int32))) (rx_hp L t hi hl v)) ∧ (¬ ((hi 90 0) ≤ a0) → ((a1 < 0 → Q (some (.int (0 : Int32))) (rx_hp L t hi hl v)) ∧ (¬ (a1 < 0) → (((hi 90 1) ≤ a1 → Q (some (.int (0 : Int32))) (rx_hp L t hi hl v)) ∧ (¬ ((hi 90 1) ≤ a1) → Q (some (.int (1 : Int32))) (rx_hp L t hi hl v)))))))))) : rx_me 182 [.ref 90, .int a0, .int a1] (rx_hp L t hi hl v) Q := by
  show rx_aw 182 0 [.ref 90, .int a0, .int a1] [] (rx_hp L t hi hl v) Q
  refine rx_aw_s 2 (pc := 0) rfl ?_
  refine rx_w_if (c := a0 < 0) ⟨fun c1 => ?_, fun c1 => ?_⟩
  · have k := k.1 c1
    show rx_aw 182 28 [.ref 90, .int a0, .int a1] [] (rx_hp L t hi hl v) Q
    refine rx_aw_s 1 (pc := 28) rfl ?_
    show rx_aw 182 29 [.ref 90, .int a0, .int a1] [.int (0 : Int32)] (rx_hp L t hi hl v) Q
    exact rx_aw_ret (pc := 29) rfl k
  · have k := k.2 c1
    show rx_aw 182 4 [.ref 90, .int a0, .int a1] [] (rx_hp L t hi hl v) Q
    refine rx_aw_s 4 (pc := 4) rfl ?_
    refine rx_w_if (c := (hi 90 0) ≤ a0) ⟨fun c2 => ?_, fun c2 => ?_⟩
    · have k := k.1 c2
      show rx_aw 182 28 [.ref 90, .int a0, .int a1] [] (rx_hp L t hi hl v) Q
      refine rx_aw_s 1 (pc := 28) rfl ?_
      show rx_aw 182 29 [.ref 90, .int a0, .int a1] [.int (0 : Int32)] (rx_hp L t hi hl v) Q
      exact rx_aw_ret (pc := 29) rfl k
    · have k := k.2 c2
      show rx_aw 182 12 [.ref 90, .int a0, .int a1] [] (rx_hp L t hi hl v) Q
      refine rx_aw_s 2 (pc := 12) rfl ?_
      refine rx_w_if (c := a1 < 0) ⟨fun c3 => ?_, fun c3 => ?_⟩
      · have k := k.1 c3
        show rx_aw 182 28 [.ref 90, .int a0, .int a1] [] (rx_hp L t hi hl v) Q
        refine rx_aw_s 1 (pc := 28) rfl ?_
        show rx_aw 182 29 [.ref 90, .int a0, .int a1] [.int (0 : Int32)] (rx_hp L t hi hl v) Q
        exact rx_aw_ret (pc := 29) rfl k
      · have k := k.2 c3
        show rx_aw 182 16 [.ref 90, .int a0, .int a1] [] (rx_hp L t hi hl v) Q
        refine rx_aw_s 4 (pc := 16) rfl ?_
        refine rx_w_if (c := (hi 90 1) ≤ a1) ⟨fun c4 => ?_, fun c4 => ?_⟩
        · have k := k.1 c4
          show rx_aw 182 28 [.ref 90, .int a0, .int a1] [] (rx_hp L t hi hl v) Q
          refine rx_aw_s 1 (pc := 28) rfl ?_
          show rx_aw 182 29 [.ref 90, .int a0, .int a1] [.int (0 : Int32)] (rx_hp L t hi hl v) Q
          exact rx_aw_ret (pc := 29) rfl k
        · have k := k.2 c4
          show rx_aw 182 24 [.ref 90, .int a0, .int a1] [] (rx_hp L t hi hl v) Q
          refine rx_aw_s 2 (pc := 24) rfl ?_
          show rx_aw 182 29 [.ref 90, .int a0, .int a1] [.int (1 : Int32)] (rx_hp L t hi hl v) Q
          exact rx_aw_ret (pc := 29) rfl k
set_option maxRecDepth 100000 in
/-- CartFloorModel.may(IIIII)Z -/
theorem w183_may_r {L : Nat} {t : List (Nat × Nat)} {hi : Nat → Nat → Int32} {hl : Nat → Nat → Int64} {v : Nat → Nat → Option Nat} {Q : Option Value → rx_H → Prop} {a0 : Int32} {a1 : Int32} {a2 : Int32} {a3 : Int32} {a4 : Int32} (k : (∃ j1 : Nat, a0 = nI j1 ∧ j1 < 6 ∧ rx_me 184 [.ref 90, .int (hi 93 j1), .int a1, .int a2, .int a3] (rx_hp L t hi hl v) (fun r h2 => ∃ z2 : Int32, r = some (.int z2) ∧ rx_ok2 L t h2 (fun hi2 hl2 v2 => ((z2 = 0 → Q (some (.int (0 : Int32))) (rx_hp L t hi2 hl2 v2)) ∧ (¬ (z2 = 0) → rx_me 179 [.ref 90, .int (hi 93 j1), .int a1, .int a2] (rx_hp L t hi2 hl2 v2) (fun r h2 => ∃ z4 : Int64, r = some (.long z4) ∧ rx_ok2 L t h2 (fun hi4 hl4 v4 => rx_me 179 [.ref 90, .int (hi 93 j1), .int (hi4 90 33), .int (hi4 90 34)] (rx_hp L t hi4 hl4 v4) (fun r h2 => ∃ z5 : Int64, r = some (.long z5) ∧ rx_ok2 L t h2 (fun hi5 hl5 v5 => rx_me 186 [.ref 90, .int (hi 93 j1), .int a3] (rx_hp L t hi5 hl5 v5) (fun r h2 => ∃ z6 : Int32, r = some (.int z6) ∧ rx_ok2 L t h2 (fun hi6 hl6 v6 => ((z6 = 0 → rx_me 187 [.ref 90, .long (z4 ||| (0 : Int64)), .int a4] (rx_hp L t hi6 hl6 v6) (fun r h2 => ∃ z8 : Int32, r = some (.int z8) ∧ rx_ok2 L t h2 (fun hi8 hl8 v8 => ((z8 = 0 → Q (some (.int (0 : Int32))) (rx_hp L t hi8 hl8 v8)) ∧ (¬ (z8 = 0) → rx_me 187 [.ref 90, .long (z5 ||| (0 : Int64)), .int (a4 + (1 : Int32))] (rx_hp L t hi8 hl8 v8) (fun r h2 => ∃ z10 : Int32, r = some (.int z10) ∧ rx_ok2 L t h2 (fun hi10 hl10 v10 => ((z10 = 0 → Q (some (.int (0 : Int32))) (rx_hp L t hi10 hl10 v10)) ∧ (¬ (z10 = 0) → rx_aw 183 112 [.ref 90, .int a0, .int a1, .int a2, .int a3, .int a4, .int (hi 93 j1), .long z4, rx_no, .long z5, rx_no, .long (0 : Int64), rx_no, .int (1 : Int32), .int (0 : Int32), rx_no] [] (rx_hp L t hi10 hl10 v10) Q))))))))) ∧ (¬ (z6 = 0) → rx_me 185 [.ref 90, .int a1, .int a2, .int a3] (rx_hp L t hi6 hl6 v6) (fun r h2 => ∃ z12 : Int64, r = some (.long z12) ∧ rx_ok2 L t h2 (fun hi12 hl12 v12 => rx_me 187 [.ref 90, .long (z4 ||| z12), .int a4] (rx_hp L t hi12 hl12 v12) (fun r h2 => ∃ z13 : Int32, r = some (.int z13) ∧ rx_ok2 L t h2 (fun hi13 hl13 v13 => ((z13 = 0 → Q (some (.int (0 : Int32))) (rx_hp L t hi13 hl13 v13)) ∧ (¬ (z13 = 0) → rx_me 187 [.ref 90, .long (z5 ||| z12), .int (a4 + (1 : Int32))] (rx_hp L t hi13 hl13 v13) (fun r h2 => ∃ z15 : Int32, r = some (.int z15) ∧ rx_ok2 L t h2 (fun hi15 hl15 v15 => ((z15 = 0 → Q (some (.int (0 : Int32))) (rx_hp L t hi15 hl15 v15)) ∧ (¬ (z15 = 0) → rx_aw 183 112 [.ref 90, .int a0, .int a1, .int a2, .int a3, .int a4, .int (hi 93 j1), .long z4, rx_no, .long z5, rx_no, .long z12, rx_no, .int (1 : Int32), .int (0 : Int32), rx_no] [] (rx_hp L t hi15 hl15 v15) Q)))))))))))))))))))))))) : rx_me 183 [.ref 90, .int a0, .int a1, .int a2, .int a3, .int a4] (rx_hp L t hi hl v) Q := by
  show rx_aw 183 0 [.ref 90, .int a0, .int a1, .int a2, .int a3, .int a4, rx_no, rx_no, rx_no, rx_no, rx_no, rx_no, rx_no, rx_no, rx_no, rx_no] [] (rx_hp L t hi hl v) Q
  refine rx_aw_s 3 (pc := 0) rfl ?_
  show rx_aw 183 5 [.ref 90, .int a0, .int a1, .int a2, .int a3, .int a4, rx_no, rx_no, rx_no, rx_no, rx_no, rx_no, rx_no, rx_no, rx_no, rx_no] [.int a0, .ref 93] (rx_hp L t hi hl v) Q
  obtain ⟨j1, ej1, hj1, k⟩ := k
  refine rx_aw_iald (pc := 5) (n := 6) j1 ej1 rfl rfl rfl hj1 (by decide) ?_
  show rx_aw 183 6 [.ref 90, .int a0, .int a1, .int a2, .int a3, .int a4, rx_no, rx_no, rx_no, rx_no, rx_no, rx_no, rx_no, rx_no, rx_no, rx_no] [.int (hi 93 j1)] (rx_hp L t hi hl v) Q
  refine rx_aw_s 6 (pc := 6) rfl ?_
  show rx_aw 183 15 [.ref 90, .int a0, .int a1, .int a2, .int a3, .int a4, .int (hi 93 j1), rx_no, rx_no, rx_no, rx_no, rx_no, rx_no, rx_no, rx_no, rx_no] [.int a3, .int a2, .int a1, .int (hi 93 j1), .ref 90] (rx_hp L t hi hl v) Q
  refine rx_w_callI (j := 184) (pc := 15) rfl rfl rfl rfl rfl ?_
  refine rx_aw.mono k (fun r h2 k => ?_)
  obtain ⟨z2, rfl, hi2, hl2, v2, rfl, k⟩ := k
  refine ⟨z2, rfl, ?_⟩
  show rx_aw 183 18 [.ref 90, .int a0, .int a1, .int a2, .int a3, .int a4, .int (hi 93 j1), rx_no, rx_no, rx_no, rx_no, rx_no, rx_no, rx_no, rx_no, rx_no] [.int z2] (rx_hp L t hi2 hl2 v2) Q
  refine rx_aw_s 1 (pc := 18) rfl ?_
  refine rx_w_ifn (c := z2 = 0) ⟨fun c3 => ?_, fun c3 => ?_⟩
  · have k := k.1 c3
    show rx_aw 183 21 [.ref 90, .int a0, .int a1, .int a2, .int a3, .int a4, .int (hi 93 j1), rx_no, rx_no, rx_no, rx_no, rx_no, rx_no, rx_no, rx_no, rx_no] [] (rx_hp L t hi2 hl2 v2) Q
    refine rx_aw_s 1 (pc := 21) rfl ?_
    show rx_aw 183 22 [.ref 90, .int a0, .int a1, .int a2, .int a3, .int a4, .int (hi 93 j1), rx_no, rx_no, rx_no, rx_no, rx_no, rx_no, rx_no, rx_no, rx_no] [.int (0 : Int32)] (rx_hp L t hi2 hl2 v2) Q
    exact rx_aw_ret (pc := 22) rfl k
  · have k := k.2 c3
    show rx_aw 183 23 [.ref 90, .int a0, .int a1, .int a2, .int a3, .int a4, .int (hi 93 j1), rx_no, rx_no, rx_no, rx_no, rx_no, rx_no, rx_no, rx_no, rx_no] [] (rx_hp L t hi2 hl2 v2) Q
    refine rx_aw_s 4 (pc := 23) rfl ?_
    show rx_aw 183 28 [.ref 90, .int a0, .int a1, .int a2, .int a3, .int a4, .int (hi 93 j1), rx_no, rx_no, rx_no, rx_no, rx_no, rx_no, rx_no, rx_no, rx_no] [.int a2, .int a1, .int (hi 93 j1), .ref 90] (rx_hp L t hi2 hl2 v2) Q
    refine rx_w_callL (j := 179) (pc := 28) rfl rfl rfl rfl rfl ?_
    refine rx_aw.mono k (fun r h2 k => ?_)
    obtain ⟨z4, rfl, hi4, hl4, v4, rfl, k⟩ := k
    refine ⟨z4, rfl, ?_⟩
    show rx_aw 183 31 [.ref 90, .int a0, .int a1, .int a2, .int a3, .int a4, .int (hi 93 j1), rx_no, rx_no, rx_no, rx_no, rx_no, rx_no, rx_no, rx_no, rx_no] [.long z4] (rx_hp L t hi4 hl4 v4) Q
    refine rx_aw_s 7 (pc := 31) rfl ?_
    show rx_aw 183 44 [.ref 90, .int a0, .int a1, .int a2, .int a3, .int a4, .int (hi 93 j1), .long z4, rx_no, rx_no, rx_no, rx_no, rx_no, rx_no, rx_no, rx_no] [.int (hi4 90 34), .int (hi4 90 33), .int (hi 93 j1), .ref 90] (rx_hp L t hi4 hl4 v4) Q
    refine rx_w_callL (j := 179) (pc := 44) rfl rfl rfl rfl rfl ?_
    refine rx_aw.mono k (fun r h2 k => ?_)
    obtain ⟨z5, rfl, hi5, hl5, v5, rfl, k⟩ := k
    refine ⟨z5, rfl, ?_⟩
    show rx_aw 183 47 [.ref 90, .int a0, .int a1, .int a2, .int a3, .int a4, .int (hi 93 j1), .long z4, rx_no, rx_no, rx_no, rx_no, rx_no, rx_no, rx_no, rx_no] [.long z5] (rx_hp L t hi5 hl5 v5) Q
    refine rx_aw_s 4 (pc := 47) rfl ?_
    show rx_aw 183 54 [.ref 90, .int a0, .int a1, .int a2, .int a3, .int a4, .int (hi 93 j1), .long z4, rx_no, .long z5, rx_no, rx_no, rx_no, rx_no, rx_no, rx_no] [.int a3, .int (hi 93 j1), .ref 90] (rx_hp L t hi5 hl5 v5) Q
    refine rx_w_callI (j := 186) (pc := 54) rfl rfl rfl rfl rfl ?_
    refine rx_aw.mono k (fun r h2 k => ?_)
    obtain ⟨z6, rfl, hi6, hl6, v6, rfl, k⟩ := k
    refine ⟨z6, rfl, ?_⟩
    show rx_aw 183 57 [.ref 90, .int a0, .int a1, .int a2, .int a3, .int a4, .int (hi 93 j1), .long z4, rx_no, .long z5, rx_no, rx_no, rx_no, rx_no, rx_no, rx_no] [.int z6] (rx_hp L t hi6 hl6 v6) Q
    refine rx_aw_s 1 (pc := 57) rfl ?_
    refine rx_w_if (c := z6 = 0) ⟨fun c7 => ?_, fun c7 => ?_⟩
    · have k := k.1 c7
      show rx_aw 183 71 [.ref 90, .int a0, .int a1, .int a2, .int a3, .int a4, .int (hi 93 j1), .long z4, rx_no, .long z5, rx_no, rx_no, rx_no, rx_no, rx_no, rx_no] [] (rx_hp L t hi6 hl6 v6) Q
      refine rx_aw_s 7 (pc := 71) rfl ?_
      show rx_aw 183 82 [.ref 90, .int a0, .int a1, .int a2, .int a3, .int a4, .int (hi 93 j1), .long z4, rx_no, .long z5, rx_no, .long (0 : Int64), rx_no, rx_no, rx_no, rx_no] [.int a4, .long (z4 ||| (0 : Int64)), .ref 90] (rx_hp L t hi6 hl6 v6) Q
      refine rx_w_callI (j := 187) (pc := 82) rfl rfl rfl rfl rfl ?_
      refine rx_aw.mono k (fun r h2 k => ?_)
      obtain ⟨z8, rfl, hi8, hl8, v8, rfl, k⟩ := k
      refine ⟨z8, rfl, ?_⟩
      show rx_aw 183 85 [.ref 90, .int a0, .int a1, .int a2, .int a3, .int a4, .int (hi 93 j1), .long z4, rx_no, .long z5, rx_no, .long (0 : Int64), rx_no, rx_no, rx_no, rx_no] [.int z8] (rx_hp L t hi8 hl8 v8) Q
      refine rx_aw_s 1 (pc := 85) rfl ?_
      refine rx_w_if (c := z8 = 0) ⟨fun c9 => ?_, fun c9 => ?_⟩
      · have k := k.1 c9
        show rx_aw 183 104 [.ref 90, .int a0, .int a1, .int a2, .int a3, .int a4, .int (hi 93 j1), .long z4, rx_no, .long z5, rx_no, .long (0 : Int64), rx_no, rx_no, rx_no, rx_no] [] (rx_hp L t hi8 hl8 v8) Q
        refine rx_aw_s 1 (pc := 104) rfl ?_
        show rx_aw 183 105 [.ref 90, .int a0, .int a1, .int a2, .int a3, .int a4, .int (hi 93 j1), .long z4, rx_no, .long z5, rx_no, .long (0 : Int64), rx_no, rx_no, rx_no, rx_no] [.int (0 : Int32)] (rx_hp L t hi8 hl8 v8) Q
        exact rx_aw_ret (pc := 105) rfl k
      · have k := k.2 c9
        show rx_aw 183 88 [.ref 90, .int a0, .int a1, .int a2, .int a3, .int a4, .int (hi 93 j1), .long z4, rx_no, .long z5, rx_no, .long (0 : Int64), rx_no, rx_no, rx_no, rx_no] [] (rx_hp L t hi8 hl8 v8) Q
        refine rx_aw_s 7 (pc := 88) rfl ?_
        show rx_aw 183 98 [.ref 90, .int a0, .int a1, .int a2, .int a3, .int a4, .int (hi 93 j1), .long z4, rx_no, .long z5, rx_no, .long (0 : Int64), rx_no, rx_no, rx_no, rx_no] [.int (a4 + (1 : Int32)), .long (z5 ||| (0 : Int64)), .ref 90] (rx_hp L t hi8 hl8 v8) Q
        refine rx_w_callI (j := 187) (pc := 98) rfl rfl rfl rfl rfl ?_
        refine rx_aw.mono k (fun r h2 k => ?_)
        obtain ⟨z10, rfl, hi10, hl10, v10, rfl, k⟩ := k
        refine ⟨z10, rfl, ?_⟩
        show rx_aw 183 101 [.ref 90, .int a0, .int a1, .int a2, .int a3, .int a4, .int (hi 93 j1), .long z4, rx_no, .long z5, rx_no, .long (0 : Int64), rx_no, rx_no, rx_no, rx_no] [.int z10] (rx_hp L t hi10 hl10 v10) Q
        refine rx_aw_s 1 (pc := 101) rfl ?_
        refine rx_w_ifn (c := z10 = 0) ⟨fun c11 => ?_, fun c11 => ?_⟩
        · have k := k.1 c11
          show rx_aw 183 104 [.ref 90, .int a0, .int a1, .int a2, .int a3, .int a4, .int (hi 93 j1), .long z4, rx_no, .long z5, rx_no, .long (0 : Int64), rx_no, rx_no, rx_no, rx_no] [] (rx_hp L t hi10 hl10 v10) Q
          refine rx_aw_s 1 (pc := 104) rfl ?_
          show rx_aw 183 105 [.ref 90, .int a0, .int a1, .int a2, .int a3, .int a4, .int (hi 93 j1), .long z4, rx_no, .long z5, rx_no, .long (0 : Int64), rx_no, rx_no, rx_no, rx_no] [.int (0 : Int32)] (rx_hp L t hi10 hl10 v10) Q
          exact rx_aw_ret (pc := 105) rfl k
        · have k := k.2 c11
          show rx_aw 183 106 [.ref 90, .int a0, .int a1, .int a2, .int a3, .int a4, .int (hi 93 j1), .long z4, rx_no, .long z5, rx_no, .long (0 : Int64), rx_no, rx_no, rx_no, rx_no] [] (rx_hp L t hi10 hl10 v10) Q
          refine rx_aw_s 4 (pc := 106) rfl ?_
          show rx_aw 183 112 [.ref 90, .int a0, .int a1, .int a2, .int a3, .int a4, .int (hi 93 j1), .long z4, rx_no, .long z5, rx_no, .long (0 : Int64), rx_no, .int (1 : Int32), .int (0 : Int32), rx_no] [] (rx_hp L t hi10 hl10 v10) Q
          exact k
    · have k := k.2 c7
      show rx_aw 183 60 [.ref 90, .int a0, .int a1, .int a2, .int a3, .int a4, .int (hi 93 j1), .long z4, rx_no, .long z5, rx_no, rx_no, rx_no, rx_no, rx_no, rx_no] [] (rx_hp L t hi6 hl6 v6) Q
      refine rx_aw_s 4 (pc := 60) rfl ?_
      show rx_aw 183 65 [.ref 90, .int a0, .int a1, .int a2, .int a3, .int a4, .int (hi 93 j1), .long z4, rx_no, .long z5, rx_no, rx_no, rx_no, rx_no, rx_no, rx_no] [.int a3, .int a2, .int a1, .ref 90] (rx_hp L t hi6 hl6 v6) Q
      refine rx_w_callL (j := 185) (pc := 65) rfl rfl rfl rfl rfl ?_
      refine rx_aw.mono k (fun r h2 k => ?_)
      obtain ⟨z12, rfl, hi12, hl12, v12, rfl, k⟩ := k
      refine ⟨z12, rfl, ?_⟩
      show rx_aw 183 68 [.ref 90, .int a0, .int a1, .int a2, .int a3, .int a4, .int (hi 93 j1), .long z4, rx_no, .long z5, rx_no, rx_no, rx_no, rx_no, rx_no, rx_no] [.long z12] (rx_hp L t hi12 hl12 v12) Q
      refine rx_aw_s 7 (pc := 68) rfl ?_
      show rx_aw 183 82 [.ref 90, .int a0, .int a1, .int a2, .int a3, .int a4, .int (hi 93 j1), .long z4, rx_no, .long z5, rx_no, .long z12, rx_no, rx_no, rx_no, rx_no] [.int a4, .long (z4 ||| z12), .ref 90] (rx_hp L t hi12 hl12 v12) Q
      refine rx_w_callI (j := 187) (pc := 82) rfl rfl rfl rfl rfl ?_
      refine rx_aw.mono k (fun r h2 k => ?_)
      obtain ⟨z13, rfl, hi13, hl13, v13, rfl, k⟩ := k
      refine ⟨z13, rfl, ?_⟩
      show rx_aw 183 85 [.ref 90, .int a0, .int a1, .int a2, .int a3, .int a4, .int (hi 93 j1), .long z4, rx_no, .long z5, rx_no, .long z12, rx_no, rx_no, rx_no, rx_no] [.int z13] (rx_hp L t hi13 hl13 v13) Q
      refine rx_aw_s 1 (pc := 85) rfl ?_
      refine rx_w_if (c := z13 = 0) ⟨fun c14 => ?_, fun c14 => ?_⟩
      · have k := k.1 c14
        show rx_aw 183 104 [.ref 90, .int a0, .int a1, .int a2, .int a3, .int a4, .int (hi 93 j1), .long z4, rx_no, .long z5, rx_no, .long z12, rx_no, rx_no, rx_no, rx_no] [] (rx_hp L t hi13 hl13 v13) Q
        refine rx_aw_s 1 (pc := 104) rfl ?_
        show rx_aw 183 105 [.ref 90, .int a0, .int a1, .int a2, .int a3, .int a4, .int (hi 93 j1), .long z4, rx_no, .long z5, rx_no, .long z12, rx_no, rx_no, rx_no, rx_no] [.int (0 : Int32)] (rx_hp L t hi13 hl13 v13) Q
        exact rx_aw_ret (pc := 105) rfl k
      · have k := k.2 c14
        show rx_aw 183 88 [.ref 90, .int a0, .int a1, .int a2, .int a3, .int a4, .int (hi 93 j1), .long z4, rx_no, .long z5, rx_no, .long z12, rx_no, rx_no, rx_no, rx_no] [] (rx_hp L t hi13 hl13 v13) Q
        refine rx_aw_s 7 (pc := 88) rfl ?_
        show rx_aw 183 98 [.ref 90, .int a0, .int a1, .int a2, .int a3, .int a4, .int (hi 93 j1), .long z4, rx_no, .long z5, rx_no, .long z12, rx_no, rx_no, rx_no, rx_no] [.int (a4 + (1 : Int32)), .long (z5 ||| z12), .ref 90] (rx_hp L t hi13 hl13 v13) Q
        refine rx_w_callI (j := 187) (pc := 98) rfl rfl rfl rfl rfl ?_
        refine rx_aw.mono k (fun r h2 k => ?_)
        obtain ⟨z15, rfl, hi15, hl15, v15, rfl, k⟩ := k
        refine ⟨z15, rfl, ?_⟩
        show rx_aw 183 101 [.ref 90, .int a0, .int a1, .int a2, .int a3, .int a4, .int (hi 93 j1), .long z4, rx_no, .long z5, rx_no, .long z12, rx_no, rx_no, rx_no, rx_no] [.int z15] (rx_hp L t hi15 hl15 v15) Q
        refine rx_aw_s 1 (pc := 101) rfl ?_
        refine rx_w_ifn (c := z15 = 0) ⟨fun c16 => ?_, fun c16 => ?_⟩
        · have k := k.1 c16
          show rx_aw 183 104 [.ref 90, .int a0, .int a1, .int a2, .int a3, .int a4, .int (hi 93 j1), .long z4, rx_no, .long z5, rx_no, .long z12, rx_no, rx_no, rx_no, rx_no] [] (rx_hp L t hi15 hl15 v15) Q
          refine rx_aw_s 1 (pc := 104) rfl ?_
          show rx_aw 183 105 [.ref 90, .int a0, .int a1, .int a2, .int a3, .int a4, .int (hi 93 j1), .long z4, rx_no, .long z5, rx_no, .long z12, rx_no, rx_no, rx_no, rx_no] [.int (0 : Int32)] (rx_hp L t hi15 hl15 v15) Q
          exact rx_aw_ret (pc := 105) rfl k
        · have k := k.2 c16
          show rx_aw 183 106 [.ref 90, .int a0, .int a1, .int a2, .int a3, .int a4, .int (hi 93 j1), .long z4, rx_no, .long z5, rx_no, .long z12, rx_no, rx_no, rx_no, rx_no] [] (rx_hp L t hi15 hl15 v15) Q
          refine rx_aw_s 4 (pc := 106) rfl ?_
          show rx_aw 183 112 [.ref 90, .int a0, .int a1, .int a2, .int a3, .int a4, .int (hi 93 j1), .long z4, rx_no, .long z5, rx_no, .long z12, rx_no, .int (1 : Int32), .int (0 : Int32), rx_no] [] (rx_hp L t hi15 hl15 v15) Q
          exact k
set_option maxRecDepth 100000 in
theorem w183_may_r_112 {L : Nat} {t : List (Nat × Nat)} {hi : Nat → Nat → Int32} {hl : Nat → Nat → Int64} {v : Nat → Nat → Option Nat} {Q : Option Value → rx_H → Prop} {x1 : Int32} {x2 : Int32} {x3 : Int32} {x4 : Int32} {x5 : Int32} {x6 : Int32} {x7 : Int64} {x9 : Int64} {x11 : Int64} {x13 : Int32} {x14 : Int32} (k : (((hi 90 6) ≤ x14 → ((x13 = 0 ∨ x13 = 1) ∧ Q (some (.int x13)) (rx_hp L t hi hl v))) ∧ (¬ ((hi 90 6) ≤ x14) → ((x14 = x1 → rx_aw 183 112 [.ref 90, .int x1, .int x2, .int x3, .int x4, .int x5, .int x6, .long x7, rx_no, .long x9, rx_no, .long x11, rx_no, .int (x13 &&& (1 : Int32)), .int (x14 + (1 : Int32)), rx_no] [] (rx_hp L t hi hl v) Q) ∧ (¬ (x14 = x1) → (∃ j19 : Nat, (((402 : Int32) * x14) + x5) = nI j19 ∧ j19 < 2412 ∧ (∃ j20 : Nat, ((((402 : Int32) * x14) + x5) + (1 : Int32)) = nI j20 ∧ j20 < 2412 ∧ rx_me 176 [.long x7, .long x9, .long (hl 105 j19), .long (hl 105 j20)] (rx_hp L t hi hl v) (fun r h2 => ∃ z21 : Int32, r = some (.int z21) ∧ rx_ok2 L t h2 (fun hi21 hl21 v21 => ((z21 = 0 → rx_aw 183 112 [.ref 90, .int x1, .int x2, .int x3, .int x4, .int x5, .int x6, .long x7, rx_no, .long x9, rx_no, .long x11, rx_no, .int (x13 &&& (1 : Int32)), .int (x14 + (1 : Int32)), rx_no] [] (rx_hp L t hi21 hl21 v21) Q) ∧ (¬ (z21 = 0) → rx_aw 183 112 [.ref 90, .int x1, .int x2, .int x3, .int x4, .int x5, .int x6, .long x7, rx_no, .long x9, rx_no, .long x11, rx_no, .int (x13 &&& (0 : Int32)), .int (x14 + (1 : Int32)), rx_no] [] (rx_hp L t hi21 hl21 v21) Q))))))))))) : rx_aw 183 112 [.ref 90, .int x1, .int x2, .int x3, .int x4, .int x5, .int x6, .long x7, rx_no, .long x9, rx_no, .long x11, rx_no, .int x13, .int x14, rx_no] [] (rx_hp L t hi hl v) Q := by
  refine rx_aw_s 4 (pc := 112) rfl ?_
  refine rx_w_if (c := (hi 90 6) ≤ x14) ⟨fun c17 => ?_, fun c17 => ?_⟩
  · have k := k.1 c17
    show rx_aw 183 180 [.ref 90, .int x1, .int x2, .int x3, .int x4, .int x5, .int x6, .long x7, rx_no, .long x9, rx_no, .long x11, rx_no, .int x13, .int x14, rx_no] [] (rx_hp L t hi hl v) Q
    refine rx_aw_s 1 (pc := 180) rfl ?_
    show rx_aw 183 182 [.ref 90, .int x1, .int x2, .int x3, .int x4, .int x5, .int x6, .long x7, rx_no, .long x9, rx_no, .long x11, rx_no, .int x13, .int x14, rx_no] [.int x13] (rx_hp L t hi hl v) Q
    exact rx_w_zret (pc := 182) rfl rfl k
  · have k := k.2 c17
    show rx_aw 183 121 [.ref 90, .int x1, .int x2, .int x3, .int x4, .int x5, .int x6, .long x7, rx_no, .long x9, rx_no, .long x11, rx_no, .int x13, .int x14, rx_no] [] (rx_hp L t hi hl v) Q
    refine rx_aw_s 10 (pc := 121) rfl ?_
    refine rx_w_if (c := x14 = x1) ⟨fun c18 => ?_, fun c18 => ?_⟩
    · have k := k.1 c18
      show rx_aw 183 166 [.ref 90, .int x1, .int x2, .int x3, .int x4, .int x5, .int x6, .long x7, rx_no, .long x9, rx_no, .long x11, rx_no, .int x13, .int x14, .int (((402 : Int32) * x14) + x5)] [.int x13] (rx_hp L t hi hl v) Q
      refine rx_aw_s 6 (pc := 166) rfl ?_
      show rx_aw 183 112 [.ref 90, .int x1, .int x2, .int x3, .int x4, .int x5, .int x6, .long x7, rx_no, .long x9, rx_no, .long x11, rx_no, .int (x13 &&& (1 : Int32)), .int (x14 + (1 : Int32)), .int (((402 : Int32) * x14) + x5)] [] (rx_hp L t hi hl v) Q
      exact rx_aw_le (ls := [.ref 90, .int x1, .int x2, .int x3, .int x4, .int x5, .int x6, .long x7, rx_no, .long x9, rx_no, .long x11, rx_no, .int (x13 &&& (1 : Int32)), .int (x14 + (1 : Int32)), rx_no]) ⟨Or.inr rfl, ⟨Or.inr rfl, ⟨Or.inr rfl, ⟨Or.inr rfl, ⟨Or.inr rfl, ⟨Or.inr rfl, ⟨Or.inr rfl, ⟨Or.inr rfl, ⟨Or.inl rfl, ⟨Or.inr rfl, ⟨Or.inl rfl, ⟨Or.inr rfl, ⟨Or.inl rfl, ⟨Or.inr rfl, ⟨Or.inr rfl, ⟨Or.inl rfl, trivial⟩⟩⟩⟩⟩⟩⟩⟩⟩⟩⟩⟩⟩⟩⟩⟩ k
    · have k := k.2 c18
      show rx_aw 183 140 [.ref 90, .int x1, .int x2, .int x3, .int x4, .int x5, .int x6, .long x7, rx_no, .long x9, rx_no, .long x11, rx_no, .int x13, .int x14, .int (((402 : Int32) * x14) + x5)] [.int x13] (rx_hp L t hi hl v) Q
      refine rx_aw_s 5 (pc := 140) rfl ?_
      show rx_aw 183 150 [.ref 90, .int x1, .int x2, .int x3, .int x4, .int x5, .int x6, .long x7, rx_no, .long x9, rx_no, .long x11, rx_no, .int x13, .int x14, .int (((402 : Int32) * x14) + x5)] [.int (((402 : Int32) * x14) + x5), .ref 105, .long x9, .long x7, .int x13] (rx_hp L t hi hl v) Q
      obtain ⟨j19, ej19, hj19, k⟩ := k
      refine rx_aw_lald (pc := 150) (n := 2412) j19 ej19 rfl rfl (by decide) rfl hj19 (by decide) ?_
      show rx_aw 183 151 [.ref 90, .int x1, .int x2, .int x3, .int x4, .int x5, .int x6, .long x7, rx_no, .long x9, rx_no, .long x11, rx_no, .int x13, .int x14, .int (((402 : Int32) * x14) + x5)] [.long (hl 105 j19), .long x9, .long x7, .int x13] (rx_hp L t hi hl v) Q
      refine rx_aw_s 5 (pc := 151) rfl ?_
      show rx_aw 183 159 [.ref 90, .int x1, .int x2, .int x3, .int x4, .int x5, .int x6, .long x7, rx_no, .long x9, rx_no, .long x11, rx_no, .int x13, .int x14, .int (((402 : Int32) * x14) + x5)] [.int ((((402 : Int32) * x14) + x5) + (1 : Int32)), .ref 105, .long (hl 105 j19), .long x9, .long x7, .int x13] (rx_hp L t hi hl v) Q
      obtain ⟨j20, ej20, hj20, k⟩ := k
      refine rx_aw_lald (pc := 159) (n := 2412) j20 ej20 rfl rfl (by decide) rfl hj20 (by decide) ?_
      show rx_aw 183 160 [.ref 90, .int x1, .int x2, .int x3, .int x4, .int x5, .int x6, .long x7, rx_no, .long x9, rx_no, .long x11, rx_no, .int x13, .int x14, .int (((402 : Int32) * x14) + x5)] [.long (hl 105 j20), .long (hl 105 j19), .long x9, .long x7, .int x13] (rx_hp L t hi hl v) Q
      refine rx_w_callI (j := 176) (pc := 160) rfl rfl rfl rfl rfl ?_
      refine rx_aw.mono k (fun r h2 k => ?_)
      obtain ⟨z21, rfl, hi21, hl21, v21, rfl, k⟩ := k
      refine ⟨z21, rfl, ?_⟩
      show rx_aw 183 163 [.ref 90, .int x1, .int x2, .int x3, .int x4, .int x5, .int x6, .long x7, rx_no, .long x9, rx_no, .long x11, rx_no, .int x13, .int x14, .int (((402 : Int32) * x14) + x5)] [.int z21, .int x13] (rx_hp L t hi21 hl21 v21) Q
      refine rx_aw_s 1 (pc := 163) rfl ?_
      refine rx_w_ifn (c := z21 = 0) ⟨fun c22 => ?_, fun c22 => ?_⟩
      · have k := k.1 c22
        show rx_aw 183 166 [.ref 90, .int x1, .int x2, .int x3, .int x4, .int x5, .int x6, .long x7, rx_no, .long x9, rx_no, .long x11, rx_no, .int x13, .int x14, .int (((402 : Int32) * x14) + x5)] [.int x13] (rx_hp L t hi21 hl21 v21) Q
        refine rx_aw_s 6 (pc := 166) rfl ?_
        show rx_aw 183 112 [.ref 90, .int x1, .int x2, .int x3, .int x4, .int x5, .int x6, .long x7, rx_no, .long x9, rx_no, .long x11, rx_no, .int (x13 &&& (1 : Int32)), .int (x14 + (1 : Int32)), .int (((402 : Int32) * x14) + x5)] [] (rx_hp L t hi21 hl21 v21) Q
        exact rx_aw_le (ls := [.ref 90, .int x1, .int x2, .int x3, .int x4, .int x5, .int x6, .long x7, rx_no, .long x9, rx_no, .long x11, rx_no, .int (x13 &&& (1 : Int32)), .int (x14 + (1 : Int32)), rx_no]) ⟨Or.inr rfl, ⟨Or.inr rfl, ⟨Or.inr rfl, ⟨Or.inr rfl, ⟨Or.inr rfl, ⟨Or.inr rfl, ⟨Or.inr rfl, ⟨Or.inr rfl, ⟨Or.inl rfl, ⟨Or.inr rfl, ⟨Or.inl rfl, ⟨Or.inr rfl, ⟨Or.inl rfl, ⟨Or.inr rfl, ⟨Or.inr rfl, ⟨Or.inl rfl, trivial⟩⟩⟩⟩⟩⟩⟩⟩⟩⟩⟩⟩⟩⟩⟩⟩ k
      · have k := k.2 c22
        show rx_aw 183 170 [.ref 90, .int x1, .int x2, .int x3, .int x4, .int x5, .int x6, .long x7, rx_no, .long x9, rx_no, .long x11, rx_no, .int x13, .int x14, .int (((402 : Int32) * x14) + x5)] [.int x13] (rx_hp L t hi21 hl21 v21) Q
        refine rx_aw_s 5 (pc := 170) rfl ?_
        show rx_aw 183 112 [.ref 90, .int x1, .int x2, .int x3, .int x4, .int x5, .int x6, .long x7, rx_no, .long x9, rx_no, .long x11, rx_no, .int (x13 &&& (0 : Int32)), .int (x14 + (1 : Int32)), .int (((402 : Int32) * x14) + x5)] [] (rx_hp L t hi21 hl21 v21) Q
        exact rx_aw_le (ls := [.ref 90, .int x1, .int x2, .int x3, .int x4, .int x5, .int x6, .long x7, rx_no, .long x9, rx_no, .long x11, rx_no, .int (x13 &&& (0 : Int32)), .int (x14 + (1 : Int32)), rx_no]) ⟨Or.inr rfl, ⟨Or.inr rfl, ⟨Or.inr rfl, ⟨Or.inr rfl, ⟨Or.inr rfl, ⟨Or.inr rfl, ⟨Or.inr rfl, ⟨Or.inr rfl, ⟨Or.inl rfl, ⟨Or.inr rfl, ⟨Or.inl rfl, ⟨Or.inr rfl, ⟨Or.inl rfl, ⟨Or.inr rfl, ⟨Or.inr rfl, ⟨Or.inl rfl, trivial⟩⟩⟩⟩⟩⟩⟩⟩⟩⟩⟩⟩⟩⟩⟩⟩ k
set_option maxRecDepth 100000 in
/-- CartFloorModel.goes(IIII)Z -/
theorem w184_goes_r {L : Nat} {t : List (Nat × Nat)} {hi : Nat → Nat → Int32} {hl : Nat → Nat → Int64} {v : Nat → Nat → Option Nat} {Q : Option Value → rx_H → Prop} {a0 : Int32} {a1 : Int32} {a2 : Int32} {a3 : Int32} (k : ((a3 = 0 → Q (some (.int (1 : Int32))) (rx_hp L t (rx_u (rx_u hi 90 33 a1) 90 34 a2) hl v)) ∧ (¬ (a3 = 0) → rx_me 180 [.ref 90, .int a0] (rx_hp L t (rx_u (rx_u hi 90 33 a1) 90 34 a2) hl v) (fun r h2 => ∃ z2 : Int32, r = some (.int z2) ∧ rx_ok2 L t h2 (fun hi2 hl2 v2 => ((z2 = 0 → rx_me 181 [.ref 90, .int a1, .int (a3 - (1 : Int32))] (rx_hp L t (rx_u hi2 90 34 (a3 - (1 : Int32))) hl2 v2) (fun r h2 => ∃ z4 : Int32, r = some (.int z4) ∧ rx_ok2 L t h2 (fun hi4 hl4 v4 => ((((rx_u hi4 90 33 z4) 90 33) < 0 → Q (some (.int (0 : Int32))) (rx_hp L t (rx_u hi4 90 33 z4) hl4 v4)) ∧ (¬ (((rx_u hi4 90 33 z4) 90 33) < 0) → Q (some (.int (1 : Int32))) (rx_hp L t (rx_u hi4 90 33 z4) hl4 v4)))))) ∧ (¬ (z2 = 0) → (((2 : Int32) < a3 → rx_me 185 [.ref 90, .int a1, .int a2, .int a3] (rx_hp L t hi2 hl2 v2) (fun r h2 => ∃ z7 : Int64, r = some (.long z7) ∧ rx_ok2 L t h2 (fun hi7 hl7 v7 => (((lg_cmp z7 (0 : Int64)) = 0 → Q (some (.int (0 : Int32))) (rx_hp L t hi7 hl7 v7)) ∧ (¬ ((lg_cmp z7 (0 : Int64)) = 0) → ((a3 = (3 : Int32) → rx_me 181 [.ref 90, .int a1, .int ((a2 + (2 : Int32)) - (a2 + (2 : Int32)) / (4 : Int32) * (4 : Int32))] (rx_hp L t (rx_u hi7 90 34 ((a2 + (3 : Int32)) - (a2 + (3 : Int32)) / (4 : Int32) * (4 : Int32))) hl7 v7) (fun r h2 => ∃ z10 : Int32, r = some (.int z10) ∧ rx_ok2 L t h2 (fun hi10 hl10 v10 => rx_me 181 [.ref 90, .int z10, .int (hi10 90 34)] (rx_hp L t hi10 hl10 v10) (fun r h2 => ∃ z11 : Int32, r = some (.int z11) ∧ rx_ok2 L t h2 (fun hi11 hl11 v11 => Q (some (.int (1 : Int32))) (rx_hp L t (rx_u hi11 90 33 z11) hl11 v11)))))) ∧ (¬ (a3 = (3 : Int32)) → rx_me 181 [.ref 90, .int a1, .int ((a2 + (2 : Int32)) - (a2 + (2 : Int32)) / (4 : Int32) * (4 : Int32))] (rx_hp L t (rx_u hi7 90 34 ((a2 + (1 : Int32)) - (a2 + (1 : Int32)) / (4 : Int32) * (4 : Int32))) hl7 v7) (fun r h2 => ∃ z12 : Int32, r = some (.int z12) ∧ rx_ok2 L t h2 (fun hi12 hl12 v12 => rx_me 181 [.ref 90, .int z12, .int (hi12 90 34)] (rx_hp L t hi12 hl12 v12) (fun r h2 => ∃ z13 : Int32, r = some (.int z13) ∧ rx_ok2 L t h2 (fun hi13 hl13 v13 => Q (some (.int (1 : Int32))) (rx_hp L t (rx_u hi13 90 33 z13) hl13 v13)))))))))))) ∧ (¬ ((2 : Int32) < a3) → ((a3 = (1 : Int32) → rx_me 181 [.ref 90, .int a1, .int a2] (rx_hp L t hi2 hl2 v2) (fun r h2 => ∃ z15 : Int32, r = some (.int z15) ∧ rx_ok2 L t h2 (fun hi15 hl15 v15 => ((((rx_u hi15 90 33 z15) 90 33) < 0 → Q (some (.int (0 : Int32))) (rx_hp L t (rx_u hi15 90 33 z15) hl15 v15)) ∧ (¬ (((rx_u hi15 90 33 z15) 90 33) < 0) → rx_me 179 [.ref 90, .int a0, .int ((rx_u hi15 90 33 z15) 90 33), .int a2] (rx_hp L t (rx_u hi15 90 33 z15) hl15 v15) (fun r h2 => ∃ z17 : Int64, r = some (.long z17) ∧ rx_ok2 L t h2 (fun hi17 hl17 v17 => (((lg_cmp z17 (0 : Int64)) = 0 → Q (some (.int (0 : Int32))) (rx_hp L t hi17 hl17 v17)) ∧ (¬ ((lg_cmp z17 (0 : Int64)) = 0) → Q (some (.int (1 : Int32))) (rx_hp L t hi17 hl17 v17)))))))))) ∧ (¬ (a3 = (1 : Int32)) → rx_me 181 [.ref 90, .int a1, .int ((a2 + (2 : Int32)) - (a2 + (2 : Int32)) / (4 : Int32) * (4 : Int32))] (rx_hp L t hi2 hl2 v2) (fun r h2 => ∃ z19 : Int32, r = some (.int z19) ∧ rx_ok2 L t h2 (fun hi19 hl19 v19 => ((((rx_u hi19 90 33 z19) 90 33) < 0 → Q (some (.int (0 : Int32))) (rx_hp L t (rx_u hi19 90 33 z19) hl19 v19)) ∧ (¬ (((rx_u hi19 90 33 z19) 90 33) < 0) → rx_me 179 [.ref 90, .int a0, .int ((rx_u hi19 90 33 z19) 90 33), .int a2] (rx_hp L t (rx_u hi19 90 33 z19) hl19 v19) (fun r h2 => ∃ z21 : Int64, r = some (.long z21) ∧ rx_ok2 L t h2 (fun hi21 hl21 v21 => (((lg_cmp z21 (0 : Int64)) = 0 → Q (some (.int (0 : Int32))) (rx_hp L t hi21 hl21 v21)) ∧ (¬ ((lg_cmp z21 (0 : Int64)) = 0) → Q (some (.int (1 : Int32))) (rx_hp L t hi21 hl21 v21)))))))))))))))))))) : rx_me 184 [.ref 90, .int a0, .int a1, .int a2, .int a3] (rx_hp L t hi hl v) Q := by
  show rx_aw 184 0 [.ref 90, .int a0, .int a1, .int a2, .int a3] [] (rx_hp L t hi hl v) Q
  refine rx_aw_s 8 (pc := 0) rfl ?_
  refine rx_w_ifn (c := a3 = 0) ⟨fun c1 => ?_, fun c1 => ?_⟩
  · have k := k.1 c1
    show rx_aw 184 15 [.ref 90, .int a0, .int a1, .int a2, .int a3] [] (rx_hp L t (rx_u (rx_u hi 90 33 a1) 90 34 a2) hl v) Q
    refine rx_aw_s 1 (pc := 15) rfl ?_
    show rx_aw 184 16 [.ref 90, .int a0, .int a1, .int a2, .int a3] [.int (1 : Int32)] (rx_hp L t (rx_u (rx_u hi 90 33 a1) 90 34 a2) hl v) Q
    exact rx_aw_ret (pc := 16) rfl k
  · have k := k.2 c1
    show rx_aw 184 17 [.ref 90, .int a0, .int a1, .int a2, .int a3] [] (rx_hp L t (rx_u (rx_u hi 90 33 a1) 90 34 a2) hl v) Q
    refine rx_aw_s 2 (pc := 17) rfl ?_
    show rx_aw 184 19 [.ref 90, .int a0, .int a1, .int a2, .int a3] [.int a0, .ref 90] (rx_hp L t (rx_u (rx_u hi 90 33 a1) 90 34 a2) hl v) Q
    refine rx_w_callI (j := 180) (pc := 19) rfl rfl rfl rfl rfl ?_
    refine rx_aw.mono k (fun r h2 k => ?_)
    obtain ⟨z2, rfl, hi2, hl2, v2, rfl, k⟩ := k
    refine ⟨z2, rfl, ?_⟩
    show rx_aw 184 22 [.ref 90, .int a0, .int a1, .int a2, .int a3] [.int z2] (rx_hp L t hi2 hl2 v2) Q
    refine rx_aw_s 1 (pc := 22) rfl ?_
    refine rx_w_ifn (c := z2 = 0) ⟨fun c3 => ?_, fun c3 => ?_⟩
    · have k := k.1 c3
      show rx_aw 184 25 [.ref 90, .int a0, .int a1, .int a2, .int a3] [] (rx_hp L t hi2 hl2 v2) Q
      refine rx_aw_s 11 (pc := 25) rfl ?_
      show rx_aw 184 40 [.ref 90, .int a0, .int a1, .int a2, .int a3] [.int (a3 - (1 : Int32)), .int a1, .ref 90, .ref 90] (rx_hp L t (rx_u hi2 90 34 (a3 - (1 : Int32))) hl2 v2) Q
      refine rx_w_callI (j := 181) (pc := 40) rfl rfl rfl rfl rfl ?_
      refine rx_aw.mono k (fun r h2 k => ?_)
      obtain ⟨z4, rfl, hi4, hl4, v4, rfl, k⟩ := k
      refine ⟨z4, rfl, ?_⟩
      show rx_aw 184 43 [.ref 90, .int a0, .int a1, .int a2, .int a3] [.int z4, .ref 90] (rx_hp L t hi4 hl4 v4) Q
      refine rx_aw_s 4 (pc := 43) rfl ?_
      refine rx_w_if (c := ((rx_u hi4 90 33 z4) 90 33) < 0) ⟨fun c5 => ?_, fun c5 => ?_⟩
      · have k := k.1 c5
        show rx_aw 184 57 [.ref 90, .int a0, .int a1, .int a2, .int a3] [] (rx_hp L t (rx_u hi4 90 33 z4) hl4 v4) Q
        refine rx_aw_s 1 (pc := 57) rfl ?_
        show rx_aw 184 58 [.ref 90, .int a0, .int a1, .int a2, .int a3] [.int (0 : Int32)] (rx_hp L t (rx_u hi4 90 33 z4) hl4 v4) Q
        exact rx_aw_ret (pc := 58) rfl k
      · have k := k.2 c5
        show rx_aw 184 53 [.ref 90, .int a0, .int a1, .int a2, .int a3] [] (rx_hp L t (rx_u hi4 90 33 z4) hl4 v4) Q
        refine rx_aw_s 2 (pc := 53) rfl ?_
        show rx_aw 184 58 [.ref 90, .int a0, .int a1, .int a2, .int a3] [.int (1 : Int32)] (rx_hp L t (rx_u hi4 90 33 z4) hl4 v4) Q
        exact rx_aw_ret (pc := 58) rfl k
    · have k := k.2 c3
      show rx_aw 184 59 [.ref 90, .int a0, .int a1, .int a2, .int a3] [] (rx_hp L t hi2 hl2 v2) Q
      refine rx_aw_s 3 (pc := 59) rfl ?_
      refine rx_w_if (c := (2 : Int32) < a3) ⟨fun c6 => ?_, fun c6 => ?_⟩
      · have k := k.1 c6
        show rx_aw 184 117 [.ref 90, .int a0, .int a1, .int a2, .int a3] [] (rx_hp L t hi2 hl2 v2) Q
        refine rx_aw_s 4 (pc := 117) rfl ?_
        show rx_aw 184 122 [.ref 90, .int a0, .int a1, .int a2, .int a3] [.int a3, .int a2, .int a1, .ref 90] (rx_hp L t hi2 hl2 v2) Q
        refine rx_w_callL (j := 185) (pc := 122) rfl rfl rfl rfl rfl ?_
        refine rx_aw.mono k (fun r h2 k => ?_)
        obtain ⟨z7, rfl, hi7, hl7, v7, rfl, k⟩ := k
        refine ⟨z7, rfl, ?_⟩
        show rx_aw 184 125 [.ref 90, .int a0, .int a1, .int a2, .int a3] [.long z7] (rx_hp L t hi7 hl7 v7) Q
        refine rx_aw_s 3 (pc := 125) rfl ?_
        refine rx_w_ifn (c := (lg_cmp z7 (0 : Int64)) = 0) ⟨fun c8 => ?_, fun c8 => ?_⟩
        · have k := k.1 c8
          show rx_aw 184 130 [.ref 90, .int a0, .int a1, .int a2, .int a3] [] (rx_hp L t hi7 hl7 v7) Q
          refine rx_aw_s 1 (pc := 130) rfl ?_
          show rx_aw 184 131 [.ref 90, .int a0, .int a1, .int a2, .int a3] [.int (0 : Int32)] (rx_hp L t hi7 hl7 v7) Q
          exact rx_aw_ret (pc := 131) rfl k
        · have k := k.2 c8
          show rx_aw 184 132 [.ref 90, .int a0, .int a1, .int a2, .int a3] [] (rx_hp L t hi7 hl7 v7) Q
          refine rx_aw_s 4 (pc := 132) rfl ?_
          refine rx_w_ifn (c := a3 = (3 : Int32)) ⟨fun c9 => ?_, fun c9 => ?_⟩
          · have k := k.1 c9
            show rx_aw 184 139 [.ref 90, .int a0, .int a1, .int a2, .int a3] [.ref 90] (rx_hp L t hi7 hl7 v7) Q
            refine rx_aw_s 4 (pc := 139) rfl ?_
            show rx_aw 184 143 [.ref 90, .int a0, .int a1, .int a2, .int a3] [.int (4 : Int32), .int (a2 + (3 : Int32)), .ref 90] (rx_hp L t hi7 hl7 v7) Q
            refine rx_aw_rem (pc := 143) rfl (by decide) ?_
            show rx_aw 184 144 [.ref 90, .int a0, .int a1, .int a2, .int a3] [.int ((a2 + (3 : Int32)) - (a2 + (3 : Int32)) / (4 : Int32) * (4 : Int32)), .ref 90] (rx_hp L t hi7 hl7 v7) Q
            refine rx_aw_s 10 (pc := 144) rfl ?_
            show rx_aw 184 163 [.ref 90, .int a0, .int a1, .int a2, .int a3] [.int (4 : Int32), .int (a2 + (2 : Int32)), .int a1, .ref 90, .ref 90, .ref 90] (rx_hp L t (rx_u hi7 90 34 ((a2 + (3 : Int32)) - (a2 + (3 : Int32)) / (4 : Int32) * (4 : Int32))) hl7 v7) Q
            refine rx_aw_rem (pc := 163) rfl (by decide) ?_
            show rx_aw 184 164 [.ref 90, .int a0, .int a1, .int a2, .int a3] [.int ((a2 + (2 : Int32)) - (a2 + (2 : Int32)) / (4 : Int32) * (4 : Int32)), .int a1, .ref 90, .ref 90, .ref 90] (rx_hp L t (rx_u hi7 90 34 ((a2 + (3 : Int32)) - (a2 + (3 : Int32)) / (4 : Int32) * (4 : Int32))) hl7 v7) Q
            refine rx_w_callI (j := 181) (pc := 164) rfl rfl rfl rfl rfl ?_
            refine rx_aw.mono k (fun r h2 k => ?_)
            obtain ⟨z10, rfl, hi10, hl10, v10, rfl, k⟩ := k
            refine ⟨z10, rfl, ?_⟩
            show rx_aw 184 167 [.ref 90, .int a0, .int a1, .int a2, .int a3] [.int z10, .ref 90, .ref 90] (rx_hp L t hi10 hl10 v10) Q
            refine rx_aw_s 2 (pc := 167) rfl ?_
            show rx_aw 184 171 [.ref 90, .int a0, .int a1, .int a2, .int a3] [.int (hi10 90 34), .int z10, .ref 90, .ref 90] (rx_hp L t hi10 hl10 v10) Q
            refine rx_w_callI (j := 181) (pc := 171) rfl rfl rfl rfl rfl ?_
            refine rx_aw.mono k (fun r h2 k => ?_)
            obtain ⟨z11, rfl, hi11, hl11, v11, rfl, k⟩ := k
            refine ⟨z11, rfl, ?_⟩
            show rx_aw 184 174 [.ref 90, .int a0, .int a1, .int a2, .int a3] [.int z11, .ref 90] (rx_hp L t hi11 hl11 v11) Q
            refine rx_aw_s 2 (pc := 174) rfl ?_
            show rx_aw 184 178 [.ref 90, .int a0, .int a1, .int a2, .int a3] [.int (1 : Int32)] (rx_hp L t (rx_u hi11 90 33 z11) hl11 v11) Q
            exact rx_aw_ret (pc := 178) rfl k
          · have k := k.2 c9
            show rx_aw 184 147 [.ref 90, .int a0, .int a1, .int a2, .int a3] [.ref 90] (rx_hp L t hi7 hl7 v7) Q
            refine rx_aw_s 4 (pc := 147) rfl ?_
            show rx_aw 184 151 [.ref 90, .int a0, .int a1, .int a2, .int a3] [.int (4 : Int32), .int (a2 + (1 : Int32)), .ref 90] (rx_hp L t hi7 hl7 v7) Q
            refine rx_aw_rem (pc := 151) rfl (by decide) ?_
            show rx_aw 184 152 [.ref 90, .int a0, .int a1, .int a2, .int a3] [.int ((a2 + (1 : Int32)) - (a2 + (1 : Int32)) / (4 : Int32) * (4 : Int32)), .ref 90] (rx_hp L t hi7 hl7 v7) Q
            refine rx_aw_s 9 (pc := 152) rfl ?_
            show rx_aw 184 163 [.ref 90, .int a0, .int a1, .int a2, .int a3] [.int (4 : Int32), .int (a2 + (2 : Int32)), .int a1, .ref 90, .ref 90, .ref 90] (rx_hp L t (rx_u hi7 90 34 ((a2 + (1 : Int32)) - (a2 + (1 : Int32)) / (4 : Int32) * (4 : Int32))) hl7 v7) Q
            refine rx_aw_rem (pc := 163) rfl (by decide) ?_
            show rx_aw 184 164 [.ref 90, .int a0, .int a1, .int a2, .int a3] [.int ((a2 + (2 : Int32)) - (a2 + (2 : Int32)) / (4 : Int32) * (4 : Int32)), .int a1, .ref 90, .ref 90, .ref 90] (rx_hp L t (rx_u hi7 90 34 ((a2 + (1 : Int32)) - (a2 + (1 : Int32)) / (4 : Int32) * (4 : Int32))) hl7 v7) Q
            refine rx_w_callI (j := 181) (pc := 164) rfl rfl rfl rfl rfl ?_
            refine rx_aw.mono k (fun r h2 k => ?_)
            obtain ⟨z12, rfl, hi12, hl12, v12, rfl, k⟩ := k
            refine ⟨z12, rfl, ?_⟩
            show rx_aw 184 167 [.ref 90, .int a0, .int a1, .int a2, .int a3] [.int z12, .ref 90, .ref 90] (rx_hp L t hi12 hl12 v12) Q
            refine rx_aw_s 2 (pc := 167) rfl ?_
            show rx_aw 184 171 [.ref 90, .int a0, .int a1, .int a2, .int a3] [.int (hi12 90 34), .int z12, .ref 90, .ref 90] (rx_hp L t hi12 hl12 v12) Q
            refine rx_w_callI (j := 181) (pc := 171) rfl rfl rfl rfl rfl ?_
            refine rx_aw.mono k (fun r h2 k => ?_)
            obtain ⟨z13, rfl, hi13, hl13, v13, rfl, k⟩ := k
            refine ⟨z13, rfl, ?_⟩
            show rx_aw 184 174 [.ref 90, .int a0, .int a1, .int a2, .int a3] [.int z13, .ref 90] (rx_hp L t hi13 hl13 v13) Q
            refine rx_aw_s 2 (pc := 174) rfl ?_
            show rx_aw 184 178 [.ref 90, .int a0, .int a1, .int a2, .int a3] [.int (1 : Int32)] (rx_hp L t (rx_u hi13 90 33 z13) hl13 v13) Q
            exact rx_aw_ret (pc := 178) rfl k
      · have k := k.2 c6
        show rx_aw 184 65 [.ref 90, .int a0, .int a1, .int a2, .int a3] [] (rx_hp L t hi2 hl2 v2) Q
        refine rx_aw_s 6 (pc := 65) rfl ?_
        refine rx_w_ifn (c := a3 = (1 : Int32)) ⟨fun c14 => ?_, fun c14 => ?_⟩
        · have k := k.1 c14
          show rx_aw 184 74 [.ref 90, .int a0, .int a1, .int a2, .int a3] [.int a1, .ref 90, .ref 90] (rx_hp L t hi2 hl2 v2) Q
          refine rx_aw_s 2 (pc := 74) rfl ?_
          show rx_aw 184 83 [.ref 90, .int a0, .int a1, .int a2, .int a3] [.int a2, .int a1, .ref 90, .ref 90] (rx_hp L t hi2 hl2 v2) Q
          refine rx_w_callI (j := 181) (pc := 83) rfl rfl rfl rfl rfl ?_
          refine rx_aw.mono k (fun r h2 k => ?_)
          obtain ⟨z15, rfl, hi15, hl15, v15, rfl, k⟩ := k
          refine ⟨z15, rfl, ?_⟩
          show rx_aw 184 86 [.ref 90, .int a0, .int a1, .int a2, .int a3] [.int z15, .ref 90] (rx_hp L t hi15 hl15 v15) Q
          refine rx_aw_s 4 (pc := 86) rfl ?_
          refine rx_w_if (c := ((rx_u hi15 90 33 z15) 90 33) < 0) ⟨fun c16 => ?_, fun c16 => ?_⟩
          · have k := k.1 c16
            show rx_aw 184 115 [.ref 90, .int a0, .int a1, .int a2, .int a3] [] (rx_hp L t (rx_u hi15 90 33 z15) hl15 v15) Q
            refine rx_aw_s 1 (pc := 115) rfl ?_
            show rx_aw 184 116 [.ref 90, .int a0, .int a1, .int a2, .int a3] [.int (0 : Int32)] (rx_hp L t (rx_u hi15 90 33 z15) hl15 v15) Q
            exact rx_aw_ret (pc := 116) rfl k
          · have k := k.2 c16
            show rx_aw 184 96 [.ref 90, .int a0, .int a1, .int a2, .int a3] [] (rx_hp L t (rx_u hi15 90 33 z15) hl15 v15) Q
            refine rx_aw_s 5 (pc := 96) rfl ?_
            show rx_aw 184 103 [.ref 90, .int a0, .int a1, .int a2, .int a3] [.int a2, .int ((rx_u hi15 90 33 z15) 90 33), .int a0, .ref 90] (rx_hp L t (rx_u hi15 90 33 z15) hl15 v15) Q
            refine rx_w_callL (j := 179) (pc := 103) rfl rfl rfl rfl rfl ?_
            refine rx_aw.mono k (fun r h2 k => ?_)
            obtain ⟨z17, rfl, hi17, hl17, v17, rfl, k⟩ := k
            refine ⟨z17, rfl, ?_⟩
            show rx_aw 184 106 [.ref 90, .int a0, .int a1, .int a2, .int a3] [.long z17] (rx_hp L t hi17 hl17 v17) Q
            refine rx_aw_s 3 (pc := 106) rfl ?_
            refine rx_w_if (c := (lg_cmp z17 (0 : Int64)) = 0) ⟨fun c18 => ?_, fun c18 => ?_⟩
            · have k := k.1 c18
              show rx_aw 184 115 [.ref 90, .int a0, .int a1, .int a2, .int a3] [] (rx_hp L t hi17 hl17 v17) Q
              refine rx_aw_s 1 (pc := 115) rfl ?_
              show rx_aw 184 116 [.ref 90, .int a0, .int a1, .int a2, .int a3] [.int (0 : Int32)] (rx_hp L t hi17 hl17 v17) Q
              exact rx_aw_ret (pc := 116) rfl k
            · have k := k.2 c18
              show rx_aw 184 111 [.ref 90, .int a0, .int a1, .int a2, .int a3] [] (rx_hp L t hi17 hl17 v17) Q
              refine rx_aw_s 2 (pc := 111) rfl ?_
              show rx_aw 184 116 [.ref 90, .int a0, .int a1, .int a2, .int a3] [.int (1 : Int32)] (rx_hp L t hi17 hl17 v17) Q
              exact rx_aw_ret (pc := 116) rfl k
        · have k := k.2 c14
          show rx_aw 184 78 [.ref 90, .int a0, .int a1, .int a2, .int a3] [.int a1, .ref 90, .ref 90] (rx_hp L t hi2 hl2 v2) Q
          refine rx_aw_s 4 (pc := 78) rfl ?_
          show rx_aw 184 82 [.ref 90, .int a0, .int a1, .int a2, .int a3] [.int (4 : Int32), .int (a2 + (2 : Int32)), .int a1, .ref 90, .ref 90] (rx_hp L t hi2 hl2 v2) Q
          refine rx_aw_rem (pc := 82) rfl (by decide) ?_
          show rx_aw 184 83 [.ref 90, .int a0, .int a1, .int a2, .int a3] [.int ((a2 + (2 : Int32)) - (a2 + (2 : Int32)) / (4 : Int32) * (4 : Int32)), .int a1, .ref 90, .ref 90] (rx_hp L t hi2 hl2 v2) Q
          refine rx_w_callI (j := 181) (pc := 83) rfl rfl rfl rfl rfl ?_
          refine rx_aw.mono k (fun r h2 k => ?_)
          obtain ⟨z19, rfl, hi19, hl19, v19, rfl, k⟩ := k
          refine ⟨z19, rfl, ?_⟩
          show rx_aw 184 86 [.ref 90, .int a0, .int a1, .int a2, .int a3] [.int z19, .ref 90] (rx_hp L t hi19 hl19 v19) Q
          refine rx_aw_s 4 (pc := 86) rfl ?_
          refine rx_w_if (c := ((rx_u hi19 90 33 z19) 90 33) < 0) ⟨fun c20 => ?_, fun c20 => ?_⟩
          · have k := k.1 c20
            show rx_aw 184 115 [.ref 90, .int a0, .int a1, .int a2, .int a3] [] (rx_hp L t (rx_u hi19 90 33 z19) hl19 v19) Q
            refine rx_aw_s 1 (pc := 115) rfl ?_
            show rx_aw 184 116 [.ref 90, .int a0, .int a1, .int a2, .int a3] [.int (0 : Int32)] (rx_hp L t (rx_u hi19 90 33 z19) hl19 v19) Q
            exact rx_aw_ret (pc := 116) rfl k
          · have k := k.2 c20
            show rx_aw 184 96 [.ref 90, .int a0, .int a1, .int a2, .int a3] [] (rx_hp L t (rx_u hi19 90 33 z19) hl19 v19) Q
            refine rx_aw_s 5 (pc := 96) rfl ?_
            show rx_aw 184 103 [.ref 90, .int a0, .int a1, .int a2, .int a3] [.int a2, .int ((rx_u hi19 90 33 z19) 90 33), .int a0, .ref 90] (rx_hp L t (rx_u hi19 90 33 z19) hl19 v19) Q
            refine rx_w_callL (j := 179) (pc := 103) rfl rfl rfl rfl rfl ?_
            refine rx_aw.mono k (fun r h2 k => ?_)
            obtain ⟨z21, rfl, hi21, hl21, v21, rfl, k⟩ := k
            refine ⟨z21, rfl, ?_⟩
            show rx_aw 184 106 [.ref 90, .int a0, .int a1, .int a2, .int a3] [.long z21] (rx_hp L t hi21 hl21 v21) Q
            refine rx_aw_s 3 (pc := 106) rfl ?_
            refine rx_w_if (c := (lg_cmp z21 (0 : Int64)) = 0) ⟨fun c22 => ?_, fun c22 => ?_⟩
            · have k := k.1 c22
              show rx_aw 184 115 [.ref 90, .int a0, .int a1, .int a2, .int a3] [] (rx_hp L t hi21 hl21 v21) Q
              refine rx_aw_s 1 (pc := 115) rfl ?_
              show rx_aw 184 116 [.ref 90, .int a0, .int a1, .int a2, .int a3] [.int (0 : Int32)] (rx_hp L t hi21 hl21 v21) Q
              exact rx_aw_ret (pc := 116) rfl k
            · have k := k.2 c22
              show rx_aw 184 111 [.ref 90, .int a0, .int a1, .int a2, .int a3] [] (rx_hp L t hi21 hl21 v21) Q
              refine rx_aw_s 2 (pc := 111) rfl ?_
              show rx_aw 184 116 [.ref 90, .int a0, .int a1, .int a2, .int a3] [.int (1 : Int32)] (rx_hp L t hi21 hl21 v21) Q
              exact rx_aw_ret (pc := 116) rfl k
set_option maxRecDepth 100000 in
/-- CartFloorModel.four(III)J -/
theorem w185_four_r {L : Nat} {t : List (Nat × Nat)} {hi : Nat → Nat → Int32} {hl : Nat → Nat → Int64} {v : Nat → Nat → Option Nat} {Q : Option Value → rx_H → Prop} {a0 : Int32} {a1 : Int32} {a2 : Int32} (k : ((a2 = (3 : Int32) → rx_me 181 [.ref 90, .int a0, .int ((a1 + (2 : Int32)) - (a1 + (2 : Int32)) / (4 : Int32) * (4 : Int32))] (rx_hp L t hi hl v) (fun r h2 => ∃ z2 : Int32, r = some (.int z2) ∧ rx_ok2 L t h2 (fun hi2 hl2 v2 => ((0 ≤ z2 → rx_me 181 [.ref 90, .int z2, .int ((a1 + (3 : Int32)) - (a1 + (3 : Int32)) / (4 : Int32) * (4 : Int32))] (rx_hp L t hi2 hl2 v2) (fun r h2 => ∃ z4 : Int32, r = some (.int z4) ∧ rx_ok2 L t h2 (fun hi4 hl4 v4 => rx_me 181 [.ref 90, .int a0, .int ((a1 + (3 : Int32)) - (a1 + (3 : Int32)) / (4 : Int32) * (4 : Int32))] (rx_hp L t hi4 hl4 v4) (fun r h2 => ∃ z5 : Int32, r = some (.int z5) ∧ rx_ok2 L t h2 (fun hi5 hl5 v5 => ((z4 < 0 → Q (some (.long (0 : Int64))) (rx_hp L t hi5 hl5 v5)) ∧ (¬ (z4 < 0) → ((0 ≤ z5 → rx_me 169 [.int a0] (rx_hp L t hi5 hl5 v5) (fun r h2 => ∃ z8 : Int64, r = some (.long z8) ∧ rx_ok2 L t h2 (fun hi8 hl8 v8 => rx_me 169 [.int z2] (rx_hp L t hi8 hl8 v8) (fun r h2 => ∃ z9 : Int64, r = some (.long z9) ∧ rx_ok2 L t h2 (fun hi9 hl9 v9 => rx_me 169 [.int z4] (rx_hp L t hi9 hl9 v9) (fun r h2 => ∃ z10 : Int64, r = some (.long z10) ∧ rx_ok2 L t h2 (fun hi10 hl10 v10 => rx_me 169 [.int z5] (rx_hp L t hi10 hl10 v10) (fun r h2 => ∃ z11 : Int64, r = some (.long z11) ∧ rx_ok2 L t h2 (fun hi11 hl11 v11 => Q (some (.long (((z8 ||| z9) ||| z10) ||| z11))) (rx_hp L t hi11 hl11 v11)))))))))) ∧ (¬ (0 ≤ z5) → Q (some (.long (0 : Int64))) (rx_hp L t hi5 hl5 v5)))))))))) ∧ (¬ (0 ≤ z2) → rx_me 181 [.ref 90, .int a0, .int ((a1 + (3 : Int32)) - (a1 + (3 : Int32)) / (4 : Int32) * (4 : Int32))] (rx_hp L t hi2 hl2 v2) (fun r h2 => ∃ z12 : Int32, r = some (.int z12) ∧ rx_ok2 L t h2 (fun hi12 hl12 v12 => Q (some (.long (0 : Int64))) (rx_hp L t hi12 hl12 v12)))))))) ∧ (¬ (a2 = (3 : Int32)) → rx_me 181 [.ref 90, .int a0, .int ((a1 + (2 : Int32)) - (a1 + (2 : Int32)) / (4 : Int32) * (4 : Int32))] (rx_hp L t hi hl v) (fun r h2 => ∃ z13 : Int32, r = some (.int z13) ∧ rx_ok2 L t h2 (fun hi13 hl13 v13 => ((0 ≤ z13 → rx_me 181 [.ref 90, .int z13, .int ((a1 + (1 : Int32)) - (a1 + (1 : Int32)) / (4 : Int32) * (4 : Int32))] (rx_hp L t hi13 hl13 v13) (fun r h2 => ∃ z15 : Int32, r = some (.int z15) ∧ rx_ok2 L t h2 (fun hi15 hl15 v15 => rx_me 181 [.ref 90, .int a0, .int ((a1 + (1 : Int32)) - (a1 + (1 : Int32)) / (4 : Int32) * (4 : Int32))] (rx_hp L t hi15 hl15 v15) (fun r h2 => ∃ z16 : Int32, r = some (.int z16) ∧ rx_ok2 L t h2 (fun hi16 hl16 v16 => ((z15 < 0 → Q (some (.long (0 : Int64))) (rx_hp L t hi16 hl16 v16)) ∧ (¬ (z15 < 0) → ((0 ≤ z16 → rx_me 169 [.int a0] (rx_hp L t hi16 hl16 v16) (fun r h2 => ∃ z19 : Int64, r = some (.long z19) ∧ rx_ok2 L t h2 (fun hi19 hl19 v19 => rx_me 169 [.int z13] (rx_hp L t hi19 hl19 v19) (fun r h2 => ∃ z20 : Int64, r = some (.long z20) ∧ rx_ok2 L t h2 (fun hi20 hl20 v20 => rx_me 169 [.int z15] (rx_hp L t hi20 hl20 v20) (fun r h2 => ∃ z21 : Int64, r = some (.long z21) ∧ rx_ok2 L t h2 (fun hi21 hl21 v21 => rx_me 169 [.int z16] (rx_hp L t hi21 hl21 v21) (fun r h2 => ∃ z22 : Int64, r = some (.long z22) ∧ rx_ok2 L t h2 (fun hi22 hl22 v22 => Q (some (.long (((z19 ||| z20) ||| z21) ||| z22))) (rx_hp L t hi22 hl22 v22)))))))))) ∧ (¬ (0 ≤ z16) → Q (some (.long (0 : Int64))) (rx_hp L t hi16 hl16 v16)))))))))) ∧ (¬ (0 ≤ z13) → rx_me 181 [.ref 90, .int a0, .int ((a1 + (1 : Int32)) - (a1 + (1 : Int32)) / (4 : Int32) * (4 : Int32))] (rx_hp L t hi13 hl13 v13) (fun r h2 => ∃ z23 : Int32, r = some (.int z23) ∧ rx_ok2 L t h2 (fun hi23 hl23 v23 => Q (some (.long (0 : Int64))) (rx_hp L t hi23 hl23 v23)))))))))) : rx_me 185 [.ref 90, .int a0, .int a1, .int a2] (rx_hp L t hi hl v) Q := by
  show rx_aw 185 0 [.ref 90, .int a0, .int a1, .int a2, rx_no, rx_no, rx_no, rx_no] [] (rx_hp L t hi hl v) Q
  refine rx_aw_s 3 (pc := 0) rfl ?_
  refine rx_w_ifn (c := a2 = (3 : Int32)) ⟨fun c1 => ?_, fun c1 => ?_⟩
  · have k := k.1 c1
    show rx_aw 185 5 [.ref 90, .int a0, .int a1, .int a2, rx_no, rx_no, rx_no, rx_no] [] (rx_hp L t hi hl v) Q
    refine rx_aw_s 4 (pc := 5) rfl ?_
    show rx_aw 185 9 [.ref 90, .int a0, .int a1, .int a2, rx_no, rx_no, rx_no, rx_no] [.int (4 : Int32), .int (a1 + (3 : Int32))] (rx_hp L t hi hl v) Q
    refine rx_aw_rem (pc := 9) rfl (by decide) ?_
    show rx_aw 185 10 [.ref 90, .int a0, .int a1, .int a2, rx_no, rx_no, rx_no, rx_no] [.int ((a1 + (3 : Int32)) - (a1 + (3 : Int32)) / (4 : Int32) * (4 : Int32))] (rx_hp L t hi hl v) Q
    refine rx_aw_s 8 (pc := 10) rfl ?_
    show rx_aw 185 26 [.ref 90, .int a0, .int a1, .int a2, .int ((a1 + (3 : Int32)) - (a1 + (3 : Int32)) / (4 : Int32) * (4 : Int32)), rx_no, rx_no, rx_no] [.int (4 : Int32), .int (a1 + (2 : Int32)), .int a0, .ref 90] (rx_hp L t hi hl v) Q
    refine rx_aw_rem (pc := 26) rfl (by decide) ?_
    show rx_aw 185 27 [.ref 90, .int a0, .int a1, .int a2, .int ((a1 + (3 : Int32)) - (a1 + (3 : Int32)) / (4 : Int32) * (4 : Int32)), rx_no, rx_no, rx_no] [.int ((a1 + (2 : Int32)) - (a1 + (2 : Int32)) / (4 : Int32) * (4 : Int32)), .int a0, .ref 90] (rx_hp L t hi hl v) Q
    refine rx_w_callI (j := 181) (pc := 27) rfl rfl rfl rfl rfl ?_
    refine rx_aw.mono k (fun r h2 k => ?_)
    obtain ⟨z2, rfl, hi2, hl2, v2, rfl, k⟩ := k
    refine ⟨z2, rfl, ?_⟩
    show rx_aw 185 30 [.ref 90, .int a0, .int a1, .int a2, .int ((a1 + (3 : Int32)) - (a1 + (3 : Int32)) / (4 : Int32) * (4 : Int32)), rx_no, rx_no, rx_no] [.int z2] (rx_hp L t hi2 hl2 v2) Q
    refine rx_aw_s 3 (pc := 30) rfl ?_
    refine rx_w_if (c := 0 ≤ z2) ⟨fun c3 => ?_, fun c3 => ?_⟩
    · have k := k.1 c3
      show rx_aw 185 41 [.ref 90, .int a0, .int a1, .int a2, .int ((a1 + (3 : Int32)) - (a1 + (3 : Int32)) / (4 : Int32) * (4 : Int32)), .int z2, rx_no, rx_no] [] (rx_hp L t hi2 hl2 v2) Q
      refine rx_aw_s 3 (pc := 41) rfl ?_
      show rx_aw 185 46 [.ref 90, .int a0, .int a1, .int a2, .int ((a1 + (3 : Int32)) - (a1 + (3 : Int32)) / (4 : Int32) * (4 : Int32)), .int z2, rx_no, rx_no] [.int ((a1 + (3 : Int32)) - (a1 + (3 : Int32)) / (4 : Int32) * (4 : Int32)), .int z2, .ref 90] (rx_hp L t hi2 hl2 v2) Q
      refine rx_w_callI (j := 181) (pc := 46) rfl rfl rfl rfl rfl ?_
      refine rx_aw.mono k (fun r h2 k => ?_)
      obtain ⟨z4, rfl, hi4, hl4, v4, rfl, k⟩ := k
      refine ⟨z4, rfl, ?_⟩
      show rx_aw 185 49 [.ref 90, .int a0, .int a1, .int a2, .int ((a1 + (3 : Int32)) - (a1 + (3 : Int32)) / (4 : Int32) * (4 : Int32)), .int z2, rx_no, rx_no] [.int z4] (rx_hp L t hi4 hl4 v4) Q
      refine rx_aw_s 4 (pc := 49) rfl ?_
      show rx_aw 185 55 [.ref 90, .int a0, .int a1, .int a2, .int ((a1 + (3 : Int32)) - (a1 + (3 : Int32)) / (4 : Int32) * (4 : Int32)), .int z2, .int z4, rx_no] [.int ((a1 + (3 : Int32)) - (a1 + (3 : Int32)) / (4 : Int32) * (4 : Int32)), .int a0, .ref 90] (rx_hp L t hi4 hl4 v4) Q
      refine rx_w_callI (j := 181) (pc := 55) rfl rfl rfl rfl rfl ?_
      refine rx_aw.mono k (fun r h2 k => ?_)
      obtain ⟨z5, rfl, hi5, hl5, v5, rfl, k⟩ := k
      refine ⟨z5, rfl, ?_⟩
      show rx_aw 185 58 [.ref 90, .int a0, .int a1, .int a2, .int ((a1 + (3 : Int32)) - (a1 + (3 : Int32)) / (4 : Int32) * (4 : Int32)), .int z2, .int z4, rx_no] [.int z5] (rx_hp L t hi5 hl5 v5) Q
      refine rx_aw_s 3 (pc := 58) rfl ?_
      refine rx_w_if (c := z4 < 0) ⟨fun c6 => ?_, fun c6 => ?_⟩
      · have k := k.1 c6
        show rx_aw 185 70 [.ref 90, .int a0, .int a1, .int a2, .int ((a1 + (3 : Int32)) - (a1 + (3 : Int32)) / (4 : Int32) * (4 : Int32)), .int z2, .int z4, .int z5] [] (rx_hp L t hi5 hl5 v5) Q
        refine rx_aw_s 2 (pc := 70) rfl ?_
        show rx_aw 185 96 [.ref 90, .int a0, .int a1, .int a2, .int ((a1 + (3 : Int32)) - (a1 + (3 : Int32)) / (4 : Int32) * (4 : Int32)), .int z2, .int z4, .int z5] [.long (0 : Int64)] (rx_hp L t hi5 hl5 v5) Q
        exact rx_aw_ret (pc := 96) rfl k
      · have k := k.2 c6
        show rx_aw 185 65 [.ref 90, .int a0, .int a1, .int a2, .int ((a1 + (3 : Int32)) - (a1 + (3 : Int32)) / (4 : Int32) * (4 : Int32)), .int z2, .int z4, .int z5] [] (rx_hp L t hi5 hl5 v5) Q
        refine rx_aw_s 2 (pc := 65) rfl ?_
        refine rx_w_if (c := 0 ≤ z5) ⟨fun c7 => ?_, fun c7 => ?_⟩
        · have k := k.1 c7
          show rx_aw 185 74 [.ref 90, .int a0, .int a1, .int a2, .int ((a1 + (3 : Int32)) - (a1 + (3 : Int32)) / (4 : Int32) * (4 : Int32)), .int z2, .int z4, .int z5] [] (rx_hp L t hi5 hl5 v5) Q
          refine rx_aw_s 1 (pc := 74) rfl ?_
          show rx_aw 185 75 [.ref 90, .int a0, .int a1, .int a2, .int ((a1 + (3 : Int32)) - (a1 + (3 : Int32)) / (4 : Int32) * (4 : Int32)), .int z2, .int z4, .int z5] [.int a0] (rx_hp L t hi5 hl5 v5) Q
          refine rx_w_callL (j := 169) (pc := 75) rfl rfl rfl rfl rfl ?_
          refine rx_aw.mono k (fun r h2 k => ?_)
          obtain ⟨z8, rfl, hi8, hl8, v8, rfl, k⟩ := k
          refine ⟨z8, rfl, ?_⟩
          show rx_aw 185 78 [.ref 90, .int a0, .int a1, .int a2, .int ((a1 + (3 : Int32)) - (a1 + (3 : Int32)) / (4 : Int32) * (4 : Int32)), .int z2, .int z4, .int z5] [.long z8] (rx_hp L t hi8 hl8 v8) Q
          refine rx_aw_s 1 (pc := 78) rfl ?_
          show rx_aw 185 80 [.ref 90, .int a0, .int a1, .int a2, .int ((a1 + (3 : Int32)) - (a1 + (3 : Int32)) / (4 : Int32) * (4 : Int32)), .int z2, .int z4, .int z5] [.int z2, .long z8] (rx_hp L t hi8 hl8 v8) Q
          refine rx_w_callL (j := 169) (pc := 80) rfl rfl rfl rfl rfl ?_
          refine rx_aw.mono k (fun r h2 k => ?_)
          obtain ⟨z9, rfl, hi9, hl9, v9, rfl, k⟩ := k
          refine ⟨z9, rfl, ?_⟩
          show rx_aw 185 83 [.ref 90, .int a0, .int a1, .int a2, .int ((a1 + (3 : Int32)) - (a1 + (3 : Int32)) / (4 : Int32) * (4 : Int32)), .int z2, .int z4, .int z5] [.long z9, .long z8] (rx_hp L t hi9 hl9 v9) Q
          refine rx_aw_s 2 (pc := 83) rfl ?_
          show rx_aw 185 86 [.ref 90, .int a0, .int a1, .int a2, .int ((a1 + (3 : Int32)) - (a1 + (3 : Int32)) / (4 : Int32) * (4 : Int32)), .int z2, .int z4, .int z5] [.int z4, .long (z8 ||| z9)] (rx_hp L t hi9 hl9 v9) Q
          refine rx_w_callL (j := 169) (pc := 86) rfl rfl rfl rfl rfl ?_
          refine rx_aw.mono k (fun r h2 k => ?_)
          obtain ⟨z10, rfl, hi10, hl10, v10, rfl, k⟩ := k
          refine ⟨z10, rfl, ?_⟩
          show rx_aw 185 89 [.ref 90, .int a0, .int a1, .int a2, .int ((a1 + (3 : Int32)) - (a1 + (3 : Int32)) / (4 : Int32) * (4 : Int32)), .int z2, .int z4, .int z5] [.long z10, .long (z8 ||| z9)] (rx_hp L t hi10 hl10 v10) Q
          refine rx_aw_s 2 (pc := 89) rfl ?_
          show rx_aw 185 92 [.ref 90, .int a0, .int a1, .int a2, .int ((a1 + (3 : Int32)) - (a1 + (3 : Int32)) / (4 : Int32) * (4 : Int32)), .int z2, .int z4, .int z5] [.int z5, .long ((z8 ||| z9) ||| z10)] (rx_hp L t hi10 hl10 v10) Q
          refine rx_w_callL (j := 169) (pc := 92) rfl rfl rfl rfl rfl ?_
          refine rx_aw.mono k (fun r h2 k => ?_)
          obtain ⟨z11, rfl, hi11, hl11, v11, rfl, k⟩ := k
          refine ⟨z11, rfl, ?_⟩
          show rx_aw 185 95 [.ref 90, .int a0, .int a1, .int a2, .int ((a1 + (3 : Int32)) - (a1 + (3 : Int32)) / (4 : Int32) * (4 : Int32)), .int z2, .int z4, .int z5] [.long z11, .long ((z8 ||| z9) ||| z10)] (rx_hp L t hi11 hl11 v11) Q
          refine rx_aw_s 1 (pc := 95) rfl ?_
          show rx_aw 185 96 [.ref 90, .int a0, .int a1, .int a2, .int ((a1 + (3 : Int32)) - (a1 + (3 : Int32)) / (4 : Int32) * (4 : Int32)), .int z2, .int z4, .int z5] [.long (((z8 ||| z9) ||| z10) ||| z11)] (rx_hp L t hi11 hl11 v11) Q
          exact rx_aw_ret (pc := 96) rfl k
        · have k := k.2 c7
          show rx_aw 185 70 [.ref 90, .int a0, .int a1, .int a2, .int ((a1 + (3 : Int32)) - (a1 + (3 : Int32)) / (4 : Int32) * (4 : Int32)), .int z2, .int z4, .int z5] [] (rx_hp L t hi5 hl5 v5) Q
          refine rx_aw_s 2 (pc := 70) rfl ?_
          show rx_aw 185 96 [.ref 90, .int a0, .int a1, .int a2, .int ((a1 + (3 : Int32)) - (a1 + (3 : Int32)) / (4 : Int32) * (4 : Int32)), .int z2, .int z4, .int z5] [.long (0 : Int64)] (rx_hp L t hi5 hl5 v5) Q
          exact rx_aw_ret (pc := 96) rfl k
    · have k := k.2 c3
      show rx_aw 185 37 [.ref 90, .int a0, .int a1, .int a2, .int ((a1 + (3 : Int32)) - (a1 + (3 : Int32)) / (4 : Int32) * (4 : Int32)), .int z2, rx_no, rx_no] [] (rx_hp L t hi2 hl2 v2) Q
      refine rx_aw_s 6 (pc := 37) rfl ?_
      show rx_aw 185 55 [.ref 90, .int a0, .int a1, .int a2, .int ((a1 + (3 : Int32)) - (a1 + (3 : Int32)) / (4 : Int32) * (4 : Int32)), .int z2, .int (-1 : Int32), rx_no] [.int ((a1 + (3 : Int32)) - (a1 + (3 : Int32)) / (4 : Int32) * (4 : Int32)), .int a0, .ref 90] (rx_hp L t hi2 hl2 v2) Q
      refine rx_w_callI (j := 181) (pc := 55) rfl rfl rfl rfl rfl ?_
      refine rx_aw.mono k (fun r h2 k => ?_)
      obtain ⟨z12, rfl, hi12, hl12, v12, rfl, k⟩ := k
      refine ⟨z12, rfl, ?_⟩
      show rx_aw 185 58 [.ref 90, .int a0, .int a1, .int a2, .int ((a1 + (3 : Int32)) - (a1 + (3 : Int32)) / (4 : Int32) * (4 : Int32)), .int z2, .int (-1 : Int32), rx_no] [.int z12] (rx_hp L t hi12 hl12 v12) Q
      refine rx_aw_s 5 (pc := 58) rfl ?_
      show rx_aw 185 96 [.ref 90, .int a0, .int a1, .int a2, .int ((a1 + (3 : Int32)) - (a1 + (3 : Int32)) / (4 : Int32) * (4 : Int32)), .int z2, .int (-1 : Int32), .int z12] [.long (0 : Int64)] (rx_hp L t hi12 hl12 v12) Q
      exact rx_aw_ret (pc := 96) rfl k
  · have k := k.2 c1
    show rx_aw 185 13 [.ref 90, .int a0, .int a1, .int a2, rx_no, rx_no, rx_no, rx_no] [] (rx_hp L t hi hl v) Q
    refine rx_aw_s 4 (pc := 13) rfl ?_
    show rx_aw 185 17 [.ref 90, .int a0, .int a1, .int a2, rx_no, rx_no, rx_no, rx_no] [.int (4 : Int32), .int (a1 + (1 : Int32))] (rx_hp L t hi hl v) Q
    refine rx_aw_rem (pc := 17) rfl (by decide) ?_
    show rx_aw 185 18 [.ref 90, .int a0, .int a1, .int a2, rx_no, rx_no, rx_no, rx_no] [.int ((a1 + (1 : Int32)) - (a1 + (1 : Int32)) / (4 : Int32) * (4 : Int32))] (rx_hp L t hi hl v) Q
    refine rx_aw_s 7 (pc := 18) rfl ?_
    show rx_aw 185 26 [.ref 90, .int a0, .int a1, .int a2, .int ((a1 + (1 : Int32)) - (a1 + (1 : Int32)) / (4 : Int32) * (4 : Int32)), rx_no, rx_no, rx_no] [.int (4 : Int32), .int (a1 + (2 : Int32)), .int a0, .ref 90] (rx_hp L t hi hl v) Q
    refine rx_aw_rem (pc := 26) rfl (by decide) ?_
    show rx_aw 185 27 [.ref 90, .int a0, .int a1, .int a2, .int ((a1 + (1 : Int32)) - (a1 + (1 : Int32)) / (4 : Int32) * (4 : Int32)), rx_no, rx_no, rx_no] [.int ((a1 + (2 : Int32)) - (a1 + (2 : Int32)) / (4 : Int32) * (4 : Int32)), .int a0, .ref 90] (rx_hp L t hi hl v) Q
    refine rx_w_callI (j := 181) (pc := 27) rfl rfl rfl rfl rfl ?_
    refine rx_aw.mono k (fun r h2 k => ?_)
    obtain ⟨z13, rfl, hi13, hl13, v13, rfl, k⟩ := k
    refine ⟨z13, rfl, ?_⟩
    show rx_aw 185 30 [.ref 90, .int a0, .int a1, .int a2, .int ((a1 + (1 : Int32)) - (a1 + (1 : Int32)) / (4 : Int32) * (4 : Int32)), rx_no, rx_no, rx_no] [.int z13] (rx_hp L t hi13 hl13 v13) Q
    refine rx_aw_s 3 (pc := 30) rfl ?_
    refine rx_w_if (c := 0 ≤ z13) ⟨fun c14 => ?_, fun c14 => ?_⟩
    · have k := k.1 c14
      show rx_aw 185 41 [.ref 90, .int a0, .int a1, .int a2, .int ((a1 + (1 : Int32)) - (a1 + (1 : Int32)) / (4 : Int32) * (4 : Int32)), .int z13, rx_no, rx_no] [] (rx_hp L t hi13 hl13 v13) Q
      refine rx_aw_s 3 (pc := 41) rfl ?_
      show rx_aw 185 46 [.ref 90, .int a0, .int a1, .int a2, .int ((a1 + (1 : Int32)) - (a1 + (1 : Int32)) / (4 : Int32) * (4 : Int32)), .int z13, rx_no, rx_no] [.int ((a1 + (1 : Int32)) - (a1 + (1 : Int32)) / (4 : Int32) * (4 : Int32)), .int z13, .ref 90] (rx_hp L t hi13 hl13 v13) Q
      refine rx_w_callI (j := 181) (pc := 46) rfl rfl rfl rfl rfl ?_
      refine rx_aw.mono k (fun r h2 k => ?_)
      obtain ⟨z15, rfl, hi15, hl15, v15, rfl, k⟩ := k
      refine ⟨z15, rfl, ?_⟩
      show rx_aw 185 49 [.ref 90, .int a0, .int a1, .int a2, .int ((a1 + (1 : Int32)) - (a1 + (1 : Int32)) / (4 : Int32) * (4 : Int32)), .int z13, rx_no, rx_no] [.int z15] (rx_hp L t hi15 hl15 v15) Q
      refine rx_aw_s 4 (pc := 49) rfl ?_
      show rx_aw 185 55 [.ref 90, .int a0, .int a1, .int a2, .int ((a1 + (1 : Int32)) - (a1 + (1 : Int32)) / (4 : Int32) * (4 : Int32)), .int z13, .int z15, rx_no] [.int ((a1 + (1 : Int32)) - (a1 + (1 : Int32)) / (4 : Int32) * (4 : Int32)), .int a0, .ref 90] (rx_hp L t hi15 hl15 v15) Q
      refine rx_w_callI (j := 181) (pc := 55) rfl rfl rfl rfl rfl ?_
      refine rx_aw.mono k (fun r h2 k => ?_)
      obtain ⟨z16, rfl, hi16, hl16, v16, rfl, k⟩ := k
      refine ⟨z16, rfl, ?_⟩
      show rx_aw 185 58 [.ref 90, .int a0, .int a1, .int a2, .int ((a1 + (1 : Int32)) - (a1 + (1 : Int32)) / (4 : Int32) * (4 : Int32)), .int z13, .int z15, rx_no] [.int z16] (rx_hp L t hi16 hl16 v16) Q
      refine rx_aw_s 3 (pc := 58) rfl ?_
      refine rx_w_if (c := z15 < 0) ⟨fun c17 => ?_, fun c17 => ?_⟩
      · have k := k.1 c17
        show rx_aw 185 70 [.ref 90, .int a0, .int a1, .int a2, .int ((a1 + (1 : Int32)) - (a1 + (1 : Int32)) / (4 : Int32) * (4 : Int32)), .int z13, .int z15, .int z16] [] (rx_hp L t hi16 hl16 v16) Q
        refine rx_aw_s 2 (pc := 70) rfl ?_
        show rx_aw 185 96 [.ref 90, .int a0, .int a1, .int a2, .int ((a1 + (1 : Int32)) - (a1 + (1 : Int32)) / (4 : Int32) * (4 : Int32)), .int z13, .int z15, .int z16] [.long (0 : Int64)] (rx_hp L t hi16 hl16 v16) Q
        exact rx_aw_ret (pc := 96) rfl k
      · have k := k.2 c17
        show rx_aw 185 65 [.ref 90, .int a0, .int a1, .int a2, .int ((a1 + (1 : Int32)) - (a1 + (1 : Int32)) / (4 : Int32) * (4 : Int32)), .int z13, .int z15, .int z16] [] (rx_hp L t hi16 hl16 v16) Q
        refine rx_aw_s 2 (pc := 65) rfl ?_
        refine rx_w_if (c := 0 ≤ z16) ⟨fun c18 => ?_, fun c18 => ?_⟩
        · have k := k.1 c18
          show rx_aw 185 74 [.ref 90, .int a0, .int a1, .int a2, .int ((a1 + (1 : Int32)) - (a1 + (1 : Int32)) / (4 : Int32) * (4 : Int32)), .int z13, .int z15, .int z16] [] (rx_hp L t hi16 hl16 v16) Q
          refine rx_aw_s 1 (pc := 74) rfl ?_
          show rx_aw 185 75 [.ref 90, .int a0, .int a1, .int a2, .int ((a1 + (1 : Int32)) - (a1 + (1 : Int32)) / (4 : Int32) * (4 : Int32)), .int z13, .int z15, .int z16] [.int a0] (rx_hp L t hi16 hl16 v16) Q
          refine rx_w_callL (j := 169) (pc := 75) rfl rfl rfl rfl rfl ?_
          refine rx_aw.mono k (fun r h2 k => ?_)
          obtain ⟨z19, rfl, hi19, hl19, v19, rfl, k⟩ := k
          refine ⟨z19, rfl, ?_⟩
          show rx_aw 185 78 [.ref 90, .int a0, .int a1, .int a2, .int ((a1 + (1 : Int32)) - (a1 + (1 : Int32)) / (4 : Int32) * (4 : Int32)), .int z13, .int z15, .int z16] [.long z19] (rx_hp L t hi19 hl19 v19) Q
          refine rx_aw_s 1 (pc := 78) rfl ?_
          show rx_aw 185 80 [.ref 90, .int a0, .int a1, .int a2, .int ((a1 + (1 : Int32)) - (a1 + (1 : Int32)) / (4 : Int32) * (4 : Int32)), .int z13, .int z15, .int z16] [.int z13, .long z19] (rx_hp L t hi19 hl19 v19) Q
          refine rx_w_callL (j := 169) (pc := 80) rfl rfl rfl rfl rfl ?_
          refine rx_aw.mono k (fun r h2 k => ?_)
          obtain ⟨z20, rfl, hi20, hl20, v20, rfl, k⟩ := k
          refine ⟨z20, rfl, ?_⟩
          show rx_aw 185 83 [.ref 90, .int a0, .int a1, .int a2, .int ((a1 + (1 : Int32)) - (a1 + (1 : Int32)) / (4 : Int32) * (4 : Int32)), .int z13, .int z15, .int z16] [.long z20, .long z19] (rx_hp L t hi20 hl20 v20) Q
          refine rx_aw_s 2 (pc := 83) rfl ?_
          show rx_aw 185 86 [.ref 90, .int a0, .int a1, .int a2, .int ((a1 + (1 : Int32)) - (a1 + (1 : Int32)) / (4 : Int32) * (4 : Int32)), .int z13, .int z15, .int z16] [.int z15, .long (z19 ||| z20)] (rx_hp L t hi20 hl20 v20) Q
          refine rx_w_callL (j := 169) (pc := 86) rfl rfl rfl rfl rfl ?_
          refine rx_aw.mono k (fun r h2 k => ?_)
          obtain ⟨z21, rfl, hi21, hl21, v21, rfl, k⟩ := k
          refine ⟨z21, rfl, ?_⟩
          show rx_aw 185 89 [.ref 90, .int a0, .int a1, .int a2, .int ((a1 + (1 : Int32)) - (a1 + (1 : Int32)) / (4 : Int32) * (4 : Int32)), .int z13, .int z15, .int z16] [.long z21, .long (z19 ||| z20)] (rx_hp L t hi21 hl21 v21) Q
          refine rx_aw_s 2 (pc := 89) rfl ?_
          show rx_aw 185 92 [.ref 90, .int a0, .int a1, .int a2, .int ((a1 + (1 : Int32)) - (a1 + (1 : Int32)) / (4 : Int32) * (4 : Int32)), .int z13, .int z15, .int z16] [.int z16, .long ((z19 ||| z20) ||| z21)] (rx_hp L t hi21 hl21 v21) Q
          refine rx_w_callL (j := 169) (pc := 92) rfl rfl rfl rfl rfl ?_
          refine rx_aw.mono k (fun r h2 k => ?_)
          obtain ⟨z22, rfl, hi22, hl22, v22, rfl, k⟩ := k
          refine ⟨z22, rfl, ?_⟩
          show rx_aw 185 95 [.ref 90, .int a0, .int a1, .int a2, .int ((a1 + (1 : Int32)) - (a1 + (1 : Int32)) / (4 : Int32) * (4 : Int32)), .int z13, .int z15, .int z16] [.long z22, .long ((z19 ||| z20) ||| z21)] (rx_hp L t hi22 hl22 v22) Q
          refine rx_aw_s 1 (pc := 95) rfl ?_
          show rx_aw 185 96 [.ref 90, .int a0, .int a1, .int a2, .int ((a1 + (1 : Int32)) - (a1 + (1 : Int32)) / (4 : Int32) * (4 : Int32)), .int z13, .int z15, .int z16] [.long (((z19 ||| z20) ||| z21) ||| z22)] (rx_hp L t hi22 hl22 v22) Q
          exact rx_aw_ret (pc := 96) rfl k
        · have k := k.2 c18
          show rx_aw 185 70 [.ref 90, .int a0, .int a1, .int a2, .int ((a1 + (1 : Int32)) - (a1 + (1 : Int32)) / (4 : Int32) * (4 : Int32)), .int z13, .int z15, .int z16] [] (rx_hp L t hi16 hl16 v16) Q
          refine rx_aw_s 2 (pc := 70) rfl ?_
          show rx_aw 185 96 [.ref 90, .int a0, .int a1, .int a2, .int ((a1 + (1 : Int32)) - (a1 + (1 : Int32)) / (4 : Int32) * (4 : Int32)), .int z13, .int z15, .int z16] [.long (0 : Int64)] (rx_hp L t hi16 hl16 v16) Q
          exact rx_aw_ret (pc := 96) rfl k
    · have k := k.2 c14
      show rx_aw 185 37 [.ref 90, .int a0, .int a1, .int a2, .int ((a1 + (1 : Int32)) - (a1 + (1 : Int32)) / (4 : Int32) * (4 : Int32)), .int z13, rx_no, rx_no] [] (rx_hp L t hi13 hl13 v13) Q
      refine rx_aw_s 6 (pc := 37) rfl ?_
      show rx_aw 185 55 [.ref 90, .int a0, .int a1, .int a2, .int ((a1 + (1 : Int32)) - (a1 + (1 : Int32)) / (4 : Int32) * (4 : Int32)), .int z13, .int (-1 : Int32), rx_no] [.int ((a1 + (1 : Int32)) - (a1 + (1 : Int32)) / (4 : Int32) * (4 : Int32)), .int a0, .ref 90] (rx_hp L t hi13 hl13 v13) Q
      refine rx_w_callI (j := 181) (pc := 55) rfl rfl rfl rfl rfl ?_
      refine rx_aw.mono k (fun r h2 k => ?_)
      obtain ⟨z23, rfl, hi23, hl23, v23, rfl, k⟩ := k
      refine ⟨z23, rfl, ?_⟩
      show rx_aw 185 58 [.ref 90, .int a0, .int a1, .int a2, .int ((a1 + (1 : Int32)) - (a1 + (1 : Int32)) / (4 : Int32) * (4 : Int32)), .int z13, .int (-1 : Int32), rx_no] [.int z23] (rx_hp L t hi23 hl23 v23) Q
      refine rx_aw_s 5 (pc := 58) rfl ?_
      show rx_aw 185 96 [.ref 90, .int a0, .int a1, .int a2, .int ((a1 + (1 : Int32)) - (a1 + (1 : Int32)) / (4 : Int32) * (4 : Int32)), .int z13, .int (-1 : Int32), .int z23] [.long (0 : Int64)] (rx_hp L t hi23 hl23 v23) Q
      exact rx_aw_ret (pc := 96) rfl k
set_option maxRecDepth 100000 in
/-- CartFloorModel.isTurn(II)Z -/
theorem w186_isTurn_r {L : Nat} {t : List (Nat × Nat)} {hi : Nat → Nat → Int32} {hl : Nat → Nat → Int64} {v : Nat → Nat → Option Nat} {Q : Option Value → rx_H → Prop} {a0 : Int32} {a1 : Int32} (k : rx_me 180 [.ref 90, .int a0] (rx_hp L t hi hl v) (fun r h2 => ∃ z1 : Int32, r = some (.int z1) ∧ rx_ok2 L t h2 (fun hi1 hl1 v1 => ((z1 = 0 → Q (some (.int (0 : Int32))) (rx_hp L t hi1 hl1 v1)) ∧ (¬ (z1 = 0) → ((a1 = (3 : Int32) → Q (some (.int (1 : Int32))) (rx_hp L t hi1 hl1 v1)) ∧ (¬ (a1 = (3 : Int32)) → ((a1 = (4 : Int32) → Q (some (.int (1 : Int32))) (rx_hp L t hi1 hl1 v1)) ∧ (¬ (a1 = (4 : Int32)) → Q (some (.int (0 : Int32))) (rx_hp L t hi1 hl1 v1)))))))))) : rx_me 186 [.ref 90, .int a0, .int a1] (rx_hp L t hi hl v) Q := by
  show rx_aw 186 0 [.ref 90, .int a0, .int a1] [] (rx_hp L t hi hl v) Q
  refine rx_aw_s 2 (pc := 0) rfl ?_
  show rx_aw 186 2 [.ref 90, .int a0, .int a1] [.int a0, .ref 90] (rx_hp L t hi hl v) Q
  refine rx_w_callI (j := 180) (pc := 2) rfl rfl rfl rfl rfl ?_
  refine rx_aw.mono k (fun r h2 k => ?_)
  obtain ⟨z1, rfl, hi1, hl1, v1, rfl, k⟩ := k
  refine ⟨z1, rfl, ?_⟩
  show rx_aw 186 5 [.ref 90, .int a0, .int a1] [.int z1] (rx_hp L t hi1 hl1 v1) Q
  refine rx_aw_s 1 (pc := 5) rfl ?_
  refine rx_w_if (c := z1 = 0) ⟨fun c2 => ?_, fun c2 => ?_⟩
  · have k := k.1 c2
    show rx_aw 186 22 [.ref 90, .int a0, .int a1] [] (rx_hp L t hi1 hl1 v1) Q
    refine rx_aw_s 1 (pc := 22) rfl ?_
    show rx_aw 186 23 [.ref 90, .int a0, .int a1] [.int (0 : Int32)] (rx_hp L t hi1 hl1 v1) Q
    exact rx_aw_ret (pc := 23) rfl k
  · have k := k.2 c2
    show rx_aw 186 8 [.ref 90, .int a0, .int a1] [] (rx_hp L t hi1 hl1 v1) Q
    refine rx_aw_s 3 (pc := 8) rfl ?_
    refine rx_w_if (c := a1 = (3 : Int32)) ⟨fun c3 => ?_, fun c3 => ?_⟩
    · have k := k.1 c3
      show rx_aw 186 18 [.ref 90, .int a0, .int a1] [] (rx_hp L t hi1 hl1 v1) Q
      refine rx_aw_s 2 (pc := 18) rfl ?_
      show rx_aw 186 23 [.ref 90, .int a0, .int a1] [.int (1 : Int32)] (rx_hp L t hi1 hl1 v1) Q
      exact rx_aw_ret (pc := 23) rfl k
    · have k := k.2 c3
      show rx_aw 186 13 [.ref 90, .int a0, .int a1] [] (rx_hp L t hi1 hl1 v1) Q
      refine rx_aw_s 3 (pc := 13) rfl ?_
      refine rx_w_ifn (c := a1 = (4 : Int32)) ⟨fun c4 => ?_, fun c4 => ?_⟩
      · have k := k.1 c4
        show rx_aw 186 18 [.ref 90, .int a0, .int a1] [] (rx_hp L t hi1 hl1 v1) Q
        refine rx_aw_s 2 (pc := 18) rfl ?_
        show rx_aw 186 23 [.ref 90, .int a0, .int a1] [.int (1 : Int32)] (rx_hp L t hi1 hl1 v1) Q
        exact rx_aw_ret (pc := 23) rfl k
      · have k := k.2 c4
        show rx_aw 186 22 [.ref 90, .int a0, .int a1] [] (rx_hp L t hi1 hl1 v1) Q
        refine rx_aw_s 1 (pc := 22) rfl ?_
        show rx_aw 186 23 [.ref 90, .int a0, .int a1] [.int (0 : Int32)] (rx_hp L t hi1 hl1 v1) Q
        exact rx_aw_ret (pc := 23) rfl k
set_option maxRecDepth 100000 in
/-- CartFloorModel.isFree(JI)Z -/
theorem w187_isFree_r {L : Nat} {t : List (Nat × Nat)} {hi : Nat → Nat → Int32} {hl : Nat → Nat → Int64} {v : Nat → Nat → Option Nat} {Q : Option Value → rx_H → Prop} {a0 : Int64} {a1 : Int32} (k : (∃ j1 : Nat, a1 = nI j1 ∧ j1 < 402 ∧ (∃ j2 : Nat, a1 = nI j2 ∧ j2 < 402 ∧ (((lg_cmp (a0 &&& (((hl 90 43) ||| (hl 117 j1)) ||| (hl 119 j2))) (0 : Int64)) = 0 → Q (some (.int (1 : Int32))) (rx_hp L t hi hl v)) ∧ (¬ ((lg_cmp (a0 &&& (((hl 90 43) ||| (hl 117 j1)) ||| (hl 119 j2))) (0 : Int64)) = 0) → Q (some (.int (0 : Int32))) (rx_hp L t hi hl v)))))) : rx_me 187 [.ref 90, .long a0, .int a1] (rx_hp L t hi hl v) Q := by
  show rx_aw 187 0 [.ref 90, .long a0, rx_no, .int a1] [] (rx_hp L t hi hl v) Q
  refine rx_aw_s 6 (pc := 0) rfl ?_
  show rx_aw 187 10 [.ref 90, .long a0, rx_no, .int a1] [.int a1, .ref 117, .long (hl 90 43), .long a0] (rx_hp L t hi hl v) Q
  obtain ⟨j1, ej1, hj1, k⟩ := k
  refine rx_aw_lald (pc := 10) (n := 402) j1 ej1 rfl rfl (by decide) rfl hj1 (by decide) ?_
  show rx_aw 187 11 [.ref 90, .long a0, rx_no, .int a1] [.long (hl 117 j1), .long (hl 90 43), .long a0] (rx_hp L t hi hl v) Q
  refine rx_aw_s 4 (pc := 11) rfl ?_
  show rx_aw 187 17 [.ref 90, .long a0, rx_no, .int a1] [.int a1, .ref 119, .long ((hl 90 43) ||| (hl 117 j1)), .long a0] (rx_hp L t hi hl v) Q
  obtain ⟨j2, ej2, hj2, k⟩ := k
  refine rx_aw_lald (pc := 17) (n := 402) j2 ej2 rfl rfl (by decide) rfl hj2 (by decide) ?_
  show rx_aw 187 18 [.ref 90, .long a0, rx_no, .int a1] [.long (hl 119 j2), .long ((hl 90 43) ||| (hl 117 j1)), .long a0] (rx_hp L t hi hl v) Q
  refine rx_aw_s 5 (pc := 18) rfl ?_
  refine rx_w_ifn (c := (lg_cmp (a0 &&& (((hl 90 43) ||| (hl 117 j1)) ||| (hl 119 j2))) (0 : Int64)) = 0) ⟨fun c3 => ?_, fun c3 => ?_⟩
  · have k := k.1 c3
    show rx_aw 187 25 [.ref 90, .long a0, rx_no, .int a1] [] (rx_hp L t hi hl v) Q
    refine rx_aw_s 2 (pc := 25) rfl ?_
    show rx_aw 187 30 [.ref 90, .long a0, rx_no, .int a1] [.int (1 : Int32)] (rx_hp L t hi hl v) Q
    exact rx_aw_ret (pc := 30) rfl k
  · have k := k.2 c3
    show rx_aw 187 29 [.ref 90, .long a0, rx_no, .int a1] [] (rx_hp L t hi hl v) Q
    refine rx_aw_s 1 (pc := 29) rfl ?_
    show rx_aw 187 30 [.ref 90, .long a0, rx_no, .int a1] [.int (0 : Int32)] (rx_hp L t hi hl v) Q
    exact rx_aw_ret (pc := 30) rfl k
set_option maxRecDepth 100000 in
/-- CartFloorModel.bestOf(III)I -/
theorem w188_bestOf_r {L : Nat} {t : List (Nat × Nat)} {hi : Nat → Nat → Int32} {hl : Nat → Nat → Int64} {v : Nat → Nat → Option Nat} {Q : Option Value → rx_H → Prop} {a0 : Int32} {a1 : Int32} {a2 : Int32} (k : rx_aw 188 8 [.ref 90, .int a0, .int a1, .int a2, .int (1000000 : Int32), .int (0 : Int32), rx_no] [] (rx_hp L t hi hl v) Q) : rx_me 188 [.ref 90, .int a0, .int a1, .int a2] (rx_hp L t hi hl v) Q := by
  show rx_aw 188 0 [.ref 90, .int a0, .int a1, .int a2, rx_no, rx_no, rx_no] [] (rx_hp L t hi hl v) Q
  refine rx_aw_s 4 (pc := 0) rfl ?_
  show rx_aw 188 8 [.ref 90, .int a0, .int a1, .int a2, .int (1000000 : Int32), .int (0 : Int32), rx_no] [] (rx_hp L t hi hl v) Q
  exact k
set_option maxRecDepth 100000 in
theorem w188_bestOf_r_8 {L : Nat} {t : List (Nat × Nat)} {hi : Nat → Nat → Int32} {hl : Nat → Nat → Int64} {v : Nat → Nat → Option Nat} {Q : Option Value → rx_H → Prop} {x1 : Int32} {x2 : Int32} {x3 : Int32} {x4 : Int32} {x5 : Int32} (k : (((4 : Int32) < x5 → Q (some (.int x4)) (rx_hp L t hi hl v)) ∧ (¬ ((4 : Int32) < x5) → rx_me 183 [.ref 90, .int x1, .int (x2 / (4 : Int32)), .int (x2 - x2 / (4 : Int32) * (4 : Int32)), .int x5, .int x3] (rx_hp L t hi hl v) (fun r h2 => ∃ z2 : Int32, r = some (.int z2) ∧ rx_ok2 L t h2 (fun hi2 hl2 v2 => ((z2 = 0 → rx_aw 188 8 [.ref 90, .int x1, .int x2, .int x3, .int x4, .int (x5 + (1 : Int32)), rx_no] [] (rx_hp L t hi2 hl2 v2) Q) ∧ (¬ (z2 = 0) → (∃ j4 : Nat, x1 = nI j4 ∧ j4 < 6 ∧ rx_me 189 [.ref 90, .int (hi2 93 j4), .int (x2 - x2 / (4 : Int32) * (4 : Int32)), .int x5] (rx_hp L t hi2 hl2 v2) (fun r h2 => ∃ z5 : Int32, r = some (.int z5) ∧ rx_ok2 L t h2 (fun hi5 hl5 v5 => (∃ j6 : Nat, ((((256 : Int32) * (x3 + (1 : Int32))) + ((4 : Int32) * (hi5 90 33))) + (hi5 90 34)) = nI j6 ∧ j6 < 102912 ∧ ((x4 ≤ (z5 + (hi5 116 j6)) → rx_aw 188 8 [.ref 90, .int x1, .int x2, .int x3, .int x4, .int (x5 + (1 : Int32)), rx_no] [] (rx_hp L t hi5 hl5 v5) Q) ∧ (¬ (x4 ≤ (z5 + (hi5 116 j6))) → rx_aw 188 8 [.ref 90, .int x1, .int x2, .int x3, .int (z5 + (hi5 116 j6)), .int (x5 + (1 : Int32)), rx_no] [] (rx_hp L t hi5 hl5 v5) Q))))))))))))) : rx_aw 188 8 [.ref 90, .int x1, .int x2, .int x3, .int x4, .int x5, rx_no] [] (rx_hp L t hi hl v) Q := by
  refine rx_aw_s 3 (pc := 8) rfl ?_
  refine rx_w_if (c := (4 : Int32) < x5) ⟨fun c1 => ?_, fun c1 => ?_⟩
  · have k := k.1 c1
    show rx_aw 188 95 [.ref 90, .int x1, .int x2, .int x3, .int x4, .int x5, rx_no] [] (rx_hp L t hi hl v) Q
    refine rx_aw_s 1 (pc := 95) rfl ?_
    show rx_aw 188 97 [.ref 90, .int x1, .int x2, .int x3, .int x4, .int x5, rx_no] [.int x4] (rx_hp L t hi hl v) Q
    exact rx_aw_ret (pc := 97) rfl k
  · have k := k.2 c1
    show rx_aw 188 14 [.ref 90, .int x1, .int x2, .int x3, .int x4, .int x5, rx_no] [] (rx_hp L t hi hl v) Q
    refine rx_aw_s 4 (pc := 14) rfl ?_
    show rx_aw 188 18 [.ref 90, .int x1, .int x2, .int x3, .int x4, .int x5, rx_no] [.int (4 : Int32), .int x2, .int x1, .ref 90] (rx_hp L t hi hl v) Q
    refine rx_aw_div (pc := 18) rfl (by decide) ?_
    show rx_aw 188 19 [.ref 90, .int x1, .int x2, .int x3, .int x4, .int x5, rx_no] [.int (x2 / (4 : Int32)), .int x1, .ref 90] (rx_hp L t hi hl v) Q
    refine rx_aw_s 2 (pc := 19) rfl ?_
    show rx_aw 188 21 [.ref 90, .int x1, .int x2, .int x3, .int x4, .int x5, rx_no] [.int (4 : Int32), .int x2, .int (x2 / (4 : Int32)), .int x1, .ref 90] (rx_hp L t hi hl v) Q
    refine rx_aw_rem (pc := 21) rfl (by decide) ?_
    show rx_aw 188 22 [.ref 90, .int x1, .int x2, .int x3, .int x4, .int x5, rx_no] [.int (x2 - x2 / (4 : Int32) * (4 : Int32)), .int (x2 / (4 : Int32)), .int x1, .ref 90] (rx_hp L t hi hl v) Q
    refine rx_aw_s 2 (pc := 22) rfl ?_
    show rx_aw 188 25 [.ref 90, .int x1, .int x2, .int x3, .int x4, .int x5, rx_no] [.int x3, .int x5, .int (x2 - x2 / (4 : Int32) * (4 : Int32)), .int (x2 / (4 : Int32)), .int x1, .ref 90] (rx_hp L t hi hl v) Q
    refine rx_w_callI (j := 183) (pc := 25) rfl rfl rfl rfl rfl ?_
    refine rx_aw.mono k (fun r h2 k => ?_)
    obtain ⟨z2, rfl, hi2, hl2, v2, rfl, k⟩ := k
    refine ⟨z2, rfl, ?_⟩
    show rx_aw 188 28 [.ref 90, .int x1, .int x2, .int x3, .int x4, .int x5, rx_no] [.int z2] (rx_hp L t hi2 hl2 v2) Q
    refine rx_aw_s 1 (pc := 28) rfl ?_
    refine rx_w_if (c := z2 = 0) ⟨fun c3 => ?_, fun c3 => ?_⟩
    · have k := k.1 c3
      show rx_aw 188 89 [.ref 90, .int x1, .int x2, .int x3, .int x4, .int x5, rx_no] [] (rx_hp L t hi2 hl2 v2) Q
      refine rx_aw_s 2 (pc := 89) rfl ?_
      show rx_aw 188 8 [.ref 90, .int x1, .int x2, .int x3, .int x4, .int (x5 + (1 : Int32)), rx_no] [] (rx_hp L t hi2 hl2 v2) Q
      exact k
    · have k := k.2 c3
      show rx_aw 188 31 [.ref 90, .int x1, .int x2, .int x3, .int x4, .int x5, rx_no] [] (rx_hp L t hi2 hl2 v2) Q
      refine rx_aw_s 4 (pc := 31) rfl ?_
      show rx_aw 188 37 [.ref 90, .int x1, .int x2, .int x3, .int x4, .int x5, rx_no] [.int x1, .ref 93, .ref 90] (rx_hp L t hi2 hl2 v2) Q
      obtain ⟨j4, ej4, hj4, k⟩ := k
      refine rx_aw_iald (pc := 37) (n := 6) j4 ej4 rfl rfl rfl hj4 (by decide) ?_
      show rx_aw 188 38 [.ref 90, .int x1, .int x2, .int x3, .int x4, .int x5, rx_no] [.int (hi2 93 j4), .ref 90] (rx_hp L t hi2 hl2 v2) Q
      refine rx_aw_s 2 (pc := 38) rfl ?_
      show rx_aw 188 40 [.ref 90, .int x1, .int x2, .int x3, .int x4, .int x5, rx_no] [.int (4 : Int32), .int x2, .int (hi2 93 j4), .ref 90] (rx_hp L t hi2 hl2 v2) Q
      refine rx_aw_rem (pc := 40) rfl (by decide) ?_
      show rx_aw 188 41 [.ref 90, .int x1, .int x2, .int x3, .int x4, .int x5, rx_no] [.int (x2 - x2 / (4 : Int32) * (4 : Int32)), .int (hi2 93 j4), .ref 90] (rx_hp L t hi2 hl2 v2) Q
      refine rx_aw_s 1 (pc := 41) rfl ?_
      show rx_aw 188 43 [.ref 90, .int x1, .int x2, .int x3, .int x4, .int x5, rx_no] [.int x5, .int (x2 - x2 / (4 : Int32) * (4 : Int32)), .int (hi2 93 j4), .ref 90] (rx_hp L t hi2 hl2 v2) Q
      refine rx_w_callI (j := 189) (pc := 43) rfl rfl rfl rfl rfl ?_
      refine rx_aw.mono k (fun r h2 k => ?_)
      obtain ⟨z5, rfl, hi5, hl5, v5, rfl, k⟩ := k
      refine ⟨z5, rfl, ?_⟩
      show rx_aw 188 46 [.ref 90, .int x1, .int x2, .int x3, .int x4, .int x5, rx_no] [.int z5] (rx_hp L t hi5 hl5 v5) Q
      refine rx_aw_s 15 (pc := 46) rfl ?_
      show rx_aw 188 69 [.ref 90, .int x1, .int x2, .int x3, .int x4, .int x5, rx_no] [.int ((((256 : Int32) * (x3 + (1 : Int32))) + ((4 : Int32) * (hi5 90 33))) + (hi5 90 34)), .ref 116, .int z5] (rx_hp L t hi5 hl5 v5) Q
      obtain ⟨j6, ej6, hj6, k⟩ := k
      refine rx_aw_iald (pc := 69) (n := 102912) j6 ej6 rfl rfl rfl hj6 (by decide) ?_
      show rx_aw 188 70 [.ref 90, .int x1, .int x2, .int x3, .int x4, .int x5, rx_no] [.int (hi5 116 j6), .int z5] (rx_hp L t hi5 hl5 v5) Q
      refine rx_aw_s 5 (pc := 70) rfl ?_
      refine rx_w_if (c := x4 ≤ (z5 + (hi5 116 j6))) ⟨fun c7 => ?_, fun c7 => ?_⟩
      · have k := k.1 c7
        show rx_aw 188 85 [.ref 90, .int x1, .int x2, .int x3, .int x4, .int x5, .int (z5 + (hi5 116 j6))] [] (rx_hp L t hi5 hl5 v5) Q
        refine rx_aw_s 4 (pc := 85) rfl ?_
        show rx_aw 188 8 [.ref 90, .int x1, .int x2, .int x3, .int x4, .int (x5 + (1 : Int32)), .int (z5 + (hi5 116 j6))] [] (rx_hp L t hi5 hl5 v5) Q
        exact rx_aw_le (ls := [.ref 90, .int x1, .int x2, .int x3, .int x4, .int (x5 + (1 : Int32)), rx_no]) ⟨Or.inr rfl, ⟨Or.inr rfl, ⟨Or.inr rfl, ⟨Or.inr rfl, ⟨Or.inr rfl, ⟨Or.inr rfl, ⟨Or.inl rfl, trivial⟩⟩⟩⟩⟩⟩⟩ k
      · have k := k.2 c7
        show rx_aw 188 80 [.ref 90, .int x1, .int x2, .int x3, .int x4, .int x5, .int (z5 + (hi5 116 j6))] [] (rx_hp L t hi5 hl5 v5) Q
        refine rx_aw_s 5 (pc := 80) rfl ?_
        show rx_aw 188 8 [.ref 90, .int x1, .int x2, .int x3, .int (z5 + (hi5 116 j6)), .int (x5 + (1 : Int32)), .int (z5 + (hi5 116 j6))] [] (rx_hp L t hi5 hl5 v5) Q
        exact rx_aw_le (ls := [.ref 90, .int x1, .int x2, .int x3, .int (z5 + (hi5 116 j6)), .int (x5 + (1 : Int32)), rx_no]) ⟨Or.inr rfl, ⟨Or.inr rfl, ⟨Or.inr rfl, ⟨Or.inr rfl, ⟨Or.inr rfl, ⟨Or.inr rfl, ⟨Or.inl rfl, trivial⟩⟩⟩⟩⟩⟩⟩ k
set_option maxRecDepth 100000 in
/-- CartFloorModel.turnsOf(III)I -/
theorem w189_turnsOf_r {L : Nat} {t : List (Nat × Nat)} {hi : Nat → Nat → Int32} {hl : Nat → Nat → Int64} {v : Nat → Nat → Option Nat} {Q : Option Value → rx_H → Prop} {a0 : Int32} {a1 : Int32} {a2 : Int32} (k : rx_me 180 [.ref 90, .int a0] (rx_hp L t hi hl v) (fun r h2 => ∃ z1 : Int32, r = some (.int z1) ∧ rx_ok2 L t h2 (fun hi1 hl1 v1 => ((z1 = 0 → ((a2 ≤ 0 → Q (some (.int (0 : Int32))) (rx_hp L t hi1 hl1 v1)) ∧ (¬ (a2 ≤ 0) → (((a2 - (1 : Int32)) = a1 → Q (some (.int (0 : Int32))) (rx_hp L t hi1 hl1 v1)) ∧ (¬ ((a2 - (1 : Int32)) = a1) → Q (some (.int (1 : Int32))) (rx_hp L t hi1 hl1 v1)))))) ∧ (¬ (z1 = 0) → ((a2 = (3 : Int32) → Q (some (.int (1 : Int32))) (rx_hp L t hi1 hl1 v1)) ∧ (¬ (a2 = (3 : Int32)) → ((a2 = (4 : Int32) → Q (some (.int (1 : Int32))) (rx_hp L t hi1 hl1 v1)) ∧ (¬ (a2 = (4 : Int32)) → Q (some (.int (0 : Int32))) (rx_hp L t hi1 hl1 v1)))))))))) : rx_me 189 [.ref 90, .int a0, .int a1, .int a2] (rx_hp L t hi hl v) Q := by
  show rx_aw 189 0 [.ref 90, .int a0, .int a1, .int a2] [] (rx_hp L t hi hl v) Q
  refine rx_aw_s 2 (pc := 0) rfl ?_
  show rx_aw 189 2 [.ref 90, .int a0, .int a1, .int a2] [.int a0, .ref 90] (rx_hp L t hi hl v) Q
  refine rx_w_callI (j := 180) (pc := 2) rfl rfl rfl rfl rfl ?_
  refine rx_aw.mono k (fun r h2 k => ?_)
  obtain ⟨z1, rfl, hi1, hl1, v1, rfl, k⟩ := k
  refine ⟨z1, rfl, ?_⟩
  show rx_aw 189 5 [.ref 90, .int a0, .int a1, .int a2] [.int z1] (rx_hp L t hi1 hl1 v1) Q
  refine rx_aw_s 1 (pc := 5) rfl ?_
  refine rx_w_if (c := z1 = 0) ⟨fun c2 => ?_, fun c2 => ?_⟩
  · have k := k.1 c2
    show rx_aw 189 26 [.ref 90, .int a0, .int a1, .int a2] [] (rx_hp L t hi1 hl1 v1) Q
    refine rx_aw_s 2 (pc := 26) rfl ?_
    refine rx_w_if (c := a2 ≤ 0) ⟨fun c3 => ?_, fun c3 => ?_⟩
    · have k := k.1 c3
      show rx_aw 189 41 [.ref 90, .int a0, .int a1, .int a2] [] (rx_hp L t hi1 hl1 v1) Q
      refine rx_aw_s 1 (pc := 41) rfl ?_
      show rx_aw 189 42 [.ref 90, .int a0, .int a1, .int a2] [.int (0 : Int32)] (rx_hp L t hi1 hl1 v1) Q
      exact rx_aw_ret (pc := 42) rfl k
    · have k := k.2 c3
      show rx_aw 189 30 [.ref 90, .int a0, .int a1, .int a2] [] (rx_hp L t hi1 hl1 v1) Q
      refine rx_aw_s 5 (pc := 30) rfl ?_
      refine rx_w_if (c := (a2 - (1 : Int32)) = a1) ⟨fun c4 => ?_, fun c4 => ?_⟩
      · have k := k.1 c4
        show rx_aw 189 41 [.ref 90, .int a0, .int a1, .int a2] [] (rx_hp L t hi1 hl1 v1) Q
        refine rx_aw_s 1 (pc := 41) rfl ?_
        show rx_aw 189 42 [.ref 90, .int a0, .int a1, .int a2] [.int (0 : Int32)] (rx_hp L t hi1 hl1 v1) Q
        exact rx_aw_ret (pc := 42) rfl k
      · have k := k.2 c4
        show rx_aw 189 37 [.ref 90, .int a0, .int a1, .int a2] [] (rx_hp L t hi1 hl1 v1) Q
        refine rx_aw_s 2 (pc := 37) rfl ?_
        show rx_aw 189 42 [.ref 90, .int a0, .int a1, .int a2] [.int (1 : Int32)] (rx_hp L t hi1 hl1 v1) Q
        exact rx_aw_ret (pc := 42) rfl k
  · have k := k.2 c2
    show rx_aw 189 8 [.ref 90, .int a0, .int a1, .int a2] [] (rx_hp L t hi1 hl1 v1) Q
    refine rx_aw_s 3 (pc := 8) rfl ?_
    refine rx_w_if (c := a2 = (3 : Int32)) ⟨fun c5 => ?_, fun c5 => ?_⟩
    · have k := k.1 c5
      show rx_aw 189 18 [.ref 90, .int a0, .int a1, .int a2] [] (rx_hp L t hi1 hl1 v1) Q
      refine rx_aw_s 2 (pc := 18) rfl ?_
      show rx_aw 189 42 [.ref 90, .int a0, .int a1, .int a2] [.int (1 : Int32)] (rx_hp L t hi1 hl1 v1) Q
      exact rx_aw_ret (pc := 42) rfl k
    · have k := k.2 c5
      show rx_aw 189 13 [.ref 90, .int a0, .int a1, .int a2] [] (rx_hp L t hi1 hl1 v1) Q
      refine rx_aw_s 3 (pc := 13) rfl ?_
      refine rx_w_ifn (c := a2 = (4 : Int32)) ⟨fun c6 => ?_, fun c6 => ?_⟩
      · have k := k.1 c6
        show rx_aw 189 18 [.ref 90, .int a0, .int a1, .int a2] [] (rx_hp L t hi1 hl1 v1) Q
        refine rx_aw_s 2 (pc := 18) rfl ?_
        show rx_aw 189 42 [.ref 90, .int a0, .int a1, .int a2] [.int (1 : Int32)] (rx_hp L t hi1 hl1 v1) Q
        exact rx_aw_ret (pc := 42) rfl k
      · have k := k.2 c6
        show rx_aw 189 22 [.ref 90, .int a0, .int a1, .int a2] [] (rx_hp L t hi1 hl1 v1) Q
        refine rx_aw_s 2 (pc := 22) rfl ?_
        show rx_aw 189 42 [.ref 90, .int a0, .int a1, .int a2] [.int (0 : Int32)] (rx_hp L t hi1 hl1 v1) Q
        exact rx_aw_ret (pc := 42) rfl k
set_option maxRecDepth 100000 in
/-- CartFloorModel.isBest(IIII)Z -/
theorem w190_isBest_r {L : Nat} {t : List (Nat × Nat)} {hi : Nat → Nat → Int32} {hl : Nat → Nat → Int64} {v : Nat → Nat → Option Nat} {Q : Option Value → rx_H → Prop} {a0 : Int32} {a1 : Int32} {a2 : Int32} {a3 : Int32} (k : rx_me 183 [.ref 90, .int a0, .int (a1 / (4 : Int32)), .int (a1 - a1 / (4 : Int32) * (4 : Int32)), .int a2, .int a3] (rx_hp L t hi hl v) (fun r h2 => ∃ z1 : Int32, r = some (.int z1) ∧ rx_ok2 L t h2 (fun hi1 hl1 v1 => ((z1 = 0 → Q (some (.int (0 : Int32))) (rx_hp L t hi1 hl1 v1)) ∧ (¬ (z1 = 0) → (∃ j3 : Nat, a0 = nI j3 ∧ j3 < 6 ∧ rx_me 189 [.ref 90, .int (hi1 93 j3), .int (a1 - a1 / (4 : Int32) * (4 : Int32)), .int a2] (rx_hp L t hi1 hl1 v1) (fun r h2 => ∃ z4 : Int32, r = some (.int z4) ∧ rx_ok2 L t h2 (fun hi4 hl4 v4 => (∃ j5 : Nat, ((((256 : Int32) * (a3 + (1 : Int32))) + ((4 : Int32) * (hi4 90 33))) + (hi4 90 34)) = nI j5 ∧ j5 < 102912 ∧ (∃ j6 : Nat, (((256 : Int32) * a3) + a1) = nI j6 ∧ j6 < 102912 ∧ (((z4 + (hi4 116 j5)) = (hi4 116 j6) → Q (some (.int (1 : Int32))) (rx_hp L t hi4 hl4 v4)) ∧ (¬ ((z4 + (hi4 116 j5)) = (hi4 116 j6)) → Q (some (.int (0 : Int32))) (rx_hp L t hi4 hl4 v4))))))))))))) : rx_me 190 [.ref 90, .int a0, .int a1, .int a2, .int a3] (rx_hp L t hi hl v) Q := by
  show rx_aw 190 0 [.ref 90, .int a0, .int a1, .int a2, .int a3] [] (rx_hp L t hi hl v) Q
  refine rx_aw_s 4 (pc := 0) rfl ?_
  show rx_aw 190 4 [.ref 90, .int a0, .int a1, .int a2, .int a3] [.int (4 : Int32), .int a1, .int a0, .ref 90] (rx_hp L t hi hl v) Q
  refine rx_aw_div (pc := 4) rfl (by decide) ?_
  show rx_aw 190 5 [.ref 90, .int a0, .int a1, .int a2, .int a3] [.int (a1 / (4 : Int32)), .int a0, .ref 90] (rx_hp L t hi hl v) Q
  refine rx_aw_s 2 (pc := 5) rfl ?_
  show rx_aw 190 7 [.ref 90, .int a0, .int a1, .int a2, .int a3] [.int (4 : Int32), .int a1, .int (a1 / (4 : Int32)), .int a0, .ref 90] (rx_hp L t hi hl v) Q
  refine rx_aw_rem (pc := 7) rfl (by decide) ?_
  show rx_aw 190 8 [.ref 90, .int a0, .int a1, .int a2, .int a3] [.int (a1 - a1 / (4 : Int32) * (4 : Int32)), .int (a1 / (4 : Int32)), .int a0, .ref 90] (rx_hp L t hi hl v) Q
  refine rx_aw_s 2 (pc := 8) rfl ?_
  show rx_aw 190 11 [.ref 90, .int a0, .int a1, .int a2, .int a3] [.int a3, .int a2, .int (a1 - a1 / (4 : Int32) * (4 : Int32)), .int (a1 / (4 : Int32)), .int a0, .ref 90] (rx_hp L t hi hl v) Q
  refine rx_w_callI (j := 183) (pc := 11) rfl rfl rfl rfl rfl ?_
  refine rx_aw.mono k (fun r h2 k => ?_)
  obtain ⟨z1, rfl, hi1, hl1, v1, rfl, k⟩ := k
  refine ⟨z1, rfl, ?_⟩
  show rx_aw 190 14 [.ref 90, .int a0, .int a1, .int a2, .int a3] [.int z1] (rx_hp L t hi1 hl1 v1) Q
  refine rx_aw_s 1 (pc := 14) rfl ?_
  refine rx_w_if (c := z1 = 0) ⟨fun c2 => ?_, fun c2 => ?_⟩
  · have k := k.1 c2
    show rx_aw 190 77 [.ref 90, .int a0, .int a1, .int a2, .int a3] [] (rx_hp L t hi1 hl1 v1) Q
    refine rx_aw_s 1 (pc := 77) rfl ?_
    show rx_aw 190 78 [.ref 90, .int a0, .int a1, .int a2, .int a3] [.int (0 : Int32)] (rx_hp L t hi1 hl1 v1) Q
    exact rx_aw_ret (pc := 78) rfl k
  · have k := k.2 c2
    show rx_aw 190 17 [.ref 90, .int a0, .int a1, .int a2, .int a3] [] (rx_hp L t hi1 hl1 v1) Q
    refine rx_aw_s 4 (pc := 17) rfl ?_
    show rx_aw 190 23 [.ref 90, .int a0, .int a1, .int a2, .int a3] [.int a0, .ref 93, .ref 90] (rx_hp L t hi1 hl1 v1) Q
    obtain ⟨j3, ej3, hj3, k⟩ := k
    refine rx_aw_iald (pc := 23) (n := 6) j3 ej3 rfl rfl rfl hj3 (by decide) ?_
    show rx_aw 190 24 [.ref 90, .int a0, .int a1, .int a2, .int a3] [.int (hi1 93 j3), .ref 90] (rx_hp L t hi1 hl1 v1) Q
    refine rx_aw_s 2 (pc := 24) rfl ?_
    show rx_aw 190 26 [.ref 90, .int a0, .int a1, .int a2, .int a3] [.int (4 : Int32), .int a1, .int (hi1 93 j3), .ref 90] (rx_hp L t hi1 hl1 v1) Q
    refine rx_aw_rem (pc := 26) rfl (by decide) ?_
    show rx_aw 190 27 [.ref 90, .int a0, .int a1, .int a2, .int a3] [.int (a1 - a1 / (4 : Int32) * (4 : Int32)), .int (hi1 93 j3), .ref 90] (rx_hp L t hi1 hl1 v1) Q
    refine rx_aw_s 1 (pc := 27) rfl ?_
    show rx_aw 190 28 [.ref 90, .int a0, .int a1, .int a2, .int a3] [.int a2, .int (a1 - a1 / (4 : Int32) * (4 : Int32)), .int (hi1 93 j3), .ref 90] (rx_hp L t hi1 hl1 v1) Q
    refine rx_w_callI (j := 189) (pc := 28) rfl rfl rfl rfl rfl ?_
    refine rx_aw.mono k (fun r h2 k => ?_)
    obtain ⟨z4, rfl, hi4, hl4, v4, rfl, k⟩ := k
    refine ⟨z4, rfl, ?_⟩
    show rx_aw 190 31 [.ref 90, .int a0, .int a1, .int a2, .int a3] [.int z4] (rx_hp L t hi4 hl4 v4) Q
    refine rx_aw_s 15 (pc := 31) rfl ?_
    show rx_aw 190 55 [.ref 90, .int a0, .int a1, .int a2, .int a3] [.int ((((256 : Int32) * (a3 + (1 : Int32))) + ((4 : Int32) * (hi4 90 33))) + (hi4 90 34)), .ref 116, .int z4] (rx_hp L t hi4 hl4 v4) Q
    obtain ⟨j5, ej5, hj5, k⟩ := k
    refine rx_aw_iald (pc := 55) (n := 102912) j5 ej5 rfl rfl rfl hj5 (by decide) ?_
    show rx_aw 190 56 [.ref 90, .int a0, .int a1, .int a2, .int a3] [.int (hi4 116 j5), .int z4] (rx_hp L t hi4 hl4 v4) Q
    refine rx_aw_s 8 (pc := 56) rfl ?_
    show rx_aw 190 69 [.ref 90, .int a0, .int a1, .int a2, .int a3] [.int (((256 : Int32) * a3) + a1), .ref 116, .int (z4 + (hi4 116 j5))] (rx_hp L t hi4 hl4 v4) Q
    obtain ⟨j6, ej6, hj6, k⟩ := k
    refine rx_aw_iald (pc := 69) (n := 102912) j6 ej6 rfl rfl rfl hj6 (by decide) ?_
    show rx_aw 190 70 [.ref 90, .int a0, .int a1, .int a2, .int a3] [.int (hi4 116 j6), .int (z4 + (hi4 116 j5))] (rx_hp L t hi4 hl4 v4) Q
    refine rx_aw_s 1 (pc := 70) rfl ?_
    refine rx_w_ifn (c := (z4 + (hi4 116 j5)) = (hi4 116 j6)) ⟨fun c7 => ?_, fun c7 => ?_⟩
    · have k := k.1 c7
      show rx_aw 190 73 [.ref 90, .int a0, .int a1, .int a2, .int a3] [] (rx_hp L t hi4 hl4 v4) Q
      refine rx_aw_s 2 (pc := 73) rfl ?_
      show rx_aw 190 78 [.ref 90, .int a0, .int a1, .int a2, .int a3] [.int (1 : Int32)] (rx_hp L t hi4 hl4 v4) Q
      exact rx_aw_ret (pc := 78) rfl k
    · have k := k.2 c7
      show rx_aw 190 77 [.ref 90, .int a0, .int a1, .int a2, .int a3] [] (rx_hp L t hi4 hl4 v4) Q
      refine rx_aw_s 1 (pc := 77) rfl ?_
      show rx_aw 190 78 [.ref 90, .int a0, .int a1, .int a2, .int a3] [.int (0 : Int32)] (rx_hp L t hi4 hl4 v4) Q
      exact rx_aw_ret (pc := 78) rfl k
set_option maxRecDepth 100000 in
/-- CartFloorModel.work()V -/
theorem w191_work_r {L : Nat} {t : List (Nat × Nat)} {hi : Nat → Nat → Int32} {hl : Nat → Nat → Int64} {v : Nat → Nat → Option Nat} {Q : Option Value → rx_H → Prop}  (k : rx_aw 191 2 [.ref 90, .int (0 : Int32), rx_no, rx_no] [] (rx_hp L t hi hl v) Q) : rx_me 191 [.ref 90] (rx_hp L t hi hl v) Q := by
  show rx_aw 191 0 [.ref 90, rx_no, rx_no, rx_no] [] (rx_hp L t hi hl v) Q
  refine rx_aw_s 2 (pc := 0) rfl ?_
  show rx_aw 191 2 [.ref 90, .int (0 : Int32), rx_no, rx_no] [] (rx_hp L t hi hl v) Q
  exact k
set_option maxRecDepth 100000 in
theorem w191_work_r_2 {L : Nat} {t : List (Nat × Nat)} {hi : Nat → Nat → Int32} {hl : Nat → Nat → Int64} {v : Nat → Nat → Option Nat} {Q : Option Value → rx_H → Prop} {x1 : Int32} (k : (((402 : Int32) ≤ x1 → rx_aw 191 53 [.ref 90, .int (0 : Int32), rx_no, rx_no] [] (rx_hp L t hi hl v) Q) ∧ (¬ ((402 : Int32) ≤ x1) → rx_me 192 [.ref 90, .int x1] (rx_hp L t hi hl v) (fun r h2 => r = none ∧ rx_ok2 L t h2 (fun hi2 hl2 v2 => rx_aw 191 16 [.ref 90, .int x1, .int (0 : Int32), rx_no] [] (rx_hp L t hi2 hl2 v2) Q))))) : rx_aw 191 2 [.ref 90, .int x1, rx_no, rx_no] [] (rx_hp L t hi hl v) Q := by
  refine rx_aw_s 3 (pc := 2) rfl ?_
  refine rx_w_if (c := (402 : Int32) ≤ x1) ⟨fun c1 => ?_, fun c1 => ?_⟩
  · have k := k.1 c1
    show rx_aw 191 51 [.ref 90, .int x1, rx_no, rx_no] [] (rx_hp L t hi hl v) Q
    refine rx_aw_s 2 (pc := 51) rfl ?_
    show rx_aw 191 53 [.ref 90, .int (0 : Int32), rx_no, rx_no] [] (rx_hp L t hi hl v) Q
    exact k
  · have k := k.2 c1
    show rx_aw 191 9 [.ref 90, .int x1, rx_no, rx_no] [] (rx_hp L t hi hl v) Q
    refine rx_aw_s 2 (pc := 9) rfl ?_
    show rx_aw 191 11 [.ref 90, .int x1, rx_no, rx_no] [.int x1, .ref 90] (rx_hp L t hi hl v) Q
    refine rx_w_callV (j := 192) (pc := 11) rfl rfl rfl rfl rfl ?_
    refine rx_aw.mono k (fun r h2 k => ?_)
    obtain ⟨rfl, hi2, hl2, v2, rfl, k⟩ := k
    refine ⟨rfl, ?_⟩
    show rx_aw 191 14 [.ref 90, .int x1, rx_no, rx_no] [] (rx_hp L t hi2 hl2 v2) Q
    refine rx_aw_s 2 (pc := 14) rfl ?_
    show rx_aw 191 16 [.ref 90, .int x1, .int (0 : Int32), rx_no] [] (rx_hp L t hi2 hl2 v2) Q
    exact k
set_option maxRecDepth 100000 in
theorem w191_work_r_53 {L : Nat} {t : List (Nat × Nat)} {hi : Nat → Nat → Int32} {hl : Nat → Nat → Int64} {v : Nat → Nat → Option Nat} {Q : Option Value → rx_H → Prop} {x1 : Int32} (k : (((hi 90 6) ≤ x1 → Q none (rx_hp L t hi hl v)) ∧ (¬ ((hi 90 6) ≤ x1) → rx_aw 191 63 [.ref 90, .int x1, .int (0 : Int32), rx_no] [] (rx_hp L t hi hl v) Q))) : rx_aw 191 53 [.ref 90, .int x1, rx_no, rx_no] [] (rx_hp L t hi hl v) Q := by
  refine rx_aw_s 4 (pc := 53) rfl ?_
  refine rx_w_if (c := (hi 90 6) ≤ x1) ⟨fun c3 => ?_, fun c3 => ?_⟩
  · have k := k.1 c3
    show rx_aw 191 177 [.ref 90, .int x1, rx_no, rx_no] [] (rx_hp L t hi hl v) Q
    exact rx_aw_ret (pc := 177) rfl k
  · have k := k.2 c3
    show rx_aw 191 61 [.ref 90, .int x1, rx_no, rx_no] [] (rx_hp L t hi hl v) Q
    refine rx_aw_s 2 (pc := 61) rfl ?_
    show rx_aw 191 63 [.ref 90, .int x1, .int (0 : Int32), rx_no] [] (rx_hp L t hi hl v) Q
    exact k
set_option maxRecDepth 100000 in
theorem w191_work_r_16 {L : Nat} {t : List (Nat × Nat)} {hi : Nat → Nat → Int32} {hl : Nat → Nat → Int64} {v : Nat → Nat → Option Nat} {Q : Option Value → rx_H → Prop} {x1 : Int32} {x2 : Int32} (k : (((hi 90 6) ≤ x2 → rx_aw 191 2 [.ref 90, .int (x1 + (1 : Int32)), rx_no, rx_no] [] (rx_hp L t hi hl v) Q) ∧ (¬ ((hi 90 6) ≤ x2) → (((402 : Int32) ≤ (x1 + (1 : Int32)) → rx_aw 191 2 [.ref 90, .int (x1 + (1 : Int32)), rx_no, rx_no] [] (rx_hp L t hi hl v) Q) ∧ (¬ ((402 : Int32) ≤ (x1 + (1 : Int32))) → rx_me 193 [.ref 90, .int x2, .int x1] (rx_hp L t hi hl v) (fun r h2 => r = none ∧ rx_ok2 L t h2 (fun hi6 hl6 v6 => rx_aw 191 16 [.ref 90, .int x1, .int (x2 + (1 : Int32)), rx_no] [] (rx_hp L t hi6 hl6 v6) Q))))))) : rx_aw 191 16 [.ref 90, .int x1, .int x2, rx_no] [] (rx_hp L t hi hl v) Q := by
  refine rx_aw_s 4 (pc := 16) rfl ?_
  refine rx_w_if (c := (hi 90 6) ≤ x2) ⟨fun c4 => ?_, fun c4 => ?_⟩
  · have k := k.1 c4
    show rx_aw 191 45 [.ref 90, .int x1, .int x2, rx_no] [] (rx_hp L t hi hl v) Q
    refine rx_aw_s 2 (pc := 45) rfl ?_
    show rx_aw 191 2 [.ref 90, .int (x1 + (1 : Int32)), .int x2, rx_no] [] (rx_hp L t hi hl v) Q
    exact rx_aw_le (ls := [.ref 90, .int (x1 + (1 : Int32)), rx_no, rx_no]) ⟨Or.inr rfl, ⟨Or.inr rfl, ⟨Or.inl rfl, ⟨Or.inl rfl, trivial⟩⟩⟩⟩ k
  · have k := k.2 c4
    show rx_aw 191 24 [.ref 90, .int x1, .int x2, rx_no] [] (rx_hp L t hi hl v) Q
    refine rx_aw_s 5 (pc := 24) rfl ?_
    refine rx_w_if (c := (402 : Int32) ≤ (x1 + (1 : Int32))) ⟨fun c5 => ?_, fun c5 => ?_⟩
    · have k := k.1 c5
      show rx_aw 191 45 [.ref 90, .int x1, .int x2, rx_no] [] (rx_hp L t hi hl v) Q
      refine rx_aw_s 2 (pc := 45) rfl ?_
      show rx_aw 191 2 [.ref 90, .int (x1 + (1 : Int32)), .int x2, rx_no] [] (rx_hp L t hi hl v) Q
      exact rx_aw_le (ls := [.ref 90, .int (x1 + (1 : Int32)), rx_no, rx_no]) ⟨Or.inr rfl, ⟨Or.inr rfl, ⟨Or.inl rfl, ⟨Or.inl rfl, trivial⟩⟩⟩⟩ k
    · have k := k.2 c5
      show rx_aw 191 33 [.ref 90, .int x1, .int x2, rx_no] [] (rx_hp L t hi hl v) Q
      refine rx_aw_s 3 (pc := 33) rfl ?_
      show rx_aw 191 36 [.ref 90, .int x1, .int x2, rx_no] [.int x1, .int x2, .ref 90] (rx_hp L t hi hl v) Q
      refine rx_w_callV (j := 193) (pc := 36) rfl rfl rfl rfl rfl ?_
      refine rx_aw.mono k (fun r h2 k => ?_)
      obtain ⟨rfl, hi6, hl6, v6, rfl, k⟩ := k
      refine ⟨rfl, ?_⟩
      show rx_aw 191 39 [.ref 90, .int x1, .int x2, rx_no] [] (rx_hp L t hi6 hl6 v6) Q
      refine rx_aw_s 2 (pc := 39) rfl ?_
      show rx_aw 191 16 [.ref 90, .int x1, .int (x2 + (1 : Int32)), rx_no] [] (rx_hp L t hi6 hl6 v6) Q
      exact k
set_option maxRecDepth 100000 in
theorem w191_work_r_63 {L : Nat} {t : List (Nat × Nat)} {hi : Nat → Nat → Int32} {hl : Nat → Nat → Int64} {v : Nat → Nat → Option Nat} {Q : Option Value → rx_H → Prop} {x1 : Int32} {x2 : Int32} (k : (((402 : Int32) ≤ x2 → rx_aw 191 114 [.ref 90, .int x1, .int (0 : Int32), rx_no] [] (rx_hp L t hi hl v) Q) ∧ (¬ ((402 : Int32) ≤ x2) → (∃ j8 : Nat, x1 = nI j8 ∧ j8 < 6 ∧ (∃ j9 : Nat, (((402 : Int32) * x1) + x2) = nI j9 ∧ j9 < 2412 ∧ (∃ j10 : Nat, (((402 : Int32) * x1) + x2) = nI j10 ∧ j10 < 2412 ∧ rx_me 179 [.ref 90, .int (hi 93 j8), .int (hi 101 j9), .int (hi 102 j10)] (rx_hp L t hi hl v) (fun r h2 => ∃ z11 : Int64, r = some (.long z11) ∧ rx_ok2 L t h2 (fun hi11 hl11 v11 => (∃ j12 : Nat, (((402 : Int32) * x1) + x2) = nI j12 ∧ j12 < 2412 ∧ rx_aw 191 63 [.ref 90, .int x1, .int (x2 + (1 : Int32)), rx_no] [] (rx_hp L t hi11 (rx_u hl11 105 j12 z11) v11) Q))))))))) : rx_aw 191 63 [.ref 90, .int x1, .int x2, rx_no] [] (rx_hp L t hi hl v) Q := by
  refine rx_aw_s 3 (pc := 63) rfl ?_
  refine rx_w_if (c := (402 : Int32) ≤ x2) ⟨fun c7 => ?_, fun c7 => ?_⟩
  · have k := k.1 c7
    show rx_aw 191 112 [.ref 90, .int x1, .int x2, rx_no] [] (rx_hp L t hi hl v) Q
    refine rx_aw_s 2 (pc := 112) rfl ?_
    show rx_aw 191 114 [.ref 90, .int x1, .int (0 : Int32), rx_no] [] (rx_hp L t hi hl v) Q
    exact k
  · have k := k.2 c7
    show rx_aw 191 70 [.ref 90, .int x1, .int x2, rx_no] [] (rx_hp L t hi hl v) Q
    refine rx_aw_s 13 (pc := 70) rfl ?_
    show rx_aw 191 89 [.ref 90, .int x1, .int x2, .int (((402 : Int32) * x1) + x2)] [.int x1, .ref 93, .ref 90, .int (((402 : Int32) * x1) + x2), .ref 105] (rx_hp L t hi hl v) Q
    obtain ⟨j8, ej8, hj8, k⟩ := k
    refine rx_aw_iald (pc := 89) (n := 6) j8 ej8 rfl rfl rfl hj8 (by decide) ?_
    show rx_aw 191 90 [.ref 90, .int x1, .int x2, .int (((402 : Int32) * x1) + x2)] [.int (hi 93 j8), .ref 90, .int (((402 : Int32) * x1) + x2), .ref 105] (rx_hp L t hi hl v) Q
    refine rx_aw_s 3 (pc := 90) rfl ?_
    show rx_aw 191 95 [.ref 90, .int x1, .int x2, .int (((402 : Int32) * x1) + x2)] [.int (((402 : Int32) * x1) + x2), .ref 101, .int (hi 93 j8), .ref 90, .int (((402 : Int32) * x1) + x2), .ref 105] (rx_hp L t hi hl v) Q
    obtain ⟨j9, ej9, hj9, k⟩ := k
    refine rx_aw_iald (pc := 95) (n := 2412) j9 ej9 rfl rfl rfl hj9 (by decide) ?_
    show rx_aw 191 96 [.ref 90, .int x1, .int x2, .int (((402 : Int32) * x1) + x2)] [.int (hi 101 j9), .int (hi 93 j8), .ref 90, .int (((402 : Int32) * x1) + x2), .ref 105] (rx_hp L t hi hl v) Q
    refine rx_aw_s 3 (pc := 96) rfl ?_
    show rx_aw 191 101 [.ref 90, .int x1, .int x2, .int (((402 : Int32) * x1) + x2)] [.int (((402 : Int32) * x1) + x2), .ref 102, .int (hi 101 j9), .int (hi 93 j8), .ref 90, .int (((402 : Int32) * x1) + x2), .ref 105] (rx_hp L t hi hl v) Q
    obtain ⟨j10, ej10, hj10, k⟩ := k
    refine rx_aw_iald (pc := 101) (n := 2412) j10 ej10 rfl rfl rfl hj10 (by decide) ?_
    show rx_aw 191 102 [.ref 90, .int x1, .int x2, .int (((402 : Int32) * x1) + x2)] [.int (hi 102 j10), .int (hi 101 j9), .int (hi 93 j8), .ref 90, .int (((402 : Int32) * x1) + x2), .ref 105] (rx_hp L t hi hl v) Q
    refine rx_w_callL (j := 179) (pc := 102) rfl rfl rfl rfl rfl ?_
    refine rx_aw.mono k (fun r h2 k => ?_)
    obtain ⟨z11, rfl, hi11, hl11, v11, rfl, k⟩ := k
    refine ⟨z11, rfl, ?_⟩
    show rx_aw 191 105 [.ref 90, .int x1, .int x2, .int (((402 : Int32) * x1) + x2)] [.long z11, .int (((402 : Int32) * x1) + x2), .ref 105] (rx_hp L t hi11 hl11 v11) Q
    obtain ⟨j12, ej12, hj12, k⟩ := k
    refine rx_aw_last (pc := 105) (n := 2412) j12 ej12 rfl rfl (by decide) rfl hj12 (by decide) ?_
    show rx_aw 191 106 [.ref 90, .int x1, .int x2, .int (((402 : Int32) * x1) + x2)] [] (rx_hp L t hi11 (rx_u hl11 105 j12 z11) v11) Q
    refine rx_aw_s 2 (pc := 106) rfl ?_
    show rx_aw 191 63 [.ref 90, .int x1, .int (x2 + (1 : Int32)), .int (((402 : Int32) * x1) + x2)] [] (rx_hp L t hi11 (rx_u hl11 105 j12 z11) v11) Q
    exact rx_aw_le (ls := [.ref 90, .int x1, .int (x2 + (1 : Int32)), rx_no]) ⟨Or.inr rfl, ⟨Or.inr rfl, ⟨Or.inr rfl, ⟨Or.inl rfl, trivial⟩⟩⟩⟩ k
set_option maxRecDepth 100000 in
theorem w191_work_r_114 {L : Nat} {t : List (Nat × Nat)} {hi : Nat → Nat → Int32} {hl : Nat → Nat → Int64} {v : Nat → Nat → Option Nat} {Q : Option Value → rx_H → Prop} {x1 : Int32} {x2 : Int32} (k : (((402 : Int32) ≤ x2 → rx_aw 191 53 [.ref 90, .int (x1 + (1 : Int32)), rx_no, rx_no] [] (rx_hp L t hi hl v) Q) ∧ (¬ ((402 : Int32) ≤ x2) → (∃ j14 : Nat, (((402 : Int32) * x1) + x2) = nI j14 ∧ j14 < 2412 ∧ rx_me 196 [.ref 90, .int x1, .int x2] (rx_hp L t hi hl v) (fun r h2 => ∃ z15 : Int64, r = some (.long z15) ∧ rx_ok2 L t h2 (fun hi15 hl15 v15 => ((x2 = 0 → (∃ j17 : Nat, (((402 : Int32) * x1) + x2) = nI j17 ∧ j17 < 2412 ∧ rx_aw 191 114 [.ref 90, .int x1, .int (x2 + (1 : Int32)), rx_no] [] (rx_hp L t hi15 (rx_u hl15 106 j17 (((hl 105 j14) ||| z15) ||| (0 : Int64))) v15) Q)) ∧ (¬ (x2 = 0) → rx_me 196 [.ref 90, .int x1, .int (x2 - (1 : Int32))] (rx_hp L t hi15 hl15 v15) (fun r h2 => ∃ z18 : Int64, r = some (.long z18) ∧ rx_ok2 L t h2 (fun hi18 hl18 v18 => (∃ j19 : Nat, (((402 : Int32) * x1) + x2) = nI j19 ∧ j19 < 2412 ∧ rx_aw 191 114 [.ref 90, .int x1, .int (x2 + (1 : Int32)), rx_no] [] (rx_hp L t hi18 (rx_u hl18 106 j19 (((hl 105 j14) ||| z15) ||| z18)) v18) Q))))))))))) : rx_aw 191 114 [.ref 90, .int x1, .int x2, rx_no] [] (rx_hp L t hi hl v) Q := by
  refine rx_aw_s 3 (pc := 114) rfl ?_
  refine rx_w_if (c := (402 : Int32) ≤ x2) ⟨fun c13 => ?_, fun c13 => ?_⟩
  · have k := k.1 c13
    show rx_aw 191 171 [.ref 90, .int x1, .int x2, rx_no] [] (rx_hp L t hi hl v) Q
    refine rx_aw_s 2 (pc := 171) rfl ?_
    show rx_aw 191 53 [.ref 90, .int (x1 + (1 : Int32)), .int x2, rx_no] [] (rx_hp L t hi hl v) Q
    exact rx_aw_le (ls := [.ref 90, .int (x1 + (1 : Int32)), rx_no, rx_no]) ⟨Or.inr rfl, ⟨Or.inr rfl, ⟨Or.inl rfl, ⟨Or.inl rfl, trivial⟩⟩⟩⟩ k
  · have k := k.2 c13
    show rx_aw 191 121 [.ref 90, .int x1, .int x2, rx_no] [] (rx_hp L t hi hl v) Q
    refine rx_aw_s 12 (pc := 121) rfl ?_
    show rx_aw 191 139 [.ref 90, .int x1, .int x2, .int (((402 : Int32) * x1) + x2)] [.int (((402 : Int32) * x1) + x2), .ref 105, .int (((402 : Int32) * x1) + x2), .ref 106] (rx_hp L t hi hl v) Q
    obtain ⟨j14, ej14, hj14, k⟩ := k
    refine rx_aw_lald (pc := 139) (n := 2412) j14 ej14 rfl rfl (by decide) rfl hj14 (by decide) ?_
    show rx_aw 191 140 [.ref 90, .int x1, .int x2, .int (((402 : Int32) * x1) + x2)] [.long (hl 105 j14), .int (((402 : Int32) * x1) + x2), .ref 106] (rx_hp L t hi hl v) Q
    refine rx_aw_s 3 (pc := 140) rfl ?_
    show rx_aw 191 143 [.ref 90, .int x1, .int x2, .int (((402 : Int32) * x1) + x2)] [.int x2, .int x1, .ref 90, .long (hl 105 j14), .int (((402 : Int32) * x1) + x2), .ref 106] (rx_hp L t hi hl v) Q
    refine rx_w_callL (j := 196) (pc := 143) rfl rfl rfl rfl rfl ?_
    refine rx_aw.mono k (fun r h2 k => ?_)
    obtain ⟨z15, rfl, hi15, hl15, v15, rfl, k⟩ := k
    refine ⟨z15, rfl, ?_⟩
    show rx_aw 191 146 [.ref 90, .int x1, .int x2, .int (((402 : Int32) * x1) + x2)] [.long z15, .long (hl 105 j14), .int (((402 : Int32) * x1) + x2), .ref 106] (rx_hp L t hi15 hl15 v15) Q
    refine rx_aw_s 3 (pc := 146) rfl ?_
    refine rx_w_ifn (c := x2 = 0) ⟨fun c16 => ?_, fun c16 => ?_⟩
    · have k := k.1 c16
      show rx_aw 191 151 [.ref 90, .int x1, .int x2, .int (((402 : Int32) * x1) + x2)] [.long ((hl 105 j14) ||| z15), .int (((402 : Int32) * x1) + x2), .ref 106] (rx_hp L t hi15 hl15 v15) Q
      refine rx_aw_s 3 (pc := 151) rfl ?_
      show rx_aw 191 164 [.ref 90, .int x1, .int x2, .int (((402 : Int32) * x1) + x2)] [.long (((hl 105 j14) ||| z15) ||| (0 : Int64)), .int (((402 : Int32) * x1) + x2), .ref 106] (rx_hp L t hi15 hl15 v15) Q
      obtain ⟨j17, ej17, hj17, k⟩ := k
      refine rx_aw_last (pc := 164) (n := 2412) j17 ej17 rfl rfl (by decide) rfl hj17 (by decide) ?_
      show rx_aw 191 165 [.ref 90, .int x1, .int x2, .int (((402 : Int32) * x1) + x2)] [] (rx_hp L t hi15 (rx_u hl15 106 j17 (((hl 105 j14) ||| z15) ||| (0 : Int64))) v15) Q
      refine rx_aw_s 2 (pc := 165) rfl ?_
      show rx_aw 191 114 [.ref 90, .int x1, .int (x2 + (1 : Int32)), .int (((402 : Int32) * x1) + x2)] [] (rx_hp L t hi15 (rx_u hl15 106 j17 (((hl 105 j14) ||| z15) ||| (0 : Int64))) v15) Q
      exact rx_aw_le (ls := [.ref 90, .int x1, .int (x2 + (1 : Int32)), rx_no]) ⟨Or.inr rfl, ⟨Or.inr rfl, ⟨Or.inr rfl, ⟨Or.inl rfl, trivial⟩⟩⟩⟩ k
    · have k := k.2 c16
      show rx_aw 191 155 [.ref 90, .int x1, .int x2, .int (((402 : Int32) * x1) + x2)] [.long ((hl 105 j14) ||| z15), .int (((402 : Int32) * x1) + x2), .ref 106] (rx_hp L t hi15 hl15 v15) Q
      refine rx_aw_s 5 (pc := 155) rfl ?_
      show rx_aw 191 160 [.ref 90, .int x1, .int x2, .int (((402 : Int32) * x1) + x2)] [.int (x2 - (1 : Int32)), .int x1, .ref 90, .long ((hl 105 j14) ||| z15), .int (((402 : Int32) * x1) + x2), .ref 106] (rx_hp L t hi15 hl15 v15) Q
      refine rx_w_callL (j := 196) (pc := 160) rfl rfl rfl rfl rfl ?_
      refine rx_aw.mono k (fun r h2 k => ?_)
      obtain ⟨z18, rfl, hi18, hl18, v18, rfl, k⟩ := k
      refine ⟨z18, rfl, ?_⟩
      show rx_aw 191 163 [.ref 90, .int x1, .int x2, .int (((402 : Int32) * x1) + x2)] [.long z18, .long ((hl 105 j14) ||| z15), .int (((402 : Int32) * x1) + x2), .ref 106] (rx_hp L t hi18 hl18 v18) Q
      refine rx_aw_s 1 (pc := 163) rfl ?_
      show rx_aw 191 164 [.ref 90, .int x1, .int x2, .int (((402 : Int32) * x1) + x2)] [.long (((hl 105 j14) ||| z15) ||| z18), .int (((402 : Int32) * x1) + x2), .ref 106] (rx_hp L t hi18 hl18 v18) Q
      obtain ⟨j19, ej19, hj19, k⟩ := k
      refine rx_aw_last (pc := 164) (n := 2412) j19 ej19 rfl rfl (by decide) rfl hj19 (by decide) ?_
      show rx_aw 191 165 [.ref 90, .int x1, .int x2, .int (((402 : Int32) * x1) + x2)] [] (rx_hp L t hi18 (rx_u hl18 106 j19 (((hl 105 j14) ||| z15) ||| z18)) v18) Q
      refine rx_aw_s 2 (pc := 165) rfl ?_
      show rx_aw 191 114 [.ref 90, .int x1, .int (x2 + (1 : Int32)), .int (((402 : Int32) * x1) + x2)] [] (rx_hp L t hi18 (rx_u hl18 106 j19 (((hl 105 j14) ||| z15) ||| z18)) v18) Q
      exact rx_aw_le (ls := [.ref 90, .int x1, .int (x2 + (1 : Int32)), rx_no]) ⟨Or.inr rfl, ⟨Or.inr rfl, ⟨Or.inr rfl, ⟨Or.inl rfl, trivial⟩⟩⟩⟩ k
set_option maxRecDepth 100000 in
/-- CartFloorModel.placeShelves(I)V -/
theorem w192_placeShelves_r {L : Nat} {t : List (Nat × Nat)} {hi : Nat → Nat → Int32} {hl : Nat → Nat → Int64} {v : Nat → Nat → Option Nat} {Q : Option Value → rx_H → Prop} {a0 : Int32} (k : rx_aw 192 2 [.ref 90, .int a0, .int (0 : Int32), rx_no, rx_no] [] (rx_hp L t hi hl v) Q) : rx_me 192 [.ref 90, .int a0] (rx_hp L t hi hl v) Q := by
  show rx_aw 192 0 [.ref 90, .int a0, rx_no, rx_no, rx_no] [] (rx_hp L t hi hl v) Q
  refine rx_aw_s 2 (pc := 0) rfl ?_
  show rx_aw 192 2 [.ref 90, .int a0, .int (0 : Int32), rx_no, rx_no] [] (rx_hp L t hi hl v) Q
  exact k
set_option maxRecDepth 100000 in
theorem w192_placeShelves_r_2 {L : Nat} {t : List (Nat × Nat)} {hi : Nat → Nat → Int32} {hl : Nat → Nat → Int64} {v : Nat → Nat → Option Nat} {Q : Option Value → rx_H → Prop} {x1 : Int32} {x2 : Int32} (k : (((hi 90 21) ≤ x2 → Q none (rx_hp L t hi hl v)) ∧ (¬ ((hi 90 21) ≤ x2) → ((x1 = 0 → (∃ j3 : Nat, x2 = nI j3 ∧ j3 < 12 ∧ (∃ j4 : Nat, (((402 : Int32) * x2) + x1) = nI j4 ∧ j4 < 4824 ∧ rx_aw 192 48 [.ref 90, .int x1, .int x2, .int (((402 : Int32) * x2) + x1), .int (0 : Int32)] [] (rx_hp L t (rx_u hi 108 j4 (hi 107 j3)) hl v) Q))) ∧ (¬ (x1 = 0) → (∃ j5 : Nat, ((((402 : Int32) * x2) + x1) - (1 : Int32)) = nI j5 ∧ j5 < 4824 ∧ (∃ j6 : Nat, (((402 : Int32) * x2) + x1) = nI j6 ∧ j6 < 4824 ∧ rx_aw 192 48 [.ref 90, .int x1, .int x2, .int (((402 : Int32) * x2) + x1), .int (0 : Int32)] [] (rx_hp L t (rx_u hi 108 j6 (hi 108 j5)) hl v) Q))))))) : rx_aw 192 2 [.ref 90, .int x1, .int x2, rx_no, rx_no] [] (rx_hp L t hi hl v) Q := by
  refine rx_aw_s 4 (pc := 2) rfl ?_
  refine rx_w_if (c := (hi 90 21) ≤ x2) ⟨fun c1 => ?_, fun c1 => ?_⟩
  · have k := k.1 c1
    show rx_aw 192 105 [.ref 90, .int x1, .int x2, rx_no, rx_no] [] (rx_hp L t hi hl v) Q
    exact rx_aw_ret (pc := 105) rfl k
  · have k := k.2 c1
    show rx_aw 192 10 [.ref 90, .int x1, .int x2, rx_no, rx_no] [] (rx_hp L t hi hl v) Q
    refine rx_aw_s 11 (pc := 10) rfl ?_
    refine rx_w_ifn (c := x1 = 0) ⟨fun c2 => ?_, fun c2 => ?_⟩
    · have k := k.1 c2
      show rx_aw 192 27 [.ref 90, .int x1, .int x2, .int (((402 : Int32) * x2) + x1), rx_no] [.int (((402 : Int32) * x2) + x1), .ref 108] (rx_hp L t hi hl v) Q
      refine rx_aw_s 3 (pc := 27) rfl ?_
      show rx_aw 192 32 [.ref 90, .int x1, .int x2, .int (((402 : Int32) * x2) + x1), rx_no] [.int x2, .ref 107, .int (((402 : Int32) * x2) + x1), .ref 108] (rx_hp L t hi hl v) Q
      obtain ⟨j3, ej3, hj3, k⟩ := k
      refine rx_aw_iald (pc := 32) (n := 12) j3 ej3 rfl rfl rfl hj3 (by decide) ?_
      show rx_aw 192 33 [.ref 90, .int x1, .int x2, .int (((402 : Int32) * x2) + x1), rx_no] [.int (hi 107 j3), .int (((402 : Int32) * x2) + x1), .ref 108] (rx_hp L t hi hl v) Q
      refine rx_aw_s 1 (pc := 33) rfl ?_
      show rx_aw 192 44 [.ref 90, .int x1, .int x2, .int (((402 : Int32) * x2) + x1), rx_no] [.int (hi 107 j3), .int (((402 : Int32) * x2) + x1), .ref 108] (rx_hp L t hi hl v) Q
      obtain ⟨j4, ej4, hj4, k⟩ := k
      refine rx_aw_iast (pc := 44) (n := 4824) j4 ej4 rfl rfl (by decide) rfl hj4 (by decide) ?_
      show rx_aw 192 45 [.ref 90, .int x1, .int x2, .int (((402 : Int32) * x2) + x1), rx_no] [] (rx_hp L t (rx_u hi 108 j4 (hi 107 j3)) hl v) Q
      refine rx_aw_s 2 (pc := 45) rfl ?_
      show rx_aw 192 48 [.ref 90, .int x1, .int x2, .int (((402 : Int32) * x2) + x1), .int (0 : Int32)] [] (rx_hp L t (rx_u hi 108 j4 (hi 107 j3)) hl v) Q
      exact k
    · have k := k.2 c2
      show rx_aw 192 36 [.ref 90, .int x1, .int x2, .int (((402 : Int32) * x2) + x1), rx_no] [.int (((402 : Int32) * x2) + x1), .ref 108] (rx_hp L t hi hl v) Q
      refine rx_aw_s 5 (pc := 36) rfl ?_
      show rx_aw 192 43 [.ref 90, .int x1, .int x2, .int (((402 : Int32) * x2) + x1), rx_no] [.int ((((402 : Int32) * x2) + x1) - (1 : Int32)), .ref 108, .int (((402 : Int32) * x2) + x1), .ref 108] (rx_hp L t hi hl v) Q
      obtain ⟨j5, ej5, hj5, k⟩ := k
      refine rx_aw_iald (pc := 43) (n := 4824) j5 ej5 rfl rfl rfl hj5 (by decide) ?_
      show rx_aw 192 44 [.ref 90, .int x1, .int x2, .int (((402 : Int32) * x2) + x1), rx_no] [.int (hi 108 j5), .int (((402 : Int32) * x2) + x1), .ref 108] (rx_hp L t hi hl v) Q
      obtain ⟨j6, ej6, hj6, k⟩ := k
      refine rx_aw_iast (pc := 44) (n := 4824) j6 ej6 rfl rfl (by decide) rfl hj6 (by decide) ?_
      show rx_aw 192 45 [.ref 90, .int x1, .int x2, .int (((402 : Int32) * x2) + x1), rx_no] [] (rx_hp L t (rx_u hi 108 j6 (hi 108 j5)) hl v) Q
      refine rx_aw_s 2 (pc := 45) rfl ?_
      show rx_aw 192 48 [.ref 90, .int x1, .int x2, .int (((402 : Int32) * x2) + x1), .int (0 : Int32)] [] (rx_hp L t (rx_u hi 108 j6 (hi 108 j5)) hl v) Q
      exact k
set_option maxRecDepth 100000 in
theorem w192_placeShelves_r_48 {L : Nat} {t : List (Nat × Nat)} {hi : Nat → Nat → Int32} {hl : Nat → Nat → Int64} {v : Nat → Nat → Option Nat} {Q : Option Value → rx_H → Prop} {x1 : Int32} {x2 : Int32} {x3 : Int32} {x4 : Int32} (k : (((hi 90 6) ≤ x4 → rx_aw 192 2 [.ref 90, .int x1, .int (x2 + (1 : Int32)), rx_no, rx_no] [] (rx_hp L t hi hl v) Q) ∧ (¬ ((hi 90 6) ≤ x4) → (∃ j8 : Nat, (((402 : Int32) * x4) + x1) = nI j8 ∧ j8 < 2412 ∧ (((hi 103 j8) = x2 → (∃ j10 : Nat, (((402 : Int32) * x4) + x1) = nI j10 ∧ j10 < 2412 ∧ (∃ j11 : Nat, x3 = nI j11 ∧ j11 < 4824 ∧ rx_aw 192 48 [.ref 90, .int x1, .int x2, .int x3, .int (x4 + (1 : Int32))] [] (rx_hp L t (rx_u hi 108 j11 (hi 101 j10)) hl v) Q))) ∧ (¬ ((hi 103 j8) = x2) → rx_aw 192 48 [.ref 90, .int x1, .int x2, .int x3, .int (x4 + (1 : Int32))] [] (rx_hp L t hi hl v) Q)))))) : rx_aw 192 48 [.ref 90, .int x1, .int x2, .int x3, .int x4] [] (rx_hp L t hi hl v) Q := by
  refine rx_aw_s 4 (pc := 48) rfl ?_
  refine rx_w_if (c := (hi 90 6) ≤ x4) ⟨fun c7 => ?_, fun c7 => ?_⟩
  · have k := k.1 c7
    show rx_aw 192 99 [.ref 90, .int x1, .int x2, .int x3, .int x4] [] (rx_hp L t hi hl v) Q
    refine rx_aw_s 2 (pc := 99) rfl ?_
    show rx_aw 192 2 [.ref 90, .int x1, .int (x2 + (1 : Int32)), .int x3, .int x4] [] (rx_hp L t hi hl v) Q
    exact rx_aw_le (ls := [.ref 90, .int x1, .int (x2 + (1 : Int32)), rx_no, rx_no]) ⟨Or.inr rfl, ⟨Or.inr rfl, ⟨Or.inr rfl, ⟨Or.inl rfl, ⟨Or.inl rfl, trivial⟩⟩⟩⟩⟩ k
  · have k := k.2 c7
    show rx_aw 192 57 [.ref 90, .int x1, .int x2, .int x3, .int x4] [] (rx_hp L t hi hl v) Q
    refine rx_aw_s 7 (pc := 57) rfl ?_
    show rx_aw 192 69 [.ref 90, .int x1, .int x2, .int x3, .int x4] [.int (((402 : Int32) * x4) + x1), .ref 103] (rx_hp L t hi hl v) Q
    obtain ⟨j8, ej8, hj8, k⟩ := k
    refine rx_aw_iald (pc := 69) (n := 2412) j8 ej8 rfl rfl rfl hj8 (by decide) ?_
    show rx_aw 192 70 [.ref 90, .int x1, .int x2, .int x3, .int x4] [.int (hi 103 j8)] (rx_hp L t hi hl v) Q
    refine rx_aw_s 2 (pc := 70) rfl ?_
    refine rx_w_ifn (c := (hi 103 j8) = x2) ⟨fun c9 => ?_, fun c9 => ?_⟩
    · have k := k.1 c9
      show rx_aw 192 74 [.ref 90, .int x1, .int x2, .int x3, .int x4] [] (rx_hp L t hi hl v) Q
      refine rx_aw_s 10 (pc := 74) rfl ?_
      show rx_aw 192 91 [.ref 90, .int x1, .int x2, .int x3, .int x4] [.int (((402 : Int32) * x4) + x1), .ref 101, .int x3, .ref 108] (rx_hp L t hi hl v) Q
      obtain ⟨j10, ej10, hj10, k⟩ := k
      refine rx_aw_iald (pc := 91) (n := 2412) j10 ej10 rfl rfl rfl hj10 (by decide) ?_
      show rx_aw 192 92 [.ref 90, .int x1, .int x2, .int x3, .int x4] [.int (hi 101 j10), .int x3, .ref 108] (rx_hp L t hi hl v) Q
      obtain ⟨j11, ej11, hj11, k⟩ := k
      refine rx_aw_iast (pc := 92) (n := 4824) j11 ej11 rfl rfl (by decide) rfl hj11 (by decide) ?_
      show rx_aw 192 93 [.ref 90, .int x1, .int x2, .int x3, .int x4] [] (rx_hp L t (rx_u hi 108 j11 (hi 101 j10)) hl v) Q
      refine rx_aw_s 2 (pc := 93) rfl ?_
      show rx_aw 192 48 [.ref 90, .int x1, .int x2, .int x3, .int (x4 + (1 : Int32))] [] (rx_hp L t (rx_u hi 108 j11 (hi 101 j10)) hl v) Q
      exact k
    · have k := k.2 c9
      show rx_aw 192 93 [.ref 90, .int x1, .int x2, .int x3, .int x4] [] (rx_hp L t hi hl v) Q
      refine rx_aw_s 2 (pc := 93) rfl ?_
      show rx_aw 192 48 [.ref 90, .int x1, .int x2, .int x3, .int (x4 + (1 : Int32))] [] (rx_hp L t hi hl v) Q
      exact k
