/-! Methods walked by program (gen/wp.py): what is left to show of each. -/
/-- CartFloor.loaded(II)I -/
theorem w50_loaded {L : Nat} {t : List (Nat × Nat)} {hi : Nat → Nat → Int32} {hl : Nat → Nat → Int64} {v : Nat → Nat → Option Nat} {Q : Option Value → rx_H → Prop} {a0 : Int32} {a1 : Int32} (k : Q (some (.int ((a0 &&& 255) ||| ((a1 + 1) <<< (8 &&& 31))))) (rx_hp L t hi hl v)) : rx_me 50 [.int a0, .int a1] (rx_hp L t hi hl v) Q := by
  show rx_aw 50 0 [.int a0, .int a1] [] (rx_hp L t hi hl v) Q
  refine rx_aw_s 9 (pc := 0) rfl ?_
  show rx_aw 50 12 [.int a0, .int a1] [.int ((a0 &&& 255) ||| ((a1 + 1) <<< (8 &&& 31)))] (rx_hp L t hi hl v) Q
  exact rx_aw_ret (pc := 12) rfl k
/-- CartFloor$Traffic.bringShelves(I)V -/
theorem w51_bringShelves {L : Nat} {t : List (Nat × Nat)} {hi : Nat → Nat → Int32} {hl : Nat → Nat → Int64} {v : Nat → Nat → Option Nat} {Q : Option Value → rx_H → Prop} {a0 : Int32} (k : rx_aw 51 2 [.ref 13, .int a0, .int 0, rx_no] [] (rx_hp L t hi hl v) Q) : rx_me 51 [.ref 13, .int a0] (rx_hp L t hi hl v) Q := by
  show rx_aw 51 0 [.ref 13, .int a0, rx_no, rx_no] [] (rx_hp L t hi hl v) Q
  refine rx_aw_s 2 (pc := 0) rfl ?_
  show rx_aw 51 2 [.ref 13, .int a0, .int 0, rx_no] [] (rx_hp L t hi hl v) Q
  exact k
theorem w51_bringShelves_2 {L : Nat} {t : List (Nat × Nat)} {hi : Nat → Nat → Int32} {hl : Nat → Nat → Int64} {v : Nat → Nat → Option Nat} {Q : Option Value → rx_H → Prop} {x1 : Int32} {x2 : Int32} (k : (((hi 13 4) ≤ x2 → rx_aw 51 42 [.ref 13, .int x1, .int 0, rx_no] [] (rx_hp L t hi hl v) Q) ∧ (¬ ((hi 13 4) ≤ x2) → (∃ j2 : Nat, x2 = nI j2 ∧ j2 < 12 ∧ (∃ j3 : Nat, x2 = nI j3 ∧ j3 < 12 ∧ (∃ j4 : Nat, (x1 - 1) = nI j4 ∧ j4 < 402 ∧ (∃ j5 : Nat, x1 = nI j5 ∧ j5 < 402 ∧ rx_aw 51 2 [.ref 13, .int x1, .int (x2 + 1), rx_no] [] (rx_hp L t (rx_u hi (rx_sf j2 + 1) j5 (hi (rx_sf j3 + 1) j4)) hl v) Q))))))) : rx_aw 51 2 [.ref 13, .int x1, .int x2, rx_no] [] (rx_hp L t hi hl v) Q := by
  refine rx_aw_s 4 (pc := 2) rfl ?_
  refine rx_w_if (c := (hi 13 4) ≤ x2) ⟨fun c1 => ?_, fun c1 => ?_⟩
  · have k := k.1 c1
    show rx_aw 51 40 [.ref 13, .int x1, .int x2, rx_no] [] (rx_hp L t hi hl v) Q
    refine rx_aw_s 2 (pc := 40) rfl ?_
    show rx_aw 51 42 [.ref 13, .int x1, .int 0, rx_no] [] (rx_hp L t hi hl v) Q
    exact k
  · have k := k.2 c1
    show rx_aw 51 10 [.ref 13, .int x1, .int x2, rx_no] [] (rx_hp L t hi hl v) Q
    refine rx_aw_s 3 (pc := 10) rfl ?_
    show rx_aw 51 15 [.ref 13, .int x1, .int x2, rx_no] [.int x2, .ref 15] (rx_hp L t hi hl v) Q
    obtain ⟨j2, ej2, hj2, k⟩ := k
    refine rx_w_shelves (pc := 15) rfl ⟨j2, ej2, hj2, ?_⟩
    show rx_aw 51 16 [.ref 13, .int x1, .int x2, rx_no] [.ref (rx_sf j2)] (rx_hp L t hi hl v) Q
    refine rx_w_sr hj2 (pc := 16) rfl ?_
    show rx_aw 51 19 [.ref 13, .int x1, .int x2, rx_no] [.ref (rx_sf j2 + 1)] (rx_hp L t hi hl v) Q
    refine rx_aw_s 4 (pc := 19) rfl ?_
    show rx_aw 51 25 [.ref 13, .int x1, .int x2, rx_no] [.int x2, .ref 15, .int x1, .ref (rx_sf j2 + 1)] (rx_hp L t hi hl v) Q
    obtain ⟨j3, ej3, hj3, k⟩ := k
    refine rx_w_shelves (pc := 25) rfl ⟨j3, ej3, hj3, ?_⟩
    show rx_aw 51 26 [.ref 13, .int x1, .int x2, rx_no] [.ref (rx_sf j3), .int x1, .ref (rx_sf j2 + 1)] (rx_hp L t hi hl v) Q
    refine rx_w_sr hj3 (pc := 26) rfl ?_
    show rx_aw 51 29 [.ref 13, .int x1, .int x2, rx_no] [.ref (rx_sf j3 + 1), .int x1, .ref (rx_sf j2 + 1)] (rx_hp L t hi hl v) Q
    refine rx_aw_s 3 (pc := 29) rfl ?_
    show rx_aw 51 32 [.ref 13, .int x1, .int x2, rx_no] [.int (x1 - 1), .ref (rx_sf j3 + 1), .int x1, .ref (rx_sf j2 + 1)] (rx_hp L t hi hl v) Q
    obtain ⟨j4, ej4, hj4, k⟩ := k
    refine rx_aw_iald (pc := 32) (n := 402) j4 ej4 rfl (rx_ck (rx_shelf_s (v := v) hj3).2.1) (rx_cle (rx_shelf_s (v := v) hj3).2.1) hj4 (by decide) ?_
    show rx_aw 51 33 [.ref 13, .int x1, .int x2, rx_no] [.int (hi (rx_sf j3 + 1) j4), .int x1, .ref (rx_sf j2 + 1)] (rx_hp L t hi hl v) Q
    obtain ⟨j5, ej5, hj5, k⟩ := k
    refine rx_aw_iast (pc := 33) (n := 402) j5 ej5 rfl (rx_ck (rx_shelf_s (v := v) hj2).2.1) (Nat.lt_of_lt_of_le (rx_sf_pos _) (Nat.le_add_right _ _)) (rx_cle (rx_shelf_s (v := v) hj2).2.1) hj5 (by decide) ?_
    show rx_aw 51 34 [.ref 13, .int x1, .int x2, rx_no] [] (rx_hp L t (rx_u hi (rx_sf j2 + 1) j5 (hi (rx_sf j3 + 1) j4)) hl v) Q
    refine rx_aw_s 2 (pc := 34) rfl ?_
    show rx_aw 51 2 [.ref 13, .int x1, .int (x2 + 1), rx_no] [] (rx_hp L t (rx_u hi (rx_sf j2 + 1) j5 (hi (rx_sf j3 + 1) j4)) hl v) Q
    exact k
theorem w51_bringShelves_42 {L : Nat} {t : List (Nat × Nat)} {hi : Nat → Nat → Int32} {hl : Nat → Nat → Int64} {v : Nat → Nat → Option Nat} {Q : Option Value → rx_H → Prop} {x1 : Int32} {x2 : Int32} (k : (((hi 13 3) ≤ x2 → Q none (rx_hp L t hi hl v)) ∧ (¬ ((hi 13 3) ≤ x2) → (∃ j7 : Nat, x2 = nI j7 ∧ j7 < 6 ∧ (∃ j8 : Nat, x1 = nI j8 ∧ j8 < 402 ∧ rx_me 48 [.int (hi (rx_ct j7 + 3) j8)] (rx_hp L t hi hl v) (fun r h2 => ∃ z9 : Int32, r = some (.int z9) ∧ rx_ok2 L t h2 (fun hi9 hl9 v9 => ((z9 < 0 → rx_aw 51 42 [.ref 13, .int x1, .int (x2 + 1), rx_no] [] (rx_hp L t hi9 hl9 v9) Q) ∧ (¬ (z9 < 0) → (((hi9 13 4) ≤ z9 → rx_aw 51 42 [.ref 13, .int x1, .int (x2 + 1), rx_no] [] (rx_hp L t hi9 hl9 v9) Q) ∧ (¬ ((hi9 13 4) ≤ z9) → (∃ j12 : Nat, z9 = nI j12 ∧ j12 < 12 ∧ (∃ j13 : Nat, x2 = nI j13 ∧ j13 < 6 ∧ (∃ j14 : Nat, x1 = nI j14 ∧ j14 < 402 ∧ rx_me 8 [.int (hi9 (rx_ct j13 + 3) j14)] (rx_hp L t hi9 hl9 v9) (fun r h2 => ∃ z15 : Int32, r = some (.int z15) ∧ rx_ok2 L t h2 (fun hi15 hl15 v15 => (∃ j16 : Nat, x1 = nI j16 ∧ j16 < 402 ∧ rx_aw 51 42 [.ref 13, .int x1, .int (x2 + 1), rx_no] [] (rx_hp L t (rx_u hi15 (rx_sf j12 + 1) j16 z15) hl15 v15) Q))))))))))))))))) : rx_aw 51 42 [.ref 13, .int x1, .int x2, rx_no] [] (rx_hp L t hi hl v) Q := by
  refine rx_aw_s 4 (pc := 42) rfl ?_
  refine rx_w_if (c := (hi 13 3) ≤ x2) ⟨fun c6 => ?_, fun c6 => ?_⟩
  · have k := k.1 c6
    show rx_aw 51 108 [.ref 13, .int x1, .int x2, rx_no] [] (rx_hp L t hi hl v) Q
    exact rx_aw_ret (pc := 108) rfl k
  · have k := k.2 c6
    show rx_aw 51 50 [.ref 13, .int x1, .int x2, rx_no] [] (rx_hp L t hi hl v) Q
    refine rx_aw_s 3 (pc := 50) rfl ?_
    show rx_aw 51 55 [.ref 13, .int x1, .int x2, rx_no] [.int x2, .ref 14] (rx_hp L t hi hl v) Q
    obtain ⟨j7, ej7, hj7, k⟩ := k
    refine rx_w_carts (pc := 55) rfl ⟨j7, ej7, hj7, ?_⟩
    show rx_aw 51 56 [.ref 13, .int x1, .int x2, rx_no] [.ref (rx_ct j7)] (rx_hp L t hi hl v) Q
    refine rx_w_cr hj7 (pc := 56) rfl (by decide) ?_
    show rx_aw 51 59 [.ref 13, .int x1, .int x2, rx_no] [.ref (rx_ct j7 + 3)] (rx_hp L t hi hl v) Q
    refine rx_aw_s 1 (pc := 59) rfl ?_
    show rx_aw 51 60 [.ref 13, .int x1, .int x2, rx_no] [.int x1, .ref (rx_ct j7 + 3)] (rx_hp L t hi hl v) Q
    obtain ⟨j8, ej8, hj8, k⟩ := k
    refine rx_aw_iald (pc := 60) (n := 402) j8 ej8 rfl (rx_ck (rx_cart_s hj7).2.2.2.1) (rx_cle (rx_cart_s hj7).2.2.2.1) hj8 (by decide) ?_
    show rx_aw 51 61 [.ref 13, .int x1, .int x2, rx_no] [.int (hi (rx_ct j7 + 3) j8)] (rx_hp L t hi hl v) Q
    refine rx_w_callI (j := 48) (pc := 61) rfl rfl rfl rfl rfl ?_
    refine rx_aw.mono k (fun r h2 k => ?_)
    obtain ⟨z9, rfl, hi9, hl9, v9, rfl, k⟩ := k
    refine ⟨z9, rfl, ?_⟩
    show rx_aw 51 64 [.ref 13, .int x1, .int x2, rx_no] [.int z9] (rx_hp L t hi9 hl9 v9) Q
    refine rx_aw_s 3 (pc := 64) rfl ?_
    refine rx_w_if (c := z9 < 0) ⟨fun c10 => ?_, fun c10 => ?_⟩
    · have k := k.1 c10
      show rx_aw 51 102 [.ref 13, .int x1, .int x2, .int z9] [] (rx_hp L t hi9 hl9 v9) Q
      refine rx_aw_s 2 (pc := 102) rfl ?_
      show rx_aw 51 42 [.ref 13, .int x1, .int (x2 + 1), .int z9] [] (rx_hp L t hi9 hl9 v9) Q
      exact rx_aw_le (ls := [.ref 13, .int x1, .int (x2 + 1), rx_no]) ⟨Or.inr rfl, ⟨Or.inr rfl, ⟨Or.inr rfl, ⟨Or.inl rfl, trivial⟩⟩⟩⟩ k
    · have k := k.2 c10
      show rx_aw 51 69 [.ref 13, .int x1, .int x2, .int z9] [] (rx_hp L t hi9 hl9 v9) Q
      refine rx_aw_s 4 (pc := 69) rfl ?_
      refine rx_w_if (c := (hi9 13 4) ≤ z9) ⟨fun c11 => ?_, fun c11 => ?_⟩
      · have k := k.1 c11
        show rx_aw 51 102 [.ref 13, .int x1, .int x2, .int z9] [] (rx_hp L t hi9 hl9 v9) Q
        refine rx_aw_s 2 (pc := 102) rfl ?_
        show rx_aw 51 42 [.ref 13, .int x1, .int (x2 + 1), .int z9] [] (rx_hp L t hi9 hl9 v9) Q
        exact rx_aw_le (ls := [.ref 13, .int x1, .int (x2 + 1), rx_no]) ⟨Or.inr rfl, ⟨Or.inr rfl, ⟨Or.inr rfl, ⟨Or.inl rfl, trivial⟩⟩⟩⟩ k
      · have k := k.2 c11
        show rx_aw 51 77 [.ref 13, .int x1, .int x2, .int z9] [] (rx_hp L t hi9 hl9 v9) Q
        refine rx_aw_s 3 (pc := 77) rfl ?_
        show rx_aw 51 82 [.ref 13, .int x1, .int x2, .int z9] [.int z9, .ref 15] (rx_hp L t hi9 hl9 v9) Q
        obtain ⟨j12, ej12, hj12, k⟩ := k
        refine rx_w_shelves (pc := 82) rfl ⟨j12, ej12, hj12, ?_⟩
        show rx_aw 51 83 [.ref 13, .int x1, .int x2, .int z9] [.ref (rx_sf j12)] (rx_hp L t hi9 hl9 v9) Q
        refine rx_w_sr hj12 (pc := 83) rfl ?_
        show rx_aw 51 86 [.ref 13, .int x1, .int x2, .int z9] [.ref (rx_sf j12 + 1)] (rx_hp L t hi9 hl9 v9) Q
        refine rx_aw_s 4 (pc := 86) rfl ?_
        show rx_aw 51 92 [.ref 13, .int x1, .int x2, .int z9] [.int x2, .ref 14, .int x1, .ref (rx_sf j12 + 1)] (rx_hp L t hi9 hl9 v9) Q
        obtain ⟨j13, ej13, hj13, k⟩ := k
        refine rx_w_carts (pc := 92) rfl ⟨j13, ej13, hj13, ?_⟩
        show rx_aw 51 93 [.ref 13, .int x1, .int x2, .int z9] [.ref (rx_ct j13), .int x1, .ref (rx_sf j12 + 1)] (rx_hp L t hi9 hl9 v9) Q
        refine rx_w_cr hj13 (pc := 93) rfl (by decide) ?_
        show rx_aw 51 96 [.ref 13, .int x1, .int x2, .int z9] [.ref (rx_ct j13 + 3), .int x1, .ref (rx_sf j12 + 1)] (rx_hp L t hi9 hl9 v9) Q
        refine rx_aw_s 1 (pc := 96) rfl ?_
        show rx_aw 51 97 [.ref 13, .int x1, .int x2, .int z9] [.int x1, .ref (rx_ct j13 + 3), .int x1, .ref (rx_sf j12 + 1)] (rx_hp L t hi9 hl9 v9) Q
        obtain ⟨j14, ej14, hj14, k⟩ := k
        refine rx_aw_iald (pc := 97) (n := 402) j14 ej14 rfl (rx_ck (rx_cart_s hj13).2.2.2.1) (rx_cle (rx_cart_s hj13).2.2.2.1) hj14 (by decide) ?_
        show rx_aw 51 98 [.ref 13, .int x1, .int x2, .int z9] [.int (hi9 (rx_ct j13 + 3) j14), .int x1, .ref (rx_sf j12 + 1)] (rx_hp L t hi9 hl9 v9) Q
        refine rx_w_callI (j := 8) (pc := 98) rfl rfl rfl rfl rfl ?_
        refine rx_aw.mono k (fun r h2 k => ?_)
        obtain ⟨z15, rfl, hi15, hl15, v15, rfl, k⟩ := k
        refine ⟨z15, rfl, ?_⟩
        show rx_aw 51 101 [.ref 13, .int x1, .int x2, .int z9] [.int z15, .int x1, .ref (rx_sf j12 + 1)] (rx_hp L t hi15 hl15 v15) Q
        obtain ⟨j16, ej16, hj16, k⟩ := k
        refine rx_aw_iast (pc := 101) (n := 402) j16 ej16 rfl (rx_ck (rx_shelf_s (v := v) hj12).2.1) (Nat.lt_of_lt_of_le (rx_sf_pos _) (Nat.le_add_right _ _)) (rx_cle (rx_shelf_s (v := v) hj12).2.1) hj16 (by decide) ?_
        show rx_aw 51 102 [.ref 13, .int x1, .int x2, .int z9] [] (rx_hp L t (rx_u hi15 (rx_sf j12 + 1) j16 z15) hl15 v15) Q
        refine rx_aw_s 2 (pc := 102) rfl ?_
        show rx_aw 51 42 [.ref 13, .int x1, .int (x2 + 1), .int z9] [] (rx_hp L t (rx_u hi15 (rx_sf j12 + 1) j16 z15) hl15 v15) Q
        exact rx_aw_le (ls := [.ref 13, .int x1, .int (x2 + 1), rx_no]) ⟨Or.inr rfl, ⟨Or.inr rfl, ⟨Or.inr rfl, ⟨Or.inl rfl, trivial⟩⟩⟩⟩ k
/-- CartFloor$Floor.turnSquares(III)J -/
theorem w53_turnSquares {L : Nat} {t : List (Nat × Nat)} {hi : Nat → Nat → Int32} {hl : Nat → Nat → Int64} {v : Nat → Nat → Option Nat} {Q : Option Value → rx_H → Prop} {a0 : Int32} {a1 : Int32} {a2 : Int32} (k : ((a0 < 2 → ((0 = 0 → Q (some (.long 0)) (rx_hp L t hi hl v)) ∧ (¬ (0 = 0) → (∃ j3 : Nat, (((a2 - 3) * 256) + (a1 &&& 255)) = nI j3 ∧ j3 < 512 ∧ Q (some (.long (hl 12 j3))) (rx_hp L t hi hl v))))) ∧ (¬ (a0 < 2) → ((a2 < 3 → ((0 = 0 → Q (some (.long 0)) (rx_hp L t hi hl v)) ∧ (¬ (0 = 0) → (∃ j6 : Nat, (((a2 - 3) * 256) + (a1 &&& 255)) = nI j6 ∧ j6 < 512 ∧ Q (some (.long (hl 12 j6))) (rx_hp L t hi hl v))))) ∧ (¬ (a2 < 3) → ((4 < a2 → ((0 = 0 → Q (some (.long 0)) (rx_hp L t hi hl v)) ∧ (¬ (0 = 0) → (∃ j9 : Nat, (((a2 - 3) * 256) + (a1 &&& 255)) = nI j9 ∧ j9 < 512 ∧ Q (some (.long (hl 12 j9))) (rx_hp L t hi hl v))))) ∧ (¬ (4 < a2) → ((1 = 0 → Q (some (.long 0)) (rx_hp L t hi hl v)) ∧ (¬ (1 = 0) → (∃ j11 : Nat, (((a2 - 3) * 256) + (a1 &&& 255)) = nI j11 ∧ j11 < 512 ∧ Q (some (.long (hl 12 j11))) (rx_hp L t hi hl v))))))))))) : rx_me 53 [.ref 7, .int a0, .int a1, .int a2] (rx_hp L t hi hl v) Q := by
  show rx_aw 53 0 [.ref 7, .int a0, .int a1, .int a2, rx_no] [] (rx_hp L t hi hl v) Q
  refine rx_aw_s 3 (pc := 0) rfl ?_
  refine rx_w_if (c := a0 < 2) ⟨fun c1 => ?_, fun c1 => ?_⟩
  · have k := k.1 c1
    show rx_aw 53 19 [.ref 7, .int a0, .int a1, .int a2, rx_no] [] (rx_hp L t hi hl v) Q
    refine rx_aw_s 4 (pc := 19) rfl ?_
    refine rx_w_if (c := 0 = 0) ⟨fun c2 => ?_, fun c2 => ?_⟩
    · have k := k.1 c2
      show rx_aw 53 48 [.ref 7, .int a0, .int a1, .int a2, .int 0] [] (rx_hp L t hi hl v) Q
      refine rx_aw_s 1 (pc := 48) rfl ?_
      show rx_aw 53 49 [.ref 7, .int a0, .int a1, .int a2, .int 0] [.long 0] (rx_hp L t hi hl v) Q
      exact rx_aw_ret (pc := 49) rfl k
    · have k := k.2 c2
      show rx_aw 53 27 [.ref 7, .int a0, .int a1, .int a2, .int 0] [] (rx_hp L t hi hl v) Q
      refine rx_aw_s 11 (pc := 27) rfl ?_
      show rx_aw 53 44 [.ref 7, .int a0, .int a1, .int a2, .int 0] [.int (((a2 - 3) * 256) + (a1 &&& 255)), .ref 12] (rx_hp L t hi hl v) Q
      obtain ⟨j3, ej3, hj3, k⟩ := k
      refine rx_aw_lald (pc := 44) (n := 512) j3 ej3 rfl rfl (by decide) rfl hj3 (by decide) ?_
      show rx_aw 53 45 [.ref 7, .int a0, .int a1, .int a2, .int 0] [.long (hl 12 j3)] (rx_hp L t hi hl v) Q
      refine rx_aw_s 1 (pc := 45) rfl ?_
      show rx_aw 53 49 [.ref 7, .int a0, .int a1, .int a2, .int 0] [.long (hl 12 j3)] (rx_hp L t hi hl v) Q
      exact rx_aw_ret (pc := 49) rfl k
  · have k := k.2 c1
    show rx_aw 53 5 [.ref 7, .int a0, .int a1, .int a2, rx_no] [] (rx_hp L t hi hl v) Q
    refine rx_aw_s 3 (pc := 5) rfl ?_
    refine rx_w_if (c := a2 < 3) ⟨fun c4 => ?_, fun c4 => ?_⟩
    · have k := k.1 c4
      show rx_aw 53 19 [.ref 7, .int a0, .int a1, .int a2, rx_no] [] (rx_hp L t hi hl v) Q
      refine rx_aw_s 4 (pc := 19) rfl ?_
      refine rx_w_if (c := 0 = 0) ⟨fun c5 => ?_, fun c5 => ?_⟩
      · have k := k.1 c5
        show rx_aw 53 48 [.ref 7, .int a0, .int a1, .int a2, .int 0] [] (rx_hp L t hi hl v) Q
        refine rx_aw_s 1 (pc := 48) rfl ?_
        show rx_aw 53 49 [.ref 7, .int a0, .int a1, .int a2, .int 0] [.long 0] (rx_hp L t hi hl v) Q
        exact rx_aw_ret (pc := 49) rfl k
      · have k := k.2 c5
        show rx_aw 53 27 [.ref 7, .int a0, .int a1, .int a2, .int 0] [] (rx_hp L t hi hl v) Q
        refine rx_aw_s 11 (pc := 27) rfl ?_
        show rx_aw 53 44 [.ref 7, .int a0, .int a1, .int a2, .int 0] [.int (((a2 - 3) * 256) + (a1 &&& 255)), .ref 12] (rx_hp L t hi hl v) Q
        obtain ⟨j6, ej6, hj6, k⟩ := k
        refine rx_aw_lald (pc := 44) (n := 512) j6 ej6 rfl rfl (by decide) rfl hj6 (by decide) ?_
        show rx_aw 53 45 [.ref 7, .int a0, .int a1, .int a2, .int 0] [.long (hl 12 j6)] (rx_hp L t hi hl v) Q
        refine rx_aw_s 1 (pc := 45) rfl ?_
        show rx_aw 53 49 [.ref 7, .int a0, .int a1, .int a2, .int 0] [.long (hl 12 j6)] (rx_hp L t hi hl v) Q
        exact rx_aw_ret (pc := 49) rfl k
    · have k := k.2 c4
      show rx_aw 53 10 [.ref 7, .int a0, .int a1, .int a2, rx_no] [] (rx_hp L t hi hl v) Q
      refine rx_aw_s 3 (pc := 10) rfl ?_
      refine rx_w_if (c := 4 < a2) ⟨fun c7 => ?_, fun c7 => ?_⟩
      · have k := k.1 c7
        show rx_aw 53 19 [.ref 7, .int a0, .int a1, .int a2, rx_no] [] (rx_hp L t hi hl v) Q
        refine rx_aw_s 4 (pc := 19) rfl ?_
        refine rx_w_if (c := 0 = 0) ⟨fun c8 => ?_, fun c8 => ?_⟩
        · have k := k.1 c8
          show rx_aw 53 48 [.ref 7, .int a0, .int a1, .int a2, .int 0] [] (rx_hp L t hi hl v) Q
          refine rx_aw_s 1 (pc := 48) rfl ?_
          show rx_aw 53 49 [.ref 7, .int a0, .int a1, .int a2, .int 0] [.long 0] (rx_hp L t hi hl v) Q
          exact rx_aw_ret (pc := 49) rfl k
        · have k := k.2 c8
          show rx_aw 53 27 [.ref 7, .int a0, .int a1, .int a2, .int 0] [] (rx_hp L t hi hl v) Q
          refine rx_aw_s 11 (pc := 27) rfl ?_
          show rx_aw 53 44 [.ref 7, .int a0, .int a1, .int a2, .int 0] [.int (((a2 - 3) * 256) + (a1 &&& 255)), .ref 12] (rx_hp L t hi hl v) Q
          obtain ⟨j9, ej9, hj9, k⟩ := k
          refine rx_aw_lald (pc := 44) (n := 512) j9 ej9 rfl rfl (by decide) rfl hj9 (by decide) ?_
          show rx_aw 53 45 [.ref 7, .int a0, .int a1, .int a2, .int 0] [.long (hl 12 j9)] (rx_hp L t hi hl v) Q
          refine rx_aw_s 1 (pc := 45) rfl ?_
          show rx_aw 53 49 [.ref 7, .int a0, .int a1, .int a2, .int 0] [.long (hl 12 j9)] (rx_hp L t hi hl v) Q
          exact rx_aw_ret (pc := 49) rfl k
      · have k := k.2 c7
        show rx_aw 53 15 [.ref 7, .int a0, .int a1, .int a2, rx_no] [] (rx_hp L t hi hl v) Q
        refine rx_aw_s 5 (pc := 15) rfl ?_
        refine rx_w_if (c := 1 = 0) ⟨fun c10 => ?_, fun c10 => ?_⟩
        · have k := k.1 c10
          show rx_aw 53 48 [.ref 7, .int a0, .int a1, .int a2, .int 1] [] (rx_hp L t hi hl v) Q
          refine rx_aw_s 1 (pc := 48) rfl ?_
          show rx_aw 53 49 [.ref 7, .int a0, .int a1, .int a2, .int 1] [.long 0] (rx_hp L t hi hl v) Q
          exact rx_aw_ret (pc := 49) rfl k
        · have k := k.2 c10
          show rx_aw 53 27 [.ref 7, .int a0, .int a1, .int a2, .int 1] [] (rx_hp L t hi hl v) Q
          refine rx_aw_s 11 (pc := 27) rfl ?_
          show rx_aw 53 44 [.ref 7, .int a0, .int a1, .int a2, .int 1] [.int (((a2 - 3) * 256) + (a1 &&& 255)), .ref 12] (rx_hp L t hi hl v) Q
          obtain ⟨j11, ej11, hj11, k⟩ := k
          refine rx_aw_lald (pc := 44) (n := 512) j11 ej11 rfl rfl (by decide) rfl hj11 (by decide) ?_
          show rx_aw 53 45 [.ref 7, .int a0, .int a1, .int a2, .int 1] [.long (hl 12 j11)] (rx_hp L t hi hl v) Q
          refine rx_aw_s 1 (pc := 45) rfl ?_
          show rx_aw 53 49 [.ref 7, .int a0, .int a1, .int a2, .int 1] [.long (hl 12 j11)] (rx_hp L t hi hl v) Q
          exact rx_aw_ret (pc := 49) rfl k
/-- CartFloor.cart(IIII)I -/
theorem w54_cart {L : Nat} {t : List (Nat × Nat)} {hi : Nat → Nat → Int32} {hl : Nat → Nat → Int64} {v : Nat → Nat → Option Nat} {Q : Option Value → rx_H → Prop} {a0 : Int32} {a1 : Int32} {a2 : Int32} {a3 : Int32} (k : rx_me 26 [.ref 7, .int a1, .int a2] (rx_hp L t hi hl v) (fun r h2 => ∃ z1 : Int32, r = some (.int z1) ∧ rx_ok2 L t h2 (fun hi1 hl1 v1 => ((a0 < 0 → Q (some (.int (-2))) (rx_hp L t hi1 hl1 v1)) ∧ (¬ (a0 < 0) → ((3 < a0 → Q (some (.int (-2))) (rx_hp L t hi1 hl1 v1)) ∧ (¬ (3 < a0) → ((z1 < 0 → Q (some (.int (-2))) (rx_hp L t hi1 hl1 v1)) ∧ (¬ (z1 < 0) → ((a3 < 0 → Q (some (.int (-2))) (rx_hp L t hi1 hl1 v1)) ∧ (¬ (a3 < 0) → ((a3 ≤ 3 → ((6 ≤ (hi1 13 3) → Q (some (.int (-2))) (rx_hp L t hi1 hl1 v1)) ∧ (¬ (6 ≤ (hi1 13 3)) → rx_me 35 [.ref 13] (rx_hp L t hi1 hl1 v1) (fun r h2 => ∃ z8 : Int32, r = some (.int z8) ∧ rx_ok2 L t h2 (fun hi8 hl8 v8 => ((z8 = 0 → rx_me 55 [.int z1, .int a3, .int (-1)] (rx_hp L t hi8 hl8 v8) (fun r h2 => ∃ z10 : Int32, r = some (.int z10) ∧ rx_ok2 L t h2 (fun hi10 hl10 v10 => rx_me 42 [.ref 7, .int a0, .int z10] (rx_hp L t hi10 hl10 v10) (fun r h2 => ∃ z11 : Int64, r = some (.long z11) ∧ rx_ok2 L t h2 (fun hi11 hl11 v11 => ((a0 < 2 → rx_me 39 [.ref 13] (rx_hp L t hi11 hl11 v11) (fun r h2 => ∃ z13 : Int64, r = some (.long z13) ∧ rx_ok2 L t h2 (fun hi13 hl13 v13 => ((a0 = 1 → (((lg_cmp (z11 &&& ((hl13 7 10) ||| (z13 ||| 0))) 0) = 0 → rx_me 56 [.ref 13, .int a0, .int z10] (rx_hp L t hi13 hl13 v13) (fun r h2 => ∃ z16 : Int32, r = some (.int z16) ∧ rx_ok2 L t h2 (fun hi16 hl16 v16 => Q (some (.int z16)) (rx_hp L t hi16 hl16 v16)))) ∧ (¬ ((lg_cmp (z11 &&& ((hl13 7 10) ||| (z13 ||| 0))) 0) = 0) → Q (some (.int (-2))) (rx_hp L t hi13 hl13 v13)))) ∧ (¬ (a0 = 1) → rx_me 37 [.ref 13, .int 0, .int (-1)] (rx_hp L t hi13 hl13 v13) (fun r h2 => ∃ z17 : Int64, r = some (.long z17) ∧ rx_ok2 L t h2 (fun hi17 hl17 v17 => (((lg_cmp (z11 &&& ((hl17 7 10) ||| (z13 ||| z17))) 0) = 0 → rx_me 56 [.ref 13, .int a0, .int z10] (rx_hp L t hi17 hl17 v17) (fun r h2 => ∃ z19 : Int32, r = some (.int z19) ∧ rx_ok2 L t h2 (fun hi19 hl19 v19 => Q (some (.int z19)) (rx_hp L t hi19 hl19 v19)))) ∧ (¬ ((lg_cmp (z11 &&& ((hl17 7 10) ||| (z13 ||| z17))) 0) = 0) → Q (some (.int (-2))) (rx_hp L t hi17 hl17 v17)))))))))) ∧ (¬ (a0 < 2) → rx_me 13 [.long z11] (rx_hp L t hi11 hl11 v11) (fun r h2 => ∃ z20 : Int32, r = some (.int z20) ∧ rx_ok2 L t h2 (fun hi20 hl20 v20 => ((2 ≤ z20 → rx_me 39 [.ref 13] (rx_hp L t hi20 hl20 v20) (fun r h2 => ∃ z22 : Int64, r = some (.long z22) ∧ rx_ok2 L t h2 (fun hi22 hl22 v22 => ((a0 = 1 → (((lg_cmp (z11 &&& ((hl22 7 10) ||| (z22 ||| 0))) 0) = 0 → rx_me 56 [.ref 13, .int a0, .int z10] (rx_hp L t hi22 hl22 v22) (fun r h2 => ∃ z25 : Int32, r = some (.int z25) ∧ rx_ok2 L t h2 (fun hi25 hl25 v25 => Q (some (.int z25)) (rx_hp L t hi25 hl25 v25)))) ∧ (¬ ((lg_cmp (z11 &&& ((hl22 7 10) ||| (z22 ||| 0))) 0) = 0) → Q (some (.int (-2))) (rx_hp L t hi22 hl22 v22)))) ∧ (¬ (a0 = 1) → rx_me 37 [.ref 13, .int 0, .int (-1)] (rx_hp L t hi22 hl22 v22) (fun r h2 => ∃ z26 : Int64, r = some (.long z26) ∧ rx_ok2 L t h2 (fun hi26 hl26 v26 => (((lg_cmp (z11 &&& ((hl26 7 10) ||| (z22 ||| z26))) 0) = 0 → rx_me 56 [.ref 13, .int a0, .int z10] (rx_hp L t hi26 hl26 v26) (fun r h2 => ∃ z28 : Int32, r = some (.int z28) ∧ rx_ok2 L t h2 (fun hi28 hl28 v28 => Q (some (.int z28)) (rx_hp L t hi28 hl28 v28)))) ∧ (¬ ((lg_cmp (z11 &&& ((hl26 7 10) ||| (z22 ||| z26))) 0) = 0) → Q (some (.int (-2))) (rx_hp L t hi26 hl26 v26)))))))))) ∧ (¬ (2 ≤ z20) → Q (some (.int (-2))) (rx_hp L t hi20 hl20 v20)))))))))))) ∧ (¬ (z8 = 0) → Q (some (.int (-2))) (rx_hp L t hi8 hl8 v8)))))))) ∧ (¬ (a3 ≤ 3) → Q (some (.int (-2))) (rx_hp L t hi1 hl1 v1)))))))))))))) : rx_me 54 [.ref 1, .int a0, .int a1, .int a2, .int a3] (rx_hp L t hi hl v) Q := by
  show rx_aw 54 0 [.ref 1, .int a0, .int a1, .int a2, .int a3, rx_no, rx_no, rx_no, rx_no, rx_no, rx_no] [] (rx_hp L t hi hl v) Q
  refine rx_aw_s 4 (pc := 0) rfl ?_
  show rx_aw 54 6 [.ref 1, .int a0, .int a1, .int a2, .int a3, rx_no, rx_no, rx_no, rx_no, rx_no, rx_no] [.int a2, .int a1, .ref 7] (rx_hp L t hi hl v) Q
  refine rx_w_callI (j := 26) (pc := 6) rfl rfl rfl rfl rfl ?_
  refine rx_aw.mono k (fun r h2 k => ?_)
  obtain ⟨z1, rfl, hi1, hl1, v1, rfl, k⟩ := k
  refine ⟨z1, rfl, ?_⟩
  show rx_aw 54 9 [.ref 1, .int a0, .int a1, .int a2, .int a3, rx_no, rx_no, rx_no, rx_no, rx_no, rx_no] [.int z1] (rx_hp L t hi1 hl1 v1) Q
  refine rx_aw_s 3 (pc := 9) rfl ?_
  refine rx_w_if (c := a0 < 0) ⟨fun c2 => ?_, fun c2 => ?_⟩
  · have k := k.1 c2
    show rx_aw 54 36 [.ref 1, .int a0, .int a1, .int a2, .int a3, .int z1, rx_no, rx_no, rx_no, rx_no, rx_no] [] (rx_hp L t hi1 hl1 v1) Q
    refine rx_aw_s 1 (pc := 36) rfl ?_
    show rx_aw 54 38 [.ref 1, .int a0, .int a1, .int a2, .int a3, .int z1, rx_no, rx_no, rx_no, rx_no, rx_no] [.int (-2)] (rx_hp L t hi1 hl1 v1) Q
    exact rx_aw_ret (pc := 38) rfl k
  · have k := k.2 c2
    show rx_aw 54 15 [.ref 1, .int a0, .int a1, .int a2, .int a3, .int z1, rx_no, rx_no, rx_no, rx_no, rx_no] [] (rx_hp L t hi1 hl1 v1) Q
    refine rx_aw_s 3 (pc := 15) rfl ?_
    refine rx_w_if (c := 3 < a0) ⟨fun c3 => ?_, fun c3 => ?_⟩
    · have k := k.1 c3
      show rx_aw 54 36 [.ref 1, .int a0, .int a1, .int a2, .int a3, .int z1, rx_no, rx_no, rx_no, rx_no, rx_no] [] (rx_hp L t hi1 hl1 v1) Q
      refine rx_aw_s 1 (pc := 36) rfl ?_
      show rx_aw 54 38 [.ref 1, .int a0, .int a1, .int a2, .int a3, .int z1, rx_no, rx_no, rx_no, rx_no, rx_no] [.int (-2)] (rx_hp L t hi1 hl1 v1) Q
      exact rx_aw_ret (pc := 38) rfl k
    · have k := k.2 c3
      show rx_aw 54 20 [.ref 1, .int a0, .int a1, .int a2, .int a3, .int z1, rx_no, rx_no, rx_no, rx_no, rx_no] [] (rx_hp L t hi1 hl1 v1) Q
      refine rx_aw_s 2 (pc := 20) rfl ?_
      refine rx_w_if (c := z1 < 0) ⟨fun c4 => ?_, fun c4 => ?_⟩
      · have k := k.1 c4
        show rx_aw 54 36 [.ref 1, .int a0, .int a1, .int a2, .int a3, .int z1, rx_no, rx_no, rx_no, rx_no, rx_no] [] (rx_hp L t hi1 hl1 v1) Q
        refine rx_aw_s 1 (pc := 36) rfl ?_
        show rx_aw 54 38 [.ref 1, .int a0, .int a1, .int a2, .int a3, .int z1, rx_no, rx_no, rx_no, rx_no, rx_no] [.int (-2)] (rx_hp L t hi1 hl1 v1) Q
        exact rx_aw_ret (pc := 38) rfl k
      · have k := k.2 c4
        show rx_aw 54 25 [.ref 1, .int a0, .int a1, .int a2, .int a3, .int z1, rx_no, rx_no, rx_no, rx_no, rx_no] [] (rx_hp L t hi1 hl1 v1) Q
        refine rx_aw_s 2 (pc := 25) rfl ?_
        refine rx_w_if (c := a3 < 0) ⟨fun c5 => ?_, fun c5 => ?_⟩
        · have k := k.1 c5
          show rx_aw 54 36 [.ref 1, .int a0, .int a1, .int a2, .int a3, .int z1, rx_no, rx_no, rx_no, rx_no, rx_no] [] (rx_hp L t hi1 hl1 v1) Q
          refine rx_aw_s 1 (pc := 36) rfl ?_
          show rx_aw 54 38 [.ref 1, .int a0, .int a1, .int a2, .int a3, .int z1, rx_no, rx_no, rx_no, rx_no, rx_no] [.int (-2)] (rx_hp L t hi1 hl1 v1) Q
          exact rx_aw_ret (pc := 38) rfl k
        · have k := k.2 c5
          show rx_aw 54 30 [.ref 1, .int a0, .int a1, .int a2, .int a3, .int z1, rx_no, rx_no, rx_no, rx_no, rx_no] [] (rx_hp L t hi1 hl1 v1) Q
          refine rx_aw_s 3 (pc := 30) rfl ?_
          refine rx_w_if (c := a3 ≤ 3) ⟨fun c6 => ?_, fun c6 => ?_⟩
          · have k := k.1 c6
            show rx_aw 54 39 [.ref 1, .int a0, .int a1, .int a2, .int a3, .int z1, rx_no, rx_no, rx_no, rx_no, rx_no] [] (rx_hp L t hi1 hl1 v1) Q
            refine rx_aw_s 5 (pc := 39) rfl ?_
            refine rx_w_if (c := 6 ≤ (hi1 13 3)) ⟨fun c7 => ?_, fun c7 => ?_⟩
            · have k := k.1 c7
              show rx_aw 54 61 [.ref 1, .int a0, .int a1, .int a2, .int a3, .int z1, rx_no, rx_no, rx_no, rx_no, rx_no] [] (rx_hp L t hi1 hl1 v1) Q
              refine rx_aw_s 1 (pc := 61) rfl ?_
              show rx_aw 54 63 [.ref 1, .int a0, .int a1, .int a2, .int a3, .int z1, rx_no, rx_no, rx_no, rx_no, rx_no] [.int (-2)] (rx_hp L t hi1 hl1 v1) Q
              exact rx_aw_ret (pc := 63) rfl k
            · have k := k.2 c7
              show rx_aw 54 51 [.ref 1, .int a0, .int a1, .int a2, .int a3, .int z1, rx_no, rx_no, rx_no, rx_no, rx_no] [] (rx_hp L t hi1 hl1 v1) Q
              refine rx_aw_s 2 (pc := 51) rfl ?_
              show rx_aw 54 55 [.ref 1, .int a0, .int a1, .int a2, .int a3, .int z1, rx_no, rx_no, rx_no, rx_no, rx_no] [.ref 13] (rx_hp L t hi1 hl1 v1) Q
              refine rx_w_callI (j := 35) (pc := 55) rfl rfl rfl rfl rfl ?_
              refine rx_aw.mono k (fun r h2 k => ?_)
              obtain ⟨z8, rfl, hi8, hl8, v8, rfl, k⟩ := k
              refine ⟨z8, rfl, ?_⟩
              show rx_aw 54 58 [.ref 1, .int a0, .int a1, .int a2, .int a3, .int z1, rx_no, rx_no, rx_no, rx_no, rx_no] [.int z8] (rx_hp L t hi8 hl8 v8) Q
              refine rx_aw_s 1 (pc := 58) rfl ?_
              refine rx_w_if (c := z8 = 0) ⟨fun c9 => ?_, fun c9 => ?_⟩
              · have k := k.1 c9
                show rx_aw 54 64 [.ref 1, .int a0, .int a1, .int a2, .int a3, .int z1, rx_no, rx_no, rx_no, rx_no, rx_no] [] (rx_hp L t hi8 hl8 v8) Q
                refine rx_aw_s 3 (pc := 64) rfl ?_
                show rx_aw 54 69 [.ref 1, .int a0, .int a1, .int a2, .int a3, .int z1, rx_no, rx_no, rx_no, rx_no, rx_no] [.int (-1), .int a3, .int z1] (rx_hp L t hi8 hl8 v8) Q
                refine rx_w_callI (j := 55) (pc := 69) rfl rfl rfl rfl rfl ?_
                refine rx_aw.mono k (fun r h2 k => ?_)
                obtain ⟨z10, rfl, hi10, hl10, v10, rfl, k⟩ := k
                refine ⟨z10, rfl, ?_⟩
                show rx_aw 54 72 [.ref 1, .int a0, .int a1, .int a2, .int a3, .int z1, rx_no, rx_no, rx_no, rx_no, rx_no] [.int z10] (rx_hp L t hi10 hl10 v10) Q
                refine rx_aw_s 5 (pc := 72) rfl ?_
                show rx_aw 54 81 [.ref 1, .int a0, .int a1, .int a2, .int a3, .int z1, .int z10, rx_no, rx_no, rx_no, rx_no] [.int z10, .int a0, .ref 7] (rx_hp L t hi10 hl10 v10) Q
                refine rx_w_callL (j := 42) (pc := 81) rfl rfl rfl rfl rfl ?_
                refine rx_aw.mono k (fun r h2 k => ?_)
                obtain ⟨z11, rfl, hi11, hl11, v11, rfl, k⟩ := k
                refine ⟨z11, rfl, ?_⟩
                show rx_aw 54 84 [.ref 1, .int a0, .int a1, .int a2, .int a3, .int z1, .int z10, rx_no, rx_no, rx_no, rx_no] [.long z11] (rx_hp L t hi11 hl11 v11) Q
                refine rx_aw_s 4 (pc := 84) rfl ?_
                refine rx_w_if (c := a0 < 2) ⟨fun c12 => ?_, fun c12 => ?_⟩
                · have k := k.1 c12
                  show rx_aw 54 103 [.ref 1, .int a0, .int a1, .int a2, .int a3, .int z1, .int z10, .long z11, rx_no, rx_no, rx_no] [] (rx_hp L t hi11 hl11 v11) Q
                  refine rx_aw_s 2 (pc := 103) rfl ?_
                  show rx_aw 54 107 [.ref 1, .int a0, .int a1, .int a2, .int a3, .int z1, .int z10, .long z11, rx_no, rx_no, rx_no] [.ref 13] (rx_hp L t hi11 hl11 v11) Q
                  refine rx_w_callL (j := 39) (pc := 107) rfl rfl rfl rfl rfl ?_
                  refine rx_aw.mono k (fun r h2 k => ?_)
                  obtain ⟨z13, rfl, hi13, hl13, v13, rfl, k⟩ := k
                  refine ⟨z13, rfl, ?_⟩
                  show rx_aw 54 110 [.ref 1, .int a0, .int a1, .int a2, .int a3, .int z1, .int z10, .long z11, rx_no, rx_no, rx_no] [.long z13] (rx_hp L t hi13 hl13 v13) Q
                  refine rx_aw_s 3 (pc := 110) rfl ?_
                  refine rx_w_ifn (c := a0 = 1) ⟨fun c14 => ?_, fun c14 => ?_⟩
                  · have k := k.1 c14
                    show rx_aw 54 115 [.ref 1, .int a0, .int a1, .int a2, .int a3, .int z1, .int z10, .long z11, rx_no, rx_no, rx_no] [.long z13] (rx_hp L t hi13 hl13 v13) Q
                    refine rx_aw_s 14 (pc := 115) rfl ?_
                    refine rx_w_if (c := (lg_cmp (z11 &&& ((hl13 7 10) ||| (z13 ||| 0))) 0) = 0) ⟨fun c15 => ?_, fun c15 => ?_⟩
                    · have k := k.1 c15
                      show rx_aw 54 152 [.ref 1, .int a0, .int a1, .int a2, .int a3, .int z1, .int z10, .long z11, rx_no, .long (z13 ||| 0), rx_no] [] (rx_hp L t hi13 hl13 v13) Q
                      refine rx_aw_s 4 (pc := 152) rfl ?_
                      show rx_aw 54 159 [.ref 1, .int a0, .int a1, .int a2, .int a3, .int z1, .int z10, .long z11, rx_no, .long (z13 ||| 0), rx_no] [.int z10, .int a0, .ref 13] (rx_hp L t hi13 hl13 v13) Q
                      refine rx_w_callI (j := 56) (pc := 159) rfl rfl rfl rfl rfl ?_
                      refine rx_aw.mono k (fun r h2 k => ?_)
                      obtain ⟨z16, rfl, hi16, hl16, v16, rfl, k⟩ := k
                      refine ⟨z16, rfl, ?_⟩
                      show rx_aw 54 162 [.ref 1, .int a0, .int a1, .int a2, .int a3, .int z1, .int z10, .long z11, rx_no, .long (z13 ||| 0), rx_no] [.int z16] (rx_hp L t hi16 hl16 v16) Q
                      exact rx_aw_ret (pc := 162) rfl k
                    · have k := k.2 c15
                      show rx_aw 54 149 [.ref 1, .int a0, .int a1, .int a2, .int a3, .int z1, .int z10, .long z11, rx_no, .long (z13 ||| 0), rx_no] [] (rx_hp L t hi13 hl13 v13) Q
                      refine rx_aw_s 1 (pc := 149) rfl ?_
                      show rx_aw 54 151 [.ref 1, .int a0, .int a1, .int a2, .int a3, .int z1, .int z10, .long z11, rx_no, .long (z13 ||| 0), rx_no] [.int (-2)] (rx_hp L t hi13 hl13 v13) Q
                      exact rx_aw_ret (pc := 151) rfl k
                  · have k := k.2 c14
                    show rx_aw 54 119 [.ref 1, .int a0, .int a1, .int a2, .int a3, .int z1, .int z10, .long z11, rx_no, rx_no, rx_no] [.long z13] (rx_hp L t hi13 hl13 v13) Q
                    refine rx_aw_s 4 (pc := 119) rfl ?_
                    show rx_aw 54 125 [.ref 1, .int a0, .int a1, .int a2, .int a3, .int z1, .int z10, .long z11, rx_no, rx_no, rx_no] [.int (-1), .int 0, .ref 13, .long z13] (rx_hp L t hi13 hl13 v13) Q
                    refine rx_w_callL (j := 37) (pc := 125) rfl rfl rfl rfl rfl ?_
                    refine rx_aw.mono k (fun r h2 k => ?_)
                    obtain ⟨z17, rfl, hi17, hl17, v17, rfl, k⟩ := k
                    refine ⟨z17, rfl, ?_⟩
                    show rx_aw 54 128 [.ref 1, .int a0, .int a1, .int a2, .int a3, .int z1, .int z10, .long z11, rx_no, rx_no, rx_no] [.long z17, .long z13] (rx_hp L t hi17 hl17 v17) Q
                    refine rx_aw_s 12 (pc := 128) rfl ?_
                    refine rx_w_if (c := (lg_cmp (z11 &&& ((hl17 7 10) ||| (z13 ||| z17))) 0) = 0) ⟨fun c18 => ?_, fun c18 => ?_⟩
                    · have k := k.1 c18
                      show rx_aw 54 152 [.ref 1, .int a0, .int a1, .int a2, .int a3, .int z1, .int z10, .long z11, rx_no, .long (z13 ||| z17), rx_no] [] (rx_hp L t hi17 hl17 v17) Q
                      refine rx_aw_s 4 (pc := 152) rfl ?_
                      show rx_aw 54 159 [.ref 1, .int a0, .int a1, .int a2, .int a3, .int z1, .int z10, .long z11, rx_no, .long (z13 ||| z17), rx_no] [.int z10, .int a0, .ref 13] (rx_hp L t hi17 hl17 v17) Q
                      refine rx_w_callI (j := 56) (pc := 159) rfl rfl rfl rfl rfl ?_
                      refine rx_aw.mono k (fun r h2 k => ?_)
                      obtain ⟨z19, rfl, hi19, hl19, v19, rfl, k⟩ := k
                      refine ⟨z19, rfl, ?_⟩
                      show rx_aw 54 162 [.ref 1, .int a0, .int a1, .int a2, .int a3, .int z1, .int z10, .long z11, rx_no, .long (z13 ||| z17), rx_no] [.int z19] (rx_hp L t hi19 hl19 v19) Q
                      exact rx_aw_ret (pc := 162) rfl k
                    · have k := k.2 c18
                      show rx_aw 54 149 [.ref 1, .int a0, .int a1, .int a2, .int a3, .int z1, .int z10, .long z11, rx_no, .long (z13 ||| z17), rx_no] [] (rx_hp L t hi17 hl17 v17) Q
                      refine rx_aw_s 1 (pc := 149) rfl ?_
                      show rx_aw 54 151 [.ref 1, .int a0, .int a1, .int a2, .int a3, .int z1, .int z10, .long z11, rx_no, .long (z13 ||| z17), rx_no] [.int (-2)] (rx_hp L t hi17 hl17 v17) Q
                      exact rx_aw_ret (pc := 151) rfl k
                · have k := k.2 c12
                  show rx_aw 54 91 [.ref 1, .int a0, .int a1, .int a2, .int a3, .int z1, .int z10, .long z11, rx_no, rx_no, rx_no] [] (rx_hp L t hi11 hl11 v11) Q
                  refine rx_aw_s 1 (pc := 91) rfl ?_
                  show rx_aw 54 93 [.ref 1, .int a0, .int a1, .int a2, .int a3, .int z1, .int z10, .long z11, rx_no, rx_no, rx_no] [.long z11] (rx_hp L t hi11 hl11 v11) Q
                  refine rx_w_callI (j := 13) (pc := 93) rfl rfl rfl rfl rfl ?_
                  refine rx_aw.mono k (fun r h2 k => ?_)
                  obtain ⟨z20, rfl, hi20, hl20, v20, rfl, k⟩ := k
                  refine ⟨z20, rfl, ?_⟩
                  show rx_aw 54 96 [.ref 1, .int a0, .int a1, .int a2, .int a3, .int z1, .int z10, .long z11, rx_no, rx_no, rx_no] [.int z20] (rx_hp L t hi20 hl20 v20) Q
                  refine rx_aw_s 2 (pc := 96) rfl ?_
                  refine rx_w_if (c := 2 ≤ z20) ⟨fun c21 => ?_, fun c21 => ?_⟩
                  · have k := k.1 c21
                    show rx_aw 54 103 [.ref 1, .int a0, .int a1, .int a2, .int a3, .int z1, .int z10, .long z11, rx_no, rx_no, rx_no] [] (rx_hp L t hi20 hl20 v20) Q
                    refine rx_aw_s 2 (pc := 103) rfl ?_
                    show rx_aw 54 107 [.ref 1, .int a0, .int a1, .int a2, .int a3, .int z1, .int z10, .long z11, rx_no, rx_no, rx_no] [.ref 13] (rx_hp L t hi20 hl20 v20) Q
                    refine rx_w_callL (j := 39) (pc := 107) rfl rfl rfl rfl rfl ?_
                    refine rx_aw.mono k (fun r h2 k => ?_)
                    obtain ⟨z22, rfl, hi22, hl22, v22, rfl, k⟩ := k
                    refine ⟨z22, rfl, ?_⟩
                    show rx_aw 54 110 [.ref 1, .int a0, .int a1, .int a2, .int a3, .int z1, .int z10, .long z11, rx_no, rx_no, rx_no] [.long z22] (rx_hp L t hi22 hl22 v22) Q
                    refine rx_aw_s 3 (pc := 110) rfl ?_
                    refine rx_w_ifn (c := a0 = 1) ⟨fun c23 => ?_, fun c23 => ?_⟩
                    · have k := k.1 c23
                      show rx_aw 54 115 [.ref 1, .int a0, .int a1, .int a2, .int a3, .int z1, .int z10, .long z11, rx_no, rx_no, rx_no] [.long z22] (rx_hp L t hi22 hl22 v22) Q
                      refine rx_aw_s 14 (pc := 115) rfl ?_
                      refine rx_w_if (c := (lg_cmp (z11 &&& ((hl22 7 10) ||| (z22 ||| 0))) 0) = 0) ⟨fun c24 => ?_, fun c24 => ?_⟩
                      · have k := k.1 c24
                        show rx_aw 54 152 [.ref 1, .int a0, .int a1, .int a2, .int a3, .int z1, .int z10, .long z11, rx_no, .long (z22 ||| 0), rx_no] [] (rx_hp L t hi22 hl22 v22) Q
                        refine rx_aw_s 4 (pc := 152) rfl ?_
                        show rx_aw 54 159 [.ref 1, .int a0, .int a1, .int a2, .int a3, .int z1, .int z10, .long z11, rx_no, .long (z22 ||| 0), rx_no] [.int z10, .int a0, .ref 13] (rx_hp L t hi22 hl22 v22) Q
                        refine rx_w_callI (j := 56) (pc := 159) rfl rfl rfl rfl rfl ?_
                        refine rx_aw.mono k (fun r h2 k => ?_)
                        obtain ⟨z25, rfl, hi25, hl25, v25, rfl, k⟩ := k
                        refine ⟨z25, rfl, ?_⟩
                        show rx_aw 54 162 [.ref 1, .int a0, .int a1, .int a2, .int a3, .int z1, .int z10, .long z11, rx_no, .long (z22 ||| 0), rx_no] [.int z25] (rx_hp L t hi25 hl25 v25) Q
                        exact rx_aw_ret (pc := 162) rfl k
                      · have k := k.2 c24
                        show rx_aw 54 149 [.ref 1, .int a0, .int a1, .int a2, .int a3, .int z1, .int z10, .long z11, rx_no, .long (z22 ||| 0), rx_no] [] (rx_hp L t hi22 hl22 v22) Q
                        refine rx_aw_s 1 (pc := 149) rfl ?_
                        show rx_aw 54 151 [.ref 1, .int a0, .int a1, .int a2, .int a3, .int z1, .int z10, .long z11, rx_no, .long (z22 ||| 0), rx_no] [.int (-2)] (rx_hp L t hi22 hl22 v22) Q
                        exact rx_aw_ret (pc := 151) rfl k
                    · have k := k.2 c23
                      show rx_aw 54 119 [.ref 1, .int a0, .int a1, .int a2, .int a3, .int z1, .int z10, .long z11, rx_no, rx_no, rx_no] [.long z22] (rx_hp L t hi22 hl22 v22) Q
                      refine rx_aw_s 4 (pc := 119) rfl ?_
                      show rx_aw 54 125 [.ref 1, .int a0, .int a1, .int a2, .int a3, .int z1, .int z10, .long z11, rx_no, rx_no, rx_no] [.int (-1), .int 0, .ref 13, .long z22] (rx_hp L t hi22 hl22 v22) Q
                      refine rx_w_callL (j := 37) (pc := 125) rfl rfl rfl rfl rfl ?_
                      refine rx_aw.mono k (fun r h2 k => ?_)
                      obtain ⟨z26, rfl, hi26, hl26, v26, rfl, k⟩ := k
                      refine ⟨z26, rfl, ?_⟩
                      show rx_aw 54 128 [.ref 1, .int a0, .int a1, .int a2, .int a3, .int z1, .int z10, .long z11, rx_no, rx_no, rx_no] [.long z26, .long z22] (rx_hp L t hi26 hl26 v26) Q
                      refine rx_aw_s 12 (pc := 128) rfl ?_
                      refine rx_w_if (c := (lg_cmp (z11 &&& ((hl26 7 10) ||| (z22 ||| z26))) 0) = 0) ⟨fun c27 => ?_, fun c27 => ?_⟩
                      · have k := k.1 c27
                        show rx_aw 54 152 [.ref 1, .int a0, .int a1, .int a2, .int a3, .int z1, .int z10, .long z11, rx_no, .long (z22 ||| z26), rx_no] [] (rx_hp L t hi26 hl26 v26) Q
                        refine rx_aw_s 4 (pc := 152) rfl ?_
                        show rx_aw 54 159 [.ref 1, .int a0, .int a1, .int a2, .int a3, .int z1, .int z10, .long z11, rx_no, .long (z22 ||| z26), rx_no] [.int z10, .int a0, .ref 13] (rx_hp L t hi26 hl26 v26) Q
                        refine rx_w_callI (j := 56) (pc := 159) rfl rfl rfl rfl rfl ?_
                        refine rx_aw.mono k (fun r h2 k => ?_)
                        obtain ⟨z28, rfl, hi28, hl28, v28, rfl, k⟩ := k
                        refine ⟨z28, rfl, ?_⟩
                        show rx_aw 54 162 [.ref 1, .int a0, .int a1, .int a2, .int a3, .int z1, .int z10, .long z11, rx_no, .long (z22 ||| z26), rx_no] [.int z28] (rx_hp L t hi28 hl28 v28) Q
                        exact rx_aw_ret (pc := 162) rfl k
                      · have k := k.2 c27
                        show rx_aw 54 149 [.ref 1, .int a0, .int a1, .int a2, .int a3, .int z1, .int z10, .long z11, rx_no, .long (z22 ||| z26), rx_no] [] (rx_hp L t hi26 hl26 v26) Q
                        refine rx_aw_s 1 (pc := 149) rfl ?_
                        show rx_aw 54 151 [.ref 1, .int a0, .int a1, .int a2, .int a3, .int z1, .int z10, .long z11, rx_no, .long (z22 ||| z26), rx_no] [.int (-2)] (rx_hp L t hi26 hl26 v26) Q
                        exact rx_aw_ret (pc := 151) rfl k
                  · have k := k.2 c21
                    show rx_aw 54 100 [.ref 1, .int a0, .int a1, .int a2, .int a3, .int z1, .int z10, .long z11, rx_no, rx_no, rx_no] [] (rx_hp L t hi20 hl20 v20) Q
                    refine rx_aw_s 1 (pc := 100) rfl ?_
                    show rx_aw 54 102 [.ref 1, .int a0, .int a1, .int a2, .int a3, .int z1, .int z10, .long z11, rx_no, rx_no, rx_no] [.int (-2)] (rx_hp L t hi20 hl20 v20) Q
                    exact rx_aw_ret (pc := 102) rfl k
              · have k := k.2 c9
                show rx_aw 54 61 [.ref 1, .int a0, .int a1, .int a2, .int a3, .int z1, rx_no, rx_no, rx_no, rx_no, rx_no] [] (rx_hp L t hi8 hl8 v8) Q
                refine rx_aw_s 1 (pc := 61) rfl ?_
                show rx_aw 54 63 [.ref 1, .int a0, .int a1, .int a2, .int a3, .int z1, rx_no, rx_no, rx_no, rx_no, rx_no] [.int (-2)] (rx_hp L t hi8 hl8 v8) Q
                exact rx_aw_ret (pc := 63) rfl k
          · have k := k.2 c6
            show rx_aw 54 36 [.ref 1, .int a0, .int a1, .int a2, .int a3, .int z1, rx_no, rx_no, rx_no, rx_no, rx_no] [] (rx_hp L t hi1 hl1 v1) Q
            refine rx_aw_s 1 (pc := 36) rfl ?_
            show rx_aw 54 38 [.ref 1, .int a0, .int a1, .int a2, .int a3, .int z1, rx_no, rx_no, rx_no, rx_no, rx_no] [.int (-2)] (rx_hp L t hi1 hl1 v1) Q
            exact rx_aw_ret (pc := 38) rfl k
/-- CartFloor.stanceOf(III)I -/
theorem w55_stanceOf {L : Nat} {t : List (Nat × Nat)} {hi : Nat → Nat → Int32} {hl : Nat → Nat → Int64} {v : Nat → Nat → Option Nat} {Q : Option Value → rx_H → Prop} {a0 : Int32} {a1 : Int32} {a2 : Int32} (k : Q (some (.int ((a0 ||| (a1 <<< (6 &&& 31))) ||| ((a2 + 1) <<< (8 &&& 31))))) (rx_hp L t hi hl v)) : rx_me 55 [.int a0, .int a1, .int a2] (rx_hp L t hi hl v) Q := by
  show rx_aw 55 0 [.int a0, .int a1, .int a2] [] (rx_hp L t hi hl v) Q
  refine rx_aw_s 11 (pc := 0) rfl ?_
  show rx_aw 55 13 [.int a0, .int a1, .int a2] [.int ((a0 ||| (a1 <<< (6 &&& 31))) ||| ((a2 + 1) <<< (8 &&& 31)))] (rx_hp L t hi hl v) Q
  exact rx_aw_ret (pc := 13) rfl k
/-- CartFloor$Traffic.addCart(II)I -/
theorem w56_addCart {L : Nat} {t : List (Nat × Nat)} {hi : Nat → Nat → Int32} {hl : Nat → Nat → Int64} {v : Nat → Nat → Option Nat} {Q : Option Value → rx_H → Prop} {a0 : Int32} {a1 : Int32} (k : (∃ j1 : Nat, (hi 13 3) = nI j1 ∧ j1 < 6 ∧ rx_me 57 [.ref (rx_ct j1), .int a1] (rx_hp L t (rx_u hi (rx_ct j1) 5 a0) hl v) (fun r h2 => r = none ∧ rx_ok2 L t h2 (fun hi2 hl2 v2 => rx_me 41 [.ref 13] (rx_hp L t (rx_u hi2 13 3 ((hi2 13 3) + 1)) hl2 v2) (fun r h2 => r = none ∧ rx_ok2 L t h2 (fun hi3 hl3 v3 => Q (some (.int ((hi3 13 3) - 1))) (rx_hp L t hi3 hl3 v3))))))) : rx_me 56 [.ref 13, .int a0, .int a1] (rx_hp L t hi hl v) Q := by
  show rx_aw 56 0 [.ref 13, .int a0, .int a1, rx_no] [] (rx_hp L t hi hl v) Q
  refine rx_aw_s 4 (pc := 0) rfl ?_
  show rx_aw 56 8 [.ref 13, .int a0, .int a1, rx_no] [.int (hi 13 3), .ref 14] (rx_hp L t hi hl v) Q
  obtain ⟨j1, ej1, hj1, k⟩ := k
  refine rx_w_carts (pc := 8) rfl ⟨j1, ej1, hj1, ?_⟩
  show rx_aw 56 9 [.ref 13, .int a0, .int a1, rx_no] [.ref (rx_ct j1)] (rx_hp L t hi hl v) Q
  refine rx_aw_s 3 (pc := 9) rfl ?_
  show rx_aw 56 12 [.ref 13, .int a0, .int a1, .ref (rx_ct j1)] [.int a0, .ref (rx_ct j1)] (rx_hp L t hi hl v) Q
  refine rx_w_cp hj1 (pc := 12) rfl rfl (by decide) ?_
  show rx_aw 56 15 [.ref 13, .int a0, .int a1, .ref (rx_ct j1)] [] (rx_hp L t (rx_u hi (rx_ct j1) 5 a0) hl v) Q
  refine rx_aw_s 2 (pc := 15) rfl ?_
  show rx_aw 56 17 [.ref 13, .int a0, .int a1, .ref (rx_ct j1)] [.int a1, .ref (rx_ct j1)] (rx_hp L t (rx_u hi (rx_ct j1) 5 a0) hl v) Q
  refine rx_w_callV (j := 57) (pc := 17) rfl rfl rfl rfl (rx_mayc rfl rfl rfl rfl (rx_ck (rx_cart_s hj1).1) (rx_ct_pos _)) ?_
  refine rx_aw.mono k (fun r h2 k => ?_)
  obtain ⟨rfl, hi2, hl2, v2, rfl, k⟩ := k
  refine ⟨rfl, ?_⟩
  show rx_aw 56 20 [.ref 13, .int a0, .int a1, .ref (rx_ct j1)] [] (rx_hp L t hi2 hl2 v2) Q
  refine rx_aw_s 7 (pc := 20) rfl ?_
  show rx_aw 56 31 [.ref 13, .int a0, .int a1, .ref (rx_ct j1)] [.ref 13] (rx_hp L t (rx_u hi2 13 3 ((hi2 13 3) + 1)) hl2 v2) Q
  refine rx_w_callV (j := 41) (pc := 31) rfl rfl rfl rfl rfl ?_
  refine rx_aw.mono k (fun r h2 k => ?_)
  obtain ⟨rfl, hi3, hl3, v3, rfl, k⟩ := k
  refine ⟨rfl, ?_⟩
  show rx_aw 56 34 [.ref 13, .int a0, .int a1, .ref (rx_ct j1)] [] (rx_hp L t hi3 hl3 v3) Q
  refine rx_aw_s 4 (pc := 34) rfl ?_
  show rx_aw 56 40 [.ref 13, .int a0, .int a1, .ref (rx_ct j1)] [.int ((hi3 13 3) - 1)] (rx_hp L t hi3 hl3 v3) Q
  exact rx_aw_ret (pc := 40) rfl k
/-- CartFloor$Cart.wake(I)V -/
theorem w57_wake {L : Nat} {t : List (Nat × Nat)} {hi : Nat → Nat → Int32} {hl : Nat → Nat → Int64} {v : Nat → Nat → Option Nat} {Q : Option Value → rx_H → Prop} {c : Nat} (hc : c < 6) {a0 : Int32} (k : Q none (rx_hp L t (rx_u (rx_u (rx_u (rx_u (rx_u (rx_u hi (rx_ct c) 6 a0) (rx_ct c) 7 0) (rx_ct c) 8 (-1)) (rx_ct c) 9 (-1)) (rx_ct c) 10 0) (rx_ct c) 11 0) hl v)) : rx_me 57 [.ref (rx_ct c), .int a0] (rx_hp L t hi hl v) Q := by
  show rx_aw 57 0 [.ref (rx_ct c), .int a0] [] (rx_hp L t hi hl v) Q
  refine rx_aw_s 2 (pc := 0) rfl ?_
  show rx_aw 57 2 [.ref (rx_ct c), .int a0] [.int a0, .ref (rx_ct c)] (rx_hp L t hi hl v) Q
  refine rx_w_cp hc (pc := 2) rfl rfl (by decide) ?_
  show rx_aw 57 5 [.ref (rx_ct c), .int a0] [] (rx_hp L t (rx_u hi (rx_ct c) 6 a0) hl v) Q
  refine rx_aw_s 2 (pc := 5) rfl ?_
  show rx_aw 57 7 [.ref (rx_ct c), .int a0] [.int 0, .ref (rx_ct c)] (rx_hp L t (rx_u hi (rx_ct c) 6 a0) hl v) Q
  refine rx_w_cp hc (pc := 7) rfl rfl (by decide) ?_
  show rx_aw 57 10 [.ref (rx_ct c), .int a0] [] (rx_hp L t (rx_u (rx_u hi (rx_ct c) 6 a0) (rx_ct c) 7 0) hl v) Q
  refine rx_aw_s 2 (pc := 10) rfl ?_
  show rx_aw 57 12 [.ref (rx_ct c), .int a0] [.int (-1), .ref (rx_ct c)] (rx_hp L t (rx_u (rx_u hi (rx_ct c) 6 a0) (rx_ct c) 7 0) hl v) Q
  refine rx_w_cp hc (pc := 12) rfl rfl (by decide) ?_
  show rx_aw 57 15 [.ref (rx_ct c), .int a0] [] (rx_hp L t (rx_u (rx_u (rx_u hi (rx_ct c) 6 a0) (rx_ct c) 7 0) (rx_ct c) 8 (-1)) hl v) Q
  refine rx_aw_s 2 (pc := 15) rfl ?_
  show rx_aw 57 17 [.ref (rx_ct c), .int a0] [.int (-1), .ref (rx_ct c)] (rx_hp L t (rx_u (rx_u (rx_u hi (rx_ct c) 6 a0) (rx_ct c) 7 0) (rx_ct c) 8 (-1)) hl v) Q
  refine rx_w_cp hc (pc := 17) rfl rfl (by decide) ?_
  show rx_aw 57 20 [.ref (rx_ct c), .int a0] [] (rx_hp L t (rx_u (rx_u (rx_u (rx_u hi (rx_ct c) 6 a0) (rx_ct c) 7 0) (rx_ct c) 8 (-1)) (rx_ct c) 9 (-1)) hl v) Q
  refine rx_aw_s 2 (pc := 20) rfl ?_
  show rx_aw 57 22 [.ref (rx_ct c), .int a0] [.int 0, .ref (rx_ct c)] (rx_hp L t (rx_u (rx_u (rx_u (rx_u hi (rx_ct c) 6 a0) (rx_ct c) 7 0) (rx_ct c) 8 (-1)) (rx_ct c) 9 (-1)) hl v) Q
  refine rx_w_cp hc (pc := 22) rfl rfl (by decide) ?_
  show rx_aw 57 25 [.ref (rx_ct c), .int a0] [] (rx_hp L t (rx_u (rx_u (rx_u (rx_u (rx_u hi (rx_ct c) 6 a0) (rx_ct c) 7 0) (rx_ct c) 8 (-1)) (rx_ct c) 9 (-1)) (rx_ct c) 10 0) hl v) Q
  refine rx_aw_s 2 (pc := 25) rfl ?_
  show rx_aw 57 27 [.ref (rx_ct c), .int a0] [.int 0, .ref (rx_ct c)] (rx_hp L t (rx_u (rx_u (rx_u (rx_u (rx_u hi (rx_ct c) 6 a0) (rx_ct c) 7 0) (rx_ct c) 8 (-1)) (rx_ct c) 9 (-1)) (rx_ct c) 10 0) hl v) Q
  refine rx_w_cz hc (pc := 27) rfl rfl (by decide) ⟨by decide, ?_⟩
  show rx_aw 57 30 [.ref (rx_ct c), .int a0] [] (rx_hp L t (rx_u (rx_u (rx_u (rx_u (rx_u (rx_u hi (rx_ct c) 6 a0) (rx_ct c) 7 0) (rx_ct c) 8 (-1)) (rx_ct c) 9 (-1)) (rx_ct c) 10 0) (rx_ct c) 11 0) hl v) Q
  exact rx_aw_ret (pc := 30) rfl k
/-- CartFloor.errand(IIII)I -/
theorem w58_errand {L : Nat} {t : List (Nat × Nat)} {hi : Nat → Nat → Int32} {hl : Nat → Nat → Int64} {v : Nat → Nat → Option Nat} {Q : Option Value → rx_H → Prop} {a0 : Int32} {a1 : Int32} {a2 : Int32} {a3 : Int32} (k : rx_me 59 [.ref 13, .int a0] (rx_hp L t hi hl v) (fun r h2 => ∃ z1 : Option Nat, r = some (va_rf z1) ∧ rx_ok2 L t h2 (fun hi1 hl1 v1 => (z1 = none ∧ rx_me 26 [.ref 7, .int a1, .int a2] (rx_hp L t hi1 hl1 v1) (fun r h2 => ∃ z2 : Int32, r = some (.int z2) ∧ rx_ok2 L t h2 (fun hi2 hl2 v2 => Q (some (.int (-2))) (rx_hp L t hi2 hl2 v2)))) ∨ (∃ q1 : Nat, q1 < 6 ∧ z1 = some (rx_ct q1) ∧ rx_me 26 [.ref 7, .int a1, .int a2] (rx_hp L t hi1 hl1 v1) (fun r h2 => ∃ z3 : Int32, r = some (.int z3) ∧ rx_ok2 L t h2 (fun hi3 hl3 v3 => (((hi3 (rx_ct q1) 5) = 3 → Q (some (.int (-2))) (rx_hp L t hi3 hl3 v3)) ∧ (¬ ((hi3 (rx_ct q1) 5) = 3) → ((0 ≤ (hi3 (rx_ct q1) 8) → Q (some (.int (-2))) (rx_hp L t hi3 hl3 v3)) ∧ (¬ (0 ≤ (hi3 (rx_ct q1) 8)) → (((hi3 (rx_ct q1) 10) = 0 → ((z3 < 0 → Q (some (.int (-2))) (rx_hp L t hi3 hl3 v3)) ∧ (¬ (z3 < 0) → rx_me 9 [.int z3] (rx_hp L t hi3 hl3 v3) (fun r h2 => ∃ z8 : Int64, r = some (.long z8) ∧ rx_ok2 L t h2 (fun hi8 hl8 v8 => (((lg_cmp ((hl3 7 10) &&& z8) 0) = 0 → ((a3 < (-1) → Q (some (.int (-2))) (rx_hp L t hi8 hl8 v8)) ∧ (¬ (a3 < (-1)) → ((a3 < (hi8 13 4) → ((a3 < 0 → Q (some (.int 1)) (rx_hp L t (rx_u (rx_u hi8 (rx_ct q1) 8 z3) (rx_ct q1) 9 a3) hl8 v8)) ∧ (¬ (a3 < 0) → rx_me 60 [.ref 1, .ref (rx_ct q1), .int z3, .int a3] (rx_hp L t hi8 hl8 v8) (fun r h2 => ∃ z13 : Int32, r = some (.int z13) ∧ rx_ok2 L t h2 (fun hi13 hl13 v13 => ((z13 = 0 → Q (some (.int (-2))) (rx_hp L t hi13 hl13 v13)) ∧ (¬ (z13 = 0) → Q (some (.int 1)) (rx_hp L t (rx_u (rx_u hi13 (rx_ct q1) 8 z3) (rx_ct q1) 9 a3) hl13 v13)))))))) ∧ (¬ (a3 < (hi8 13 4)) → Q (some (.int (-2))) (rx_hp L t hi8 hl8 v8)))))) ∧ (¬ ((lg_cmp ((hl3 7 10) &&& z8) 0) = 0) → Q (some (.int (-2))) (rx_hp L t hi8 hl8 v8)))))))) ∧ (¬ ((hi3 (rx_ct q1) 10) = 0) → Q (some (.int (-2))) (rx_hp L t hi3 hl3 v3))))))))))))) : rx_me 58 [.ref 1, .int a0, .int a1, .int a2, .int a3] (rx_hp L t hi hl v) Q := by
  show rx_aw 58 0 [.ref 1, .int a0, .int a1, .int a2, .int a3, rx_no, rx_no] [] (rx_hp L t hi hl v) Q
  refine rx_aw_s 3 (pc := 0) rfl ?_
  show rx_aw 58 5 [.ref 1, .int a0, .int a1, .int a2, .int a3, rx_no, rx_no] [.int a0, .ref 13] (rx_hp L t hi hl v) Q
  refine rx_w_callR (j := 59) (pc := 5) rfl rfl rfl rfl rfl ?_
  refine rx_aw.mono k (fun r h2 k => ?_)
  obtain ⟨z1, rfl, hi1, hl1, v1, rfl, k⟩ := k
  refine ⟨z1, rfl, ?_⟩
  rcases k with ⟨rfl, k⟩ | ⟨q1, hq1, rfl, k⟩
  · show rx_aw 58 8 [.ref 1, .int a0, .int a1, .int a2, .int a3, rx_no, rx_no] [.null] (rx_hp L t hi1 hl1 v1) Q
    refine rx_aw_s 5 (pc := 8) rfl ?_
    show rx_aw 58 16 [.ref 1, .int a0, .int a1, .int a2, .int a3, .null, rx_no] [.int a2, .int a1, .ref 7] (rx_hp L t hi1 hl1 v1) Q
    refine rx_w_callI (j := 26) (pc := 16) rfl rfl rfl rfl rfl ?_
    refine rx_aw.mono k (fun r h2 k => ?_)
    obtain ⟨z2, rfl, hi2, hl2, v2, rfl, k⟩ := k
    refine ⟨z2, rfl, ?_⟩
    show rx_aw 58 19 [.ref 1, .int a0, .int a1, .int a2, .int a3, .null, rx_no] [.int z2] (rx_hp L t hi2 hl2 v2) Q
    refine rx_aw_s 4 (pc := 19) rfl ?_
    show rx_aw 58 53 [.ref 1, .int a0, .int a1, .int a2, .int a3, .null, .int z2] [.int (-2)] (rx_hp L t hi2 hl2 v2) Q
    exact rx_aw_ret (pc := 53) rfl k
  · show rx_aw 58 8 [.ref 1, .int a0, .int a1, .int a2, .int a3, rx_no, rx_no] [.ref (rx_ct q1)] (rx_hp L t hi1 hl1 v1) Q
    refine rx_aw_s 5 (pc := 8) rfl ?_
    show rx_aw 58 16 [.ref 1, .int a0, .int a1, .int a2, .int a3, .ref (rx_ct q1), rx_no] [.int a2, .int a1, .ref 7] (rx_hp L t hi1 hl1 v1) Q
    refine rx_w_callI (j := 26) (pc := 16) rfl rfl rfl rfl rfl ?_
    refine rx_aw.mono k (fun r h2 k => ?_)
    obtain ⟨z3, rfl, hi3, hl3, v3, rfl, k⟩ := k
    refine ⟨z3, rfl, ?_⟩
    show rx_aw 58 19 [.ref 1, .int a0, .int a1, .int a2, .int a3, .ref (rx_ct q1), rx_no] [.int z3] (rx_hp L t hi3 hl3 v3) Q
    refine rx_aw_s 4 (pc := 19) rfl ?_
    show rx_aw 58 28 [.ref 1, .int a0, .int a1, .int a2, .int a3, .ref (rx_ct q1), .int z3] [.ref (rx_ct q1)] (rx_hp L t hi3 hl3 v3) Q
    refine rx_w_cg hq1 (pc := 28) rfl (by decide) (by decide) ?_
    show rx_aw 58 31 [.ref 1, .int a0, .int a1, .int a2, .int a3, .ref (rx_ct q1), .int z3] [.int (hi3 (rx_ct q1) 5)] (rx_hp L t hi3 hl3 v3) Q
    refine rx_aw_s 2 (pc := 31) rfl ?_
    refine rx_w_if (c := (hi3 (rx_ct q1) 5) = 3) ⟨fun c4 => ?_, fun c4 => ?_⟩
    · have k := k.1 c4
      show rx_aw 58 51 [.ref 1, .int a0, .int a1, .int a2, .int a3, .ref (rx_ct q1), .int z3] [] (rx_hp L t hi3 hl3 v3) Q
      refine rx_aw_s 1 (pc := 51) rfl ?_
      show rx_aw 58 53 [.ref 1, .int a0, .int a1, .int a2, .int a3, .ref (rx_ct q1), .int z3] [.int (-2)] (rx_hp L t hi3 hl3 v3) Q
      exact rx_aw_ret (pc := 53) rfl k
    · have k := k.2 c4
      show rx_aw 58 35 [.ref 1, .int a0, .int a1, .int a2, .int a3, .ref (rx_ct q1), .int z3] [] (rx_hp L t hi3 hl3 v3) Q
      refine rx_aw_s 1 (pc := 35) rfl ?_
      show rx_aw 58 37 [.ref 1, .int a0, .int a1, .int a2, .int a3, .ref (rx_ct q1), .int z3] [.ref (rx_ct q1)] (rx_hp L t hi3 hl3 v3) Q
      refine rx_w_cg hq1 (pc := 37) rfl (by decide) (by decide) ?_
      show rx_aw 58 40 [.ref 1, .int a0, .int a1, .int a2, .int a3, .ref (rx_ct q1), .int z3] [.int (hi3 (rx_ct q1) 8)] (rx_hp L t hi3 hl3 v3) Q
      refine rx_aw_s 1 (pc := 40) rfl ?_
      refine rx_w_if (c := 0 ≤ (hi3 (rx_ct q1) 8)) ⟨fun c5 => ?_, fun c5 => ?_⟩
      · have k := k.1 c5
        show rx_aw 58 51 [.ref 1, .int a0, .int a1, .int a2, .int a3, .ref (rx_ct q1), .int z3] [] (rx_hp L t hi3 hl3 v3) Q
        refine rx_aw_s 1 (pc := 51) rfl ?_
        show rx_aw 58 53 [.ref 1, .int a0, .int a1, .int a2, .int a3, .ref (rx_ct q1), .int z3] [.int (-2)] (rx_hp L t hi3 hl3 v3) Q
        exact rx_aw_ret (pc := 53) rfl k
      · have k := k.2 c5
        show rx_aw 58 43 [.ref 1, .int a0, .int a1, .int a2, .int a3, .ref (rx_ct q1), .int z3] [] (rx_hp L t hi3 hl3 v3) Q
        refine rx_aw_s 1 (pc := 43) rfl ?_
        show rx_aw 58 45 [.ref 1, .int a0, .int a1, .int a2, .int a3, .ref (rx_ct q1), .int z3] [.ref (rx_ct q1)] (rx_hp L t hi3 hl3 v3) Q
        refine rx_w_cg hq1 (pc := 45) rfl (by decide) (by decide) ?_
        show rx_aw 58 48 [.ref 1, .int a0, .int a1, .int a2, .int a3, .ref (rx_ct q1), .int z3] [.int (hi3 (rx_ct q1) 10)] (rx_hp L t hi3 hl3 v3) Q
        refine rx_aw_s 1 (pc := 48) rfl ?_
        refine rx_w_if (c := (hi3 (rx_ct q1) 10) = 0) ⟨fun c6 => ?_, fun c6 => ?_⟩
        · have k := k.1 c6
          show rx_aw 58 54 [.ref 1, .int a0, .int a1, .int a2, .int a3, .ref (rx_ct q1), .int z3] [] (rx_hp L t hi3 hl3 v3) Q
          refine rx_aw_s 2 (pc := 54) rfl ?_
          refine rx_w_if (c := z3 < 0) ⟨fun c7 => ?_, fun c7 => ?_⟩
          · have k := k.1 c7
            show rx_aw 58 95 [.ref 1, .int a0, .int a1, .int a2, .int a3, .ref (rx_ct q1), .int z3] [] (rx_hp L t hi3 hl3 v3) Q
            refine rx_aw_s 1 (pc := 95) rfl ?_
            show rx_aw 58 97 [.ref 1, .int a0, .int a1, .int a2, .int a3, .ref (rx_ct q1), .int z3] [.int (-2)] (rx_hp L t hi3 hl3 v3) Q
            exact rx_aw_ret (pc := 97) rfl k
          · have k := k.2 c7
            show rx_aw 58 59 [.ref 1, .int a0, .int a1, .int a2, .int a3, .ref (rx_ct q1), .int z3] [] (rx_hp L t hi3 hl3 v3) Q
            refine rx_aw_s 4 (pc := 59) rfl ?_
            show rx_aw 58 68 [.ref 1, .int a0, .int a1, .int a2, .int a3, .ref (rx_ct q1), .int z3] [.int z3, .long (hl3 7 10)] (rx_hp L t hi3 hl3 v3) Q
            refine rx_w_callL (j := 9) (pc := 68) rfl rfl rfl rfl rfl ?_
            refine rx_aw.mono k (fun r h2 k => ?_)
            obtain ⟨z8, rfl, hi8, hl8, v8, rfl, k⟩ := k
            refine ⟨z8, rfl, ?_⟩
            show rx_aw 58 71 [.ref 1, .int a0, .int a1, .int a2, .int a3, .ref (rx_ct q1), .int z3] [.long z8, .long (hl3 7 10)] (rx_hp L t hi8 hl8 v8) Q
            refine rx_aw_s 4 (pc := 71) rfl ?_
            refine rx_w_ifn (c := (lg_cmp ((hl3 7 10) &&& z8) 0) = 0) ⟨fun c9 => ?_, fun c9 => ?_⟩
            · have k := k.1 c9
              show rx_aw 58 77 [.ref 1, .int a0, .int a1, .int a2, .int a3, .ref (rx_ct q1), .int z3] [] (rx_hp L t hi8 hl8 v8) Q
              refine rx_aw_s 3 (pc := 77) rfl ?_
              refine rx_w_if (c := a3 < (-1)) ⟨fun c10 => ?_, fun c10 => ?_⟩
              · have k := k.1 c10
                show rx_aw 58 95 [.ref 1, .int a0, .int a1, .int a2, .int a3, .ref (rx_ct q1), .int z3] [] (rx_hp L t hi8 hl8 v8) Q
                refine rx_aw_s 1 (pc := 95) rfl ?_
                show rx_aw 58 97 [.ref 1, .int a0, .int a1, .int a2, .int a3, .ref (rx_ct q1), .int z3] [.int (-2)] (rx_hp L t hi8 hl8 v8) Q
                exact rx_aw_ret (pc := 97) rfl k
              · have k := k.2 c10
                show rx_aw 58 83 [.ref 1, .int a0, .int a1, .int a2, .int a3, .ref (rx_ct q1), .int z3] [] (rx_hp L t hi8 hl8 v8) Q
                refine rx_aw_s 5 (pc := 83) rfl ?_
                refine rx_w_if (c := a3 < (hi8 13 4)) ⟨fun c11 => ?_, fun c11 => ?_⟩
                · have k := k.1 c11
                  show rx_aw 58 98 [.ref 1, .int a0, .int a1, .int a2, .int a3, .ref (rx_ct q1), .int z3] [] (rx_hp L t hi8 hl8 v8) Q
                  refine rx_aw_s 2 (pc := 98) rfl ?_
                  refine rx_w_if (c := a3 < 0) ⟨fun c12 => ?_, fun c12 => ?_⟩
                  · have k := k.1 c12
                    show rx_aw 58 119 [.ref 1, .int a0, .int a1, .int a2, .int a3, .ref (rx_ct q1), .int z3] [] (rx_hp L t hi8 hl8 v8) Q
                    refine rx_aw_s 2 (pc := 119) rfl ?_
                    show rx_aw 58 123 [.ref 1, .int a0, .int a1, .int a2, .int a3, .ref (rx_ct q1), .int z3] [.int z3, .ref (rx_ct q1)] (rx_hp L t hi8 hl8 v8) Q
                    refine rx_w_cp hq1 (pc := 123) rfl rfl (by decide) ?_
                    show rx_aw 58 126 [.ref 1, .int a0, .int a1, .int a2, .int a3, .ref (rx_ct q1), .int z3] [] (rx_hp L t (rx_u hi8 (rx_ct q1) 8 z3) hl8 v8) Q
                    refine rx_aw_s 2 (pc := 126) rfl ?_
                    show rx_aw 58 130 [.ref 1, .int a0, .int a1, .int a2, .int a3, .ref (rx_ct q1), .int z3] [.int a3, .ref (rx_ct q1)] (rx_hp L t (rx_u hi8 (rx_ct q1) 8 z3) hl8 v8) Q
                    refine rx_w_cp hq1 (pc := 130) rfl rfl (by decide) ?_
                    show rx_aw 58 133 [.ref 1, .int a0, .int a1, .int a2, .int a3, .ref (rx_ct q1), .int z3] [] (rx_hp L t (rx_u (rx_u hi8 (rx_ct q1) 8 z3) (rx_ct q1) 9 a3) hl8 v8) Q
                    refine rx_aw_s 1 (pc := 133) rfl ?_
                    show rx_aw 58 134 [.ref 1, .int a0, .int a1, .int a2, .int a3, .ref (rx_ct q1), .int z3] [.int 1] (rx_hp L t (rx_u (rx_u hi8 (rx_ct q1) 8 z3) (rx_ct q1) 9 a3) hl8 v8) Q
                    exact rx_aw_ret (pc := 134) rfl k
                  · have k := k.2 c12
                    show rx_aw 58 103 [.ref 1, .int a0, .int a1, .int a2, .int a3, .ref (rx_ct q1), .int z3] [] (rx_hp L t hi8 hl8 v8) Q
                    refine rx_aw_s 4 (pc := 103) rfl ?_
                    show rx_aw 58 110 [.ref 1, .int a0, .int a1, .int a2, .int a3, .ref (rx_ct q1), .int z3] [.int a3, .int z3, .ref (rx_ct q1), .ref 1] (rx_hp L t hi8 hl8 v8) Q
                    refine rx_w_callI (j := 60) (pc := 110) rfl rfl rfl rfl rfl ?_
                    refine rx_aw.mono k (fun r h2 k => ?_)
                    obtain ⟨z13, rfl, hi13, hl13, v13, rfl, k⟩ := k
                    refine ⟨z13, rfl, ?_⟩
                    show rx_aw 58 113 [.ref 1, .int a0, .int a1, .int a2, .int a3, .ref (rx_ct q1), .int z3] [.int z13] (rx_hp L t hi13 hl13 v13) Q
                    refine rx_aw_s 1 (pc := 113) rfl ?_
                    refine rx_w_ifn (c := z13 = 0) ⟨fun c14 => ?_, fun c14 => ?_⟩
                    · have k := k.1 c14
                      show rx_aw 58 116 [.ref 1, .int a0, .int a1, .int a2, .int a3, .ref (rx_ct q1), .int z3] [] (rx_hp L t hi13 hl13 v13) Q
                      refine rx_aw_s 1 (pc := 116) rfl ?_
                      show rx_aw 58 118 [.ref 1, .int a0, .int a1, .int a2, .int a3, .ref (rx_ct q1), .int z3] [.int (-2)] (rx_hp L t hi13 hl13 v13) Q
                      exact rx_aw_ret (pc := 118) rfl k
                    · have k := k.2 c14
                      show rx_aw 58 119 [.ref 1, .int a0, .int a1, .int a2, .int a3, .ref (rx_ct q1), .int z3] [] (rx_hp L t hi13 hl13 v13) Q
                      refine rx_aw_s 2 (pc := 119) rfl ?_
                      show rx_aw 58 123 [.ref 1, .int a0, .int a1, .int a2, .int a3, .ref (rx_ct q1), .int z3] [.int z3, .ref (rx_ct q1)] (rx_hp L t hi13 hl13 v13) Q
                      refine rx_w_cp hq1 (pc := 123) rfl rfl (by decide) ?_
                      show rx_aw 58 126 [.ref 1, .int a0, .int a1, .int a2, .int a3, .ref (rx_ct q1), .int z3] [] (rx_hp L t (rx_u hi13 (rx_ct q1) 8 z3) hl13 v13) Q
                      refine rx_aw_s 2 (pc := 126) rfl ?_
                      show rx_aw 58 130 [.ref 1, .int a0, .int a1, .int a2, .int a3, .ref (rx_ct q1), .int z3] [.int a3, .ref (rx_ct q1)] (rx_hp L t (rx_u hi13 (rx_ct q1) 8 z3) hl13 v13) Q
                      refine rx_w_cp hq1 (pc := 130) rfl rfl (by decide) ?_
                      show rx_aw 58 133 [.ref 1, .int a0, .int a1, .int a2, .int a3, .ref (rx_ct q1), .int z3] [] (rx_hp L t (rx_u (rx_u hi13 (rx_ct q1) 8 z3) (rx_ct q1) 9 a3) hl13 v13) Q
                      refine rx_aw_s 1 (pc := 133) rfl ?_
                      show rx_aw 58 134 [.ref 1, .int a0, .int a1, .int a2, .int a3, .ref (rx_ct q1), .int z3] [.int 1] (rx_hp L t (rx_u (rx_u hi13 (rx_ct q1) 8 z3) (rx_ct q1) 9 a3) hl13 v13) Q
                      exact rx_aw_ret (pc := 134) rfl k
                · have k := k.2 c11
                  show rx_aw 58 95 [.ref 1, .int a0, .int a1, .int a2, .int a3, .ref (rx_ct q1), .int z3] [] (rx_hp L t hi8 hl8 v8) Q
                  refine rx_aw_s 1 (pc := 95) rfl ?_
                  show rx_aw 58 97 [.ref 1, .int a0, .int a1, .int a2, .int a3, .ref (rx_ct q1), .int z3] [.int (-2)] (rx_hp L t hi8 hl8 v8) Q
                  exact rx_aw_ret (pc := 97) rfl k
            · have k := k.2 c9
              show rx_aw 58 95 [.ref 1, .int a0, .int a1, .int a2, .int a3, .ref (rx_ct q1), .int z3] [] (rx_hp L t hi8 hl8 v8) Q
              refine rx_aw_s 1 (pc := 95) rfl ?_
              show rx_aw 58 97 [.ref 1, .int a0, .int a1, .int a2, .int a3, .ref (rx_ct q1), .int z3] [.int (-2)] (rx_hp L t hi8 hl8 v8) Q
              exact rx_aw_ret (pc := 97) rfl k
        · have k := k.2 c6
          show rx_aw 58 51 [.ref 1, .int a0, .int a1, .int a2, .int a3, .ref (rx_ct q1), .int z3] [] (rx_hp L t hi3 hl3 v3) Q
          refine rx_aw_s 1 (pc := 51) rfl ?_
          show rx_aw 58 53 [.ref 1, .int a0, .int a1, .int a2, .int a3, .ref (rx_ct q1), .int z3] [.int (-2)] (rx_hp L t hi3 hl3 v3) Q
          exact rx_aw_ret (pc := 53) rfl k
/-- CartFloor$Traffic.cartOf(I)LCartFloor$Cart; -/
theorem w59_cartOf {L : Nat} {t : List (Nat × Nat)} {hi : Nat → Nat → Int32} {hl : Nat → Nat → Int64} {v : Nat → Nat → Option Nat} {Q : Option Value → rx_H → Prop} {a0 : Int32} (k : ((a0 < 0 → Q (some (.null)) (rx_hp L t hi hl v)) ∧ (¬ (a0 < 0) → ((a0 < (hi 13 3) → (∃ j3 : Nat, a0 = nI j3 ∧ j3 < 6 ∧ Q (some (.ref (rx_ct j3))) (rx_hp L t hi hl v))) ∧ (¬ (a0 < (hi 13 3)) → Q (some (.null)) (rx_hp L t hi hl v)))))) : rx_me 59 [.ref 13, .int a0] (rx_hp L t hi hl v) Q := by
  show rx_aw 59 0 [.ref 13, .int a0] [] (rx_hp L t hi hl v) Q
  refine rx_aw_s 2 (pc := 0) rfl ?_
  refine rx_w_if (c := a0 < 0) ⟨fun c1 => ?_, fun c1 => ?_⟩
  · have k := k.1 c1
    show rx_aw 59 12 [.ref 13, .int a0] [] (rx_hp L t hi hl v) Q
    refine rx_aw_s 2 (pc := 12) rfl ?_
    show rx_aw 59 22 [.ref 13, .int a0] [.null] (rx_hp L t hi hl v) Q
    exact rx_aw_ret (pc := 22) rfl k
  · have k := k.2 c1
    show rx_aw 59 4 [.ref 13, .int a0] [] (rx_hp L t hi hl v) Q
    refine rx_aw_s 4 (pc := 4) rfl ?_
    refine rx_w_if (c := a0 < (hi 13 3)) ⟨fun c2 => ?_, fun c2 => ?_⟩
    · have k := k.1 c2
      show rx_aw 59 16 [.ref 13, .int a0] [] (rx_hp L t hi hl v) Q
      refine rx_aw_s 3 (pc := 16) rfl ?_
      show rx_aw 59 21 [.ref 13, .int a0] [.int a0, .ref 14] (rx_hp L t hi hl v) Q
      obtain ⟨j3, ej3, hj3, k⟩ := k
      refine rx_w_carts (pc := 21) rfl ⟨j3, ej3, hj3, ?_⟩
      show rx_aw 59 22 [.ref 13, .int a0] [.ref (rx_ct j3)] (rx_hp L t hi hl v) Q
      exact rx_aw_ret (pc := 22) rfl k
    · have k := k.2 c2
      show rx_aw 59 12 [.ref 13, .int a0] [] (rx_hp L t hi hl v) Q
      refine rx_aw_s 2 (pc := 12) rfl ?_
      show rx_aw 59 22 [.ref 13, .int a0] [.null] (rx_hp L t hi hl v) Q
      exact rx_aw_ret (pc := 22) rfl k
/-- CartFloor.mayBring(LCartFloor$Cart;II)Z -/
theorem w60_mayBring {L : Nat} {t : List (Nat × Nat)} {hi : Nat → Nat → Int32} {hl : Nat → Nat → Int64} {v : Nat → Nat → Option Nat} {Q : Option Value → rx_H → Prop} {c0 : Nat} (hc0 : c0 < 6) {a1 : Int32} {a2 : Int32} (k : (((hi (rx_ct c0) 5) = 1 → (∃ j2 : Nat, a1 = nI j2 ∧ j2 < 64 ∧ (((hi 8 j2) = 2 → rx_me 48 [.int (hi (rx_ct c0) 6)] (rx_hp L t hi hl v) (fun r h2 => ∃ z4 : Int32, r = some (.int z4) ∧ rx_ok2 L t h2 (fun hi4 hl4 v4 => ((z4 < 0 → rx_aw 60 48 [.ref 1, .ref (rx_ct c0), .int a1, .int a2, .int z4, .int 0, rx_no] [] (rx_hp L t hi4 hl4 v4) Q) ∧ (¬ (z4 < 0) → ((z4 = a2 → rx_aw 60 48 [.ref 1, .ref (rx_ct c0), .int a1, .int a2, .int z4, .int 0, rx_no] [] (rx_hp L t hi4 hl4 v4) Q) ∧ (¬ (z4 = a2) → Q (some (.int 0)) (rx_hp L t hi4 hl4 v4)))))))) ∧ (¬ ((hi 8 j2) = 2) → Q (some (.int 0)) (rx_hp L t hi hl v))))) ∧ (¬ ((hi (rx_ct c0) 5) = 1) → Q (some (.int 0)) (rx_hp L t hi hl v)))) : rx_me 60 [.ref 1, .ref (rx_ct c0), .int a1, .int a2] (rx_hp L t hi hl v) Q := by
  show rx_aw 60 0 [.ref 1, .ref (rx_ct c0), .int a1, .int a2, rx_no, rx_no, rx_no] [] (rx_hp L t hi hl v) Q
  refine rx_aw_s 1 (pc := 0) rfl ?_
  show rx_aw 60 1 [.ref 1, .ref (rx_ct c0), .int a1, .int a2, rx_no, rx_no, rx_no] [.ref (rx_ct c0)] (rx_hp L t hi hl v) Q
  refine rx_w_cg hc0 (pc := 1) rfl (by decide) (by decide) ?_
  show rx_aw 60 4 [.ref 1, .ref (rx_ct c0), .int a1, .int a2, rx_no, rx_no, rx_no] [.int (hi (rx_ct c0) 5)] (rx_hp L t hi hl v) Q
  refine rx_aw_s 2 (pc := 4) rfl ?_
  refine rx_w_ifn (c := (hi (rx_ct c0) 5) = 1) ⟨fun c1 => ?_, fun c1 => ?_⟩
  · have k := k.1 c1
    show rx_aw 60 8 [.ref 1, .ref (rx_ct c0), .int a1, .int a2, rx_no, rx_no, rx_no] [] (rx_hp L t hi hl v) Q
    refine rx_aw_s 4 (pc := 8) rfl ?_
    show rx_aw 60 16 [.ref 1, .ref (rx_ct c0), .int a1, .int a2, rx_no, rx_no, rx_no] [.int a1, .ref 8] (rx_hp L t hi hl v) Q
    obtain ⟨j2, ej2, hj2, k⟩ := k
    refine rx_aw_iald (pc := 16) (n := 64) j2 ej2 rfl rfl rfl hj2 (by decide) ?_
    show rx_aw 60 17 [.ref 1, .ref (rx_ct c0), .int a1, .int a2, rx_no, rx_no, rx_no] [.int (hi 8 j2)] (rx_hp L t hi hl v) Q
    refine rx_aw_s 2 (pc := 17) rfl ?_
    refine rx_w_if (c := (hi 8 j2) = 2) ⟨fun c3 => ?_, fun c3 => ?_⟩
    · have k := k.1 c3
      show rx_aw 60 23 [.ref 1, .ref (rx_ct c0), .int a1, .int a2, rx_no, rx_no, rx_no] [] (rx_hp L t hi hl v) Q
      refine rx_aw_s 1 (pc := 23) rfl ?_
      show rx_aw 60 24 [.ref 1, .ref (rx_ct c0), .int a1, .int a2, rx_no, rx_no, rx_no] [.ref (rx_ct c0)] (rx_hp L t hi hl v) Q
      refine rx_w_cg hc0 (pc := 24) rfl (by decide) (by decide) ?_
      show rx_aw 60 27 [.ref 1, .ref (rx_ct c0), .int a1, .int a2, rx_no, rx_no, rx_no] [.int (hi (rx_ct c0) 6)] (rx_hp L t hi hl v) Q
      refine rx_w_callI (j := 48) (pc := 27) rfl rfl rfl rfl rfl ?_
      refine rx_aw.mono k (fun r h2 k => ?_)
      obtain ⟨z4, rfl, hi4, hl4, v4, rfl, k⟩ := k
      refine ⟨z4, rfl, ?_⟩
      show rx_aw 60 30 [.ref 1, .ref (rx_ct c0), .int a1, .int a2, rx_no, rx_no, rx_no] [.int z4] (rx_hp L t hi4 hl4 v4) Q
      refine rx_aw_s 3 (pc := 30) rfl ?_
      refine rx_w_if (c := z4 < 0) ⟨fun c5 => ?_, fun c5 => ?_⟩
      · have k := k.1 c5
        show rx_aw 60 45 [.ref 1, .ref (rx_ct c0), .int a1, .int a2, .int z4, rx_no, rx_no] [] (rx_hp L t hi4 hl4 v4) Q
        refine rx_aw_s 2 (pc := 45) rfl ?_
        show rx_aw 60 48 [.ref 1, .ref (rx_ct c0), .int a1, .int a2, .int z4, .int 0, rx_no] [] (rx_hp L t hi4 hl4 v4) Q
        exact k
      · have k := k.2 c5
        show rx_aw 60 37 [.ref 1, .ref (rx_ct c0), .int a1, .int a2, .int z4, rx_no, rx_no] [] (rx_hp L t hi4 hl4 v4) Q
        refine rx_aw_s 3 (pc := 37) rfl ?_
        refine rx_w_if (c := z4 = a2) ⟨fun c6 => ?_, fun c6 => ?_⟩
        · have k := k.1 c6
          show rx_aw 60 45 [.ref 1, .ref (rx_ct c0), .int a1, .int a2, .int z4, rx_no, rx_no] [] (rx_hp L t hi4 hl4 v4) Q
          refine rx_aw_s 2 (pc := 45) rfl ?_
          show rx_aw 60 48 [.ref 1, .ref (rx_ct c0), .int a1, .int a2, .int z4, .int 0, rx_no] [] (rx_hp L t hi4 hl4 v4) Q
          exact k
        · have k := k.2 c6
          show rx_aw 60 43 [.ref 1, .ref (rx_ct c0), .int a1, .int a2, .int z4, rx_no, rx_no] [] (rx_hp L t hi4 hl4 v4) Q
          refine rx_aw_s 1 (pc := 43) rfl ?_
          show rx_aw 60 44 [.ref 1, .ref (rx_ct c0), .int a1, .int a2, .int z4, rx_no, rx_no] [.int 0] (rx_hp L t hi4 hl4 v4) Q
          exact rx_aw_ret (pc := 44) rfl k
    · have k := k.2 c3
      show rx_aw 60 21 [.ref 1, .ref (rx_ct c0), .int a1, .int a2, rx_no, rx_no, rx_no] [] (rx_hp L t hi hl v) Q
      refine rx_aw_s 1 (pc := 21) rfl ?_
      show rx_aw 60 22 [.ref 1, .ref (rx_ct c0), .int a1, .int a2, rx_no, rx_no, rx_no] [.int 0] (rx_hp L t hi hl v) Q
      exact rx_aw_ret (pc := 22) rfl k
  · have k := k.2 c1
    show rx_aw 60 21 [.ref 1, .ref (rx_ct c0), .int a1, .int a2, rx_no, rx_no, rx_no] [] (rx_hp L t hi hl v) Q
    refine rx_aw_s 1 (pc := 21) rfl ?_
    show rx_aw 60 22 [.ref 1, .ref (rx_ct c0), .int a1, .int a2, rx_no, rx_no, rx_no] [.int 0] (rx_hp L t hi hl v) Q
    exact rx_aw_ret (pc := 22) rfl k
theorem w60_mayBring_48 {L : Nat} {t : List (Nat × Nat)} {hi : Nat → Nat → Int32} {hl : Nat → Nat → Int64} {v : Nat → Nat → Option Nat} {Q : Option Value → rx_H → Prop} {c0 : Nat} (hc0 : c0 < 6) {x2 : Int32} {x3 : Int32} {x4 : Int32} {x5 : Int32} (k : (((hi 13 3) ≤ x5 → Q (some (.int 1)) (rx_hp L t hi hl v)) ∧ (¬ ((hi 13 3) ≤ x5) → (∃ j8 : Nat, x5 = nI j8 ∧ j8 < 6 ∧ (((some (rx_ct j8) : Option Nat) = (some (rx_ct c0) : Option Nat) → rx_aw 60 48 [.ref 1, .ref (rx_ct c0), .int x2, .int x3, .int x4, .int (x5 + 1), rx_no] [] (rx_hp L t hi hl v) Q) ∧ (¬ ((some (rx_ct j8) : Option Nat) = (some (rx_ct c0) : Option Nat)) → (((hi (rx_ct j8) 9) = x3 → Q (some (.int 0)) (rx_hp L t hi hl v)) ∧ (¬ ((hi (rx_ct j8) 9) = x3) → rx_me 48 [.int (hi (rx_ct j8) 6)] (rx_hp L t hi hl v) (fun r h2 => ∃ z11 : Int32, r = some (.int z11) ∧ rx_ok2 L t h2 (fun hi11 hl11 v11 => ((z11 = x3 → Q (some (.int 0)) (rx_hp L t hi11 hl11 v11)) ∧ (¬ (z11 = x3) → rx_aw 60 48 [.ref 1, .ref (rx_ct c0), .int x2, .int x3, .int x4, .int (x5 + 1), rx_no] [] (rx_hp L t hi11 hl11 v11) Q)))))))))))) : rx_aw 60 48 [.ref 1, .ref (rx_ct c0), .int x2, .int x3, .int x4, .int x5, rx_no] [] (rx_hp L t hi hl v) Q := by
  refine rx_aw_s 5 (pc := 48) rfl ?_
  refine rx_w_if (c := (hi 13 3) ≤ x5) ⟨fun c7 => ?_, fun c7 => ?_⟩
  · have k := k.1 c7
    show rx_aw 60 107 [.ref 1, .ref (rx_ct c0), .int x2, .int x3, .int x4, .int x5, rx_no] [] (rx_hp L t hi hl v) Q
    refine rx_aw_s 1 (pc := 107) rfl ?_
    show rx_aw 60 108 [.ref 1, .ref (rx_ct c0), .int x2, .int x3, .int x4, .int x5, rx_no] [.int 1] (rx_hp L t hi hl v) Q
    exact rx_aw_ret (pc := 108) rfl k
  · have k := k.2 c7
    show rx_aw 60 60 [.ref 1, .ref (rx_ct c0), .int x2, .int x3, .int x4, .int x5, rx_no] [] (rx_hp L t hi hl v) Q
    refine rx_aw_s 4 (pc := 60) rfl ?_
    show rx_aw 60 69 [.ref 1, .ref (rx_ct c0), .int x2, .int x3, .int x4, .int x5, rx_no] [.int x5, .ref 14] (rx_hp L t hi hl v) Q
    obtain ⟨j8, ej8, hj8, k⟩ := k
    refine rx_w_carts (pc := 69) rfl ⟨j8, ej8, hj8, ?_⟩
    show rx_aw 60 70 [.ref 1, .ref (rx_ct c0), .int x2, .int x3, .int x4, .int x5, rx_no] [.ref (rx_ct j8)] (rx_hp L t hi hl v) Q
    refine rx_aw_s 4 (pc := 70) rfl ?_
    refine rx_w_if (c := (some (rx_ct j8) : Option Nat) = (some (rx_ct c0) : Option Nat)) ⟨fun c9 => ?_, fun c9 => ?_⟩
    · have k := k.1 c9
      show rx_aw 60 101 [.ref 1, .ref (rx_ct c0), .int x2, .int x3, .int x4, .int x5, .ref (rx_ct j8)] [] (rx_hp L t hi hl v) Q
      refine rx_aw_s 2 (pc := 101) rfl ?_
      show rx_aw 60 48 [.ref 1, .ref (rx_ct c0), .int x2, .int x3, .int x4, .int (x5 + 1), .ref (rx_ct j8)] [] (rx_hp L t hi hl v) Q
      exact rx_aw_le (ls := [.ref 1, .ref (rx_ct c0), .int x2, .int x3, .int x4, .int (x5 + 1), rx_no]) ⟨Or.inr rfl, ⟨Or.inr rfl, ⟨Or.inr rfl, ⟨Or.inr rfl, ⟨Or.inr rfl, ⟨Or.inr rfl, ⟨Or.inl rfl, trivial⟩⟩⟩⟩⟩⟩⟩ k
    · have k := k.2 c9
      show rx_aw 60 78 [.ref 1, .ref (rx_ct c0), .int x2, .int x3, .int x4, .int x5, .ref (rx_ct j8)] [] (rx_hp L t hi hl v) Q
      refine rx_aw_s 1 (pc := 78) rfl ?_
      show rx_aw 60 80 [.ref 1, .ref (rx_ct c0), .int x2, .int x3, .int x4, .int x5, .ref (rx_ct j8)] [.ref (rx_ct j8)] (rx_hp L t hi hl v) Q
      refine rx_w_cg hj8 (pc := 80) rfl (by decide) (by decide) ?_
      show rx_aw 60 83 [.ref 1, .ref (rx_ct c0), .int x2, .int x3, .int x4, .int x5, .ref (rx_ct j8)] [.int (hi (rx_ct j8) 9)] (rx_hp L t hi hl v) Q
      refine rx_aw_s 2 (pc := 83) rfl ?_
      refine rx_w_if (c := (hi (rx_ct j8) 9) = x3) ⟨fun c10 => ?_, fun c10 => ?_⟩
      · have k := k.1 c10
        show rx_aw 60 99 [.ref 1, .ref (rx_ct c0), .int x2, .int x3, .int x4, .int x5, .ref (rx_ct j8)] [] (rx_hp L t hi hl v) Q
        refine rx_aw_s 1 (pc := 99) rfl ?_
        show rx_aw 60 100 [.ref 1, .ref (rx_ct c0), .int x2, .int x3, .int x4, .int x5, .ref (rx_ct j8)] [.int 0] (rx_hp L t hi hl v) Q
        exact rx_aw_ret (pc := 100) rfl k
      · have k := k.2 c10
        show rx_aw 60 87 [.ref 1, .ref (rx_ct c0), .int x2, .int x3, .int x4, .int x5, .ref (rx_ct j8)] [] (rx_hp L t hi hl v) Q
        refine rx_aw_s 1 (pc := 87) rfl ?_
        show rx_aw 60 89 [.ref 1, .ref (rx_ct c0), .int x2, .int x3, .int x4, .int x5, .ref (rx_ct j8)] [.ref (rx_ct j8)] (rx_hp L t hi hl v) Q
        refine rx_w_cg hj8 (pc := 89) rfl (by decide) (by decide) ?_
        show rx_aw 60 92 [.ref 1, .ref (rx_ct c0), .int x2, .int x3, .int x4, .int x5, .ref (rx_ct j8)] [.int (hi (rx_ct j8) 6)] (rx_hp L t hi hl v) Q
        refine rx_w_callI (j := 48) (pc := 92) rfl rfl rfl rfl rfl ?_
        refine rx_aw.mono k (fun r h2 k => ?_)
        obtain ⟨z11, rfl, hi11, hl11, v11, rfl, k⟩ := k
        refine ⟨z11, rfl, ?_⟩
        show rx_aw 60 95 [.ref 1, .ref (rx_ct c0), .int x2, .int x3, .int x4, .int x5, .ref (rx_ct j8)] [.int z11] (rx_hp L t hi11 hl11 v11) Q
        refine rx_aw_s 2 (pc := 95) rfl ?_
        refine rx_w_ifn (c := z11 = x3) ⟨fun c12 => ?_, fun c12 => ?_⟩
        · have k := k.1 c12
          show rx_aw 60 99 [.ref 1, .ref (rx_ct c0), .int x2, .int x3, .int x4, .int x5, .ref (rx_ct j8)] [] (rx_hp L t hi11 hl11 v11) Q
          refine rx_aw_s 1 (pc := 99) rfl ?_
          show rx_aw 60 100 [.ref 1, .ref (rx_ct c0), .int x2, .int x3, .int x4, .int x5, .ref (rx_ct j8)] [.int 0] (rx_hp L t hi11 hl11 v11) Q
          exact rx_aw_ret (pc := 100) rfl k
        · have k := k.2 c12
          show rx_aw 60 101 [.ref 1, .ref (rx_ct c0), .int x2, .int x3, .int x4, .int x5, .ref (rx_ct j8)] [] (rx_hp L t hi11 hl11 v11) Q
          refine rx_aw_s 2 (pc := 101) rfl ?_
          show rx_aw 60 48 [.ref 1, .ref (rx_ct c0), .int x2, .int x3, .int x4, .int (x5 + 1), .ref (rx_ct j8)] [] (rx_hp L t hi11 hl11 v11) Q
          exact rx_aw_le (ls := [.ref 1, .ref (rx_ct c0), .int x2, .int x3, .int x4, .int (x5 + 1), rx_no]) ⟨Or.inr rfl, ⟨Or.inr rfl, ⟨Or.inr rfl, ⟨Or.inr rfl, ⟨Or.inr rfl, ⟨Or.inr rfl, ⟨Or.inl rfl, trivial⟩⟩⟩⟩⟩⟩⟩ k
/-- CartFloor.plan(I)I -/
theorem w61_plan {L : Nat} {t : List (Nat × Nat)} {hi : Nat → Nat → Int32} {hl : Nat → Nat → Int64} {v : Nat → Nat → Option Nat} {Q : Option Value → rx_H → Prop} {a0 : Int32} (k : rx_me 59 [.ref 13, .int a0] (rx_hp L t hi hl v) (fun r h2 => ∃ z1 : Option Nat, r = some (va_rf z1) ∧ rx_ok2 L t h2 (fun hi1 hl1 v1 => (z1 = none ∧ Q (some (.int (-2))) (rx_hp L t hi1 hl1 v1)) ∨ (∃ q1 : Nat, q1 < 6 ∧ z1 = some (rx_ct q1) ∧ rx_me 62 [.ref (rx_ct q1)] (rx_hp L t hi1 hl1 v1) (fun r h2 => ∃ z2 : Int32, r = some (.int z2) ∧ rx_ok2 L t h2 (fun hi2 hl2 v2 => ((z2 = 0 → Q (some (.int (-2))) (rx_hp L t hi2 hl2 v2)) ∧ (¬ (z2 = 0) → rx_me 63 [.ref 76, .ref (rx_ct q1), .int 0] (rx_hp L t hi2 hl2 v2) (fun r h2 => ∃ z4 : Int32, r = some (.int z4) ∧ rx_ok2 L t h2 (fun hi4 hl4 v4 => ((z4 = 0 → Q (some (.int (-1))) (rx_hp L t hi4 hl4 v4)) ∧ (¬ (z4 = 0) → Q (some (.int (hi4 (rx_ct q1) 7))) (rx_hp L t hi4 hl4 v4))))))))))))) : rx_me 61 [.ref 1, .int a0] (rx_hp L t hi hl v) Q := by
  show rx_aw 61 0 [.ref 1, .int a0, rx_no] [] (rx_hp L t hi hl v) Q
  refine rx_aw_s 3 (pc := 0) rfl ?_
  show rx_aw 61 5 [.ref 1, .int a0, rx_no] [.int a0, .ref 13] (rx_hp L t hi hl v) Q
  refine rx_w_callR (j := 59) (pc := 5) rfl rfl rfl rfl rfl ?_
  refine rx_aw.mono k (fun r h2 k => ?_)
  obtain ⟨z1, rfl, hi1, hl1, v1, rfl, k⟩ := k
  refine ⟨z1, rfl, ?_⟩
  rcases k with ⟨rfl, k⟩ | ⟨q1, hq1, rfl, k⟩
  · show rx_aw 61 8 [.ref 1, .int a0, rx_no] [.null] (rx_hp L t hi1 hl1 v1) Q
    refine rx_aw_s 4 (pc := 8) rfl ?_
    show rx_aw 61 22 [.ref 1, .int a0, .null] [.int (-2)] (rx_hp L t hi1 hl1 v1) Q
    exact rx_aw_ret (pc := 22) rfl k
  · show rx_aw 61 8 [.ref 1, .int a0, rx_no] [.ref (rx_ct q1)] (rx_hp L t hi1 hl1 v1) Q
    refine rx_aw_s 4 (pc := 8) rfl ?_
    show rx_aw 61 14 [.ref 1, .int a0, .ref (rx_ct q1)] [.ref (rx_ct q1)] (rx_hp L t hi1 hl1 v1) Q
    refine rx_w_callI (j := 62) (pc := 14) rfl rfl rfl rfl (rx_mayc rfl rfl rfl rfl (rx_ck (rx_cart_s hq1).1) (rx_ct_pos _)) ?_
    refine rx_aw.mono k (fun r h2 k => ?_)
    obtain ⟨z2, rfl, hi2, hl2, v2, rfl, k⟩ := k
    refine ⟨z2, rfl, ?_⟩
    show rx_aw 61 17 [.ref 1, .int a0, .ref (rx_ct q1)] [.int z2] (rx_hp L t hi2 hl2 v2) Q
    refine rx_aw_s 1 (pc := 17) rfl ?_
    refine rx_w_ifn (c := z2 = 0) ⟨fun c3 => ?_, fun c3 => ?_⟩
    · have k := k.1 c3
      show rx_aw 61 20 [.ref 1, .int a0, .ref (rx_ct q1)] [] (rx_hp L t hi2 hl2 v2) Q
      refine rx_aw_s 1 (pc := 20) rfl ?_
      show rx_aw 61 22 [.ref 1, .int a0, .ref (rx_ct q1)] [.int (-2)] (rx_hp L t hi2 hl2 v2) Q
      exact rx_aw_ret (pc := 22) rfl k
    · have k := k.2 c3
      show rx_aw 61 23 [.ref 1, .int a0, .ref (rx_ct q1)] [] (rx_hp L t hi2 hl2 v2) Q
      refine rx_aw_s 4 (pc := 23) rfl ?_
      show rx_aw 61 29 [.ref 1, .int a0, .ref (rx_ct q1)] [.int 0, .ref (rx_ct q1), .ref 76] (rx_hp L t hi2 hl2 v2) Q
      refine rx_w_callI (j := 63) (pc := 29) rfl rfl rfl rfl rfl ?_
      refine rx_aw.mono k (fun r h2 k => ?_)
      obtain ⟨z4, rfl, hi4, hl4, v4, rfl, k⟩ := k
      refine ⟨z4, rfl, ?_⟩
      show rx_aw 61 32 [.ref 1, .int a0, .ref (rx_ct q1)] [.int z4] (rx_hp L t hi4 hl4 v4) Q
      refine rx_aw_s 1 (pc := 32) rfl ?_
      refine rx_w_if (c := z4 = 0) ⟨fun c5 => ?_, fun c5 => ?_⟩
      · have k := k.1 c5
        show rx_aw 61 42 [.ref 1, .int a0, .ref (rx_ct q1)] [] (rx_hp L t hi4 hl4 v4) Q
        refine rx_aw_s 1 (pc := 42) rfl ?_
        show rx_aw 61 43 [.ref 1, .int a0, .ref (rx_ct q1)] [.int (-1)] (rx_hp L t hi4 hl4 v4) Q
        exact rx_aw_ret (pc := 43) rfl k
      · have k := k.2 c5
        show rx_aw 61 35 [.ref 1, .int a0, .ref (rx_ct q1)] [] (rx_hp L t hi4 hl4 v4) Q
        refine rx_aw_s 1 (pc := 35) rfl ?_
        show rx_aw 61 36 [.ref 1, .int a0, .ref (rx_ct q1)] [.ref (rx_ct q1)] (rx_hp L t hi4 hl4 v4) Q
        refine rx_w_cg hq1 (pc := 36) rfl (by decide) (by decide) ?_
        show rx_aw 61 39 [.ref 1, .int a0, .ref (rx_ct q1)] [.int (hi4 (rx_ct q1) 7)] (rx_hp L t hi4 hl4 v4) Q
        refine rx_aw_s 1 (pc := 39) rfl ?_
        show rx_aw 61 43 [.ref 1, .int a0, .ref (rx_ct q1)] [.int (hi4 (rx_ct q1) 7)] (rx_hp L t hi4 hl4 v4) Q
        exact rx_aw_ret (pc := 43) rfl k
/-- CartFloor$Cart.isOpen()Z -/
theorem w62_isOpen {L : Nat} {t : List (Nat × Nat)} {hi : Nat → Nat → Int32} {hl : Nat → Nat → Int64} {v : Nat → Nat → Option Nat} {Q : Option Value → rx_H → Prop} {c : Nat} (hc : c < 6) (k : (((hi (rx_ct c) 8) < 0 → Q (some (.int 0)) (rx_hp L t hi hl v)) ∧ (¬ ((hi (rx_ct c) 8) < 0) → (((hi (rx_ct c) 11) = 0 → (((hi (rx_ct c) 10) = 0 → Q (some (.int 1)) (rx_hp L t hi hl v)) ∧ (¬ ((hi (rx_ct c) 10) = 0) → Q (some (.int 0)) (rx_hp L t hi hl v)))) ∧ (¬ ((hi (rx_ct c) 11) = 0) → Q (some (.int 0)) (rx_hp L t hi hl v)))))) : rx_me 62 [.ref (rx_ct c)] (rx_hp L t hi hl v) Q := by
  show rx_aw 62 0 [.ref (rx_ct c)] [] (rx_hp L t hi hl v) Q
  refine rx_aw_s 1 (pc := 0) rfl ?_
  show rx_aw 62 1 [.ref (rx_ct c)] [.ref (rx_ct c)] (rx_hp L t hi hl v) Q
  refine rx_w_cg hc (pc := 1) rfl (by decide) (by decide) ?_
  show rx_aw 62 4 [.ref (rx_ct c)] [.int (hi (rx_ct c) 8)] (rx_hp L t hi hl v) Q
  refine rx_aw_s 1 (pc := 4) rfl ?_
  refine rx_w_if (c := (hi (rx_ct c) 8) < 0) ⟨fun c1 => ?_, fun c1 => ?_⟩
  · have k := k.1 c1
    show rx_aw 62 25 [.ref (rx_ct c)] [] (rx_hp L t hi hl v) Q
    refine rx_aw_s 1 (pc := 25) rfl ?_
    show rx_aw 62 26 [.ref (rx_ct c)] [.int 0] (rx_hp L t hi hl v) Q
    exact rx_aw_ret (pc := 26) rfl k
  · have k := k.2 c1
    show rx_aw 62 7 [.ref (rx_ct c)] [] (rx_hp L t hi hl v) Q
    refine rx_aw_s 1 (pc := 7) rfl ?_
    show rx_aw 62 8 [.ref (rx_ct c)] [.ref (rx_ct c)] (rx_hp L t hi hl v) Q
    refine rx_w_cg hc (pc := 8) rfl (by decide) (by decide) ?_
    show rx_aw 62 11 [.ref (rx_ct c)] [.int (hi (rx_ct c) 11)] (rx_hp L t hi hl v) Q
    refine rx_aw_s 1 (pc := 11) rfl ?_
    refine rx_w_ifn (c := (hi (rx_ct c) 11) = 0) ⟨fun c2 => ?_, fun c2 => ?_⟩
    · have k := k.1 c2
      show rx_aw 62 14 [.ref (rx_ct c)] [] (rx_hp L t hi hl v) Q
      refine rx_aw_s 1 (pc := 14) rfl ?_
      show rx_aw 62 15 [.ref (rx_ct c)] [.ref (rx_ct c)] (rx_hp L t hi hl v) Q
      refine rx_w_cg hc (pc := 15) rfl (by decide) (by decide) ?_
      show rx_aw 62 18 [.ref (rx_ct c)] [.int (hi (rx_ct c) 10)] (rx_hp L t hi hl v) Q
      refine rx_aw_s 1 (pc := 18) rfl ?_
      refine rx_w_ifn (c := (hi (rx_ct c) 10) = 0) ⟨fun c3 => ?_, fun c3 => ?_⟩
      · have k := k.1 c3
        show rx_aw 62 21 [.ref (rx_ct c)] [] (rx_hp L t hi hl v) Q
        refine rx_aw_s 2 (pc := 21) rfl ?_
        show rx_aw 62 26 [.ref (rx_ct c)] [.int 1] (rx_hp L t hi hl v) Q
        exact rx_aw_ret (pc := 26) rfl k
      · have k := k.2 c3
        show rx_aw 62 25 [.ref (rx_ct c)] [] (rx_hp L t hi hl v) Q
        refine rx_aw_s 1 (pc := 25) rfl ?_
        show rx_aw 62 26 [.ref (rx_ct c)] [.int 0] (rx_hp L t hi hl v) Q
        exact rx_aw_ret (pc := 26) rfl k
    · have k := k.2 c2
      show rx_aw 62 25 [.ref (rx_ct c)] [] (rx_hp L t hi hl v) Q
      refine rx_aw_s 1 (pc := 25) rfl ?_
      show rx_aw 62 26 [.ref (rx_ct c)] [.int 0] (rx_hp L t hi hl v) Q
      exact rx_aw_ret (pc := 26) rfl k
/-- CartFloor$Planner.find(LCartFloor$Cart;I)Z -/
theorem w63_find {L : Nat} {t : List (Nat × Nat)} {hi : Nat → Nat → Int32} {hl : Nat → Nat → Int64} {v : Nat → Nat → Option Nat} {Q : Option Value → rx_H → Prop} {c0 : Nat} (hc0 : c0 < 6) {a1 : Int32} (k : (∃ j1 : Nat, a1 = nI j1 ∧ j1 < 402 ∧ (((hi (rx_ct c0) 9) < 0 → ((0 ≤ a1 → rx_me 64 [.ref 77, .ref (rx_ct c0), .int (hi (rx_ct c0 + 3) j1), .int a1, .int (hi (rx_ct c0) 8), .int (-1), .int 1] (rx_hp L t hi hl v) (fun r h2 => ∃ z4 : Int32, r = some (.int z4) ∧ rx_ok2 L t h2 (fun hi4 hl4 v4 => ((z4 < 0 → ((0 ≤ z4 → rx_me 41 [.ref 13] (rx_hp L t (rx_u (rx_u hi4 (rx_ct c0) 7 z4) (rx_ct c0) 11 1) hl4 v4) (fun r h2 => r = none ∧ rx_ok2 L t h2 (fun hi7 hl7 v7 => Q (some (.int 1)) (rx_hp L t hi7 hl7 v7)))) ∧ (¬ (0 ≤ z4) → Q (some (.int 0)) (rx_hp L t hi4 hl4 v4)))) ∧ (¬ (z4 < 0) → (((hi4 (rx_ct c0) 9) < 0 → ((0 ≤ z4 → rx_me 41 [.ref 13] (rx_hp L t (rx_u (rx_u hi4 (rx_ct c0) 7 z4) (rx_ct c0) 11 1) hl4 v4) (fun r h2 => r = none ∧ rx_ok2 L t h2 (fun hi10 hl10 v10 => Q (some (.int 1)) (rx_hp L t hi10 hl10 v10)))) ∧ (¬ (0 ≤ z4) → Q (some (.int 0)) (rx_hp L t hi4 hl4 v4)))) ∧ (¬ ((hi4 (rx_ct c0) 9) < 0) → rx_me 83 [.ref 76, .ref (rx_ct c0), .int 6, .int z4] (rx_hp L t hi4 hl4 v4) (fun r h2 => ∃ z11 : Int32, r = some (.int z11) ∧ rx_ok2 L t h2 (fun hi11 hl11 v11 => ((0 ≤ z11 → rx_me 41 [.ref 13] (rx_hp L t (rx_u (rx_u hi11 (rx_ct c0) 7 z11) (rx_ct c0) 11 1) hl11 v11) (fun r h2 => r = none ∧ rx_ok2 L t h2 (fun hi13 hl13 v13 => Q (some (.int 1)) (rx_hp L t hi13 hl13 v13)))) ∧ (¬ (0 ≤ z11) → Q (some (.int 0)) (rx_hp L t hi11 hl11 v11)))))))))))) ∧ (¬ (0 ≤ a1) → (((-1) < 0 → ((0 ≤ (-1) → rx_me 41 [.ref 13] (rx_hp L t (rx_u (rx_u hi (rx_ct c0) 7 (-1)) (rx_ct c0) 11 1) hl v) (fun r h2 => r = none ∧ rx_ok2 L t h2 (fun hi16 hl16 v16 => Q (some (.int 1)) (rx_hp L t hi16 hl16 v16)))) ∧ (¬ (0 ≤ (-1)) → Q (some (.int 0)) (rx_hp L t hi hl v)))) ∧ (¬ ((-1) < 0) → (((hi (rx_ct c0) 9) < 0 → ((0 ≤ (-1) → rx_me 41 [.ref 13] (rx_hp L t (rx_u (rx_u hi (rx_ct c0) 7 (-1)) (rx_ct c0) 11 1) hl v) (fun r h2 => r = none ∧ rx_ok2 L t h2 (fun hi19 hl19 v19 => Q (some (.int 1)) (rx_hp L t hi19 hl19 v19)))) ∧ (¬ (0 ≤ (-1)) → Q (some (.int 0)) (rx_hp L t hi hl v)))) ∧ (¬ ((hi (rx_ct c0) 9) < 0) → rx_me 83 [.ref 76, .ref (rx_ct c0), .int 6, .int (-1)] (rx_hp L t hi hl v) (fun r h2 => ∃ z20 : Int32, r = some (.int z20) ∧ rx_ok2 L t h2 (fun hi20 hl20 v20 => ((0 ≤ z20 → rx_me 41 [.ref 13] (rx_hp L t (rx_u (rx_u hi20 (rx_ct c0) 7 z20) (rx_ct c0) 11 1) hl20 v20) (fun r h2 => r = none ∧ rx_ok2 L t h2 (fun hi22 hl22 v22 => Q (some (.int 1)) (rx_hp L t hi22 hl22 v22)))) ∧ (¬ (0 ≤ z20) → Q (some (.int 0)) (rx_hp L t hi20 hl20 v20)))))))))))) ∧ (¬ ((hi (rx_ct c0) 9) < 0) → rx_me 48 [.int (hi (rx_ct c0 + 3) j1)] (rx_hp L t hi hl v) (fun r h2 => ∃ z23 : Int32, r = some (.int z23) ∧ rx_ok2 L t h2 (fun hi23 hl23 v23 => ((z23 = (hi23 (rx_ct c0) 9) → ((0 ≤ a1 → rx_me 64 [.ref 77, .ref (rx_ct c0), .int (hi (rx_ct c0 + 3) j1), .int a1, .int (hi23 (rx_ct c0) 8), .int (-1), .int 1] (rx_hp L t hi23 hl23 v23) (fun r h2 => ∃ z26 : Int32, r = some (.int z26) ∧ rx_ok2 L t h2 (fun hi26 hl26 v26 => ((z26 < 0 → ((0 ≤ z26 → rx_me 41 [.ref 13] (rx_hp L t (rx_u (rx_u hi26 (rx_ct c0) 7 z26) (rx_ct c0) 11 1) hl26 v26) (fun r h2 => r = none ∧ rx_ok2 L t h2 (fun hi29 hl29 v29 => Q (some (.int 1)) (rx_hp L t hi29 hl29 v29)))) ∧ (¬ (0 ≤ z26) → Q (some (.int 0)) (rx_hp L t hi26 hl26 v26)))) ∧ (¬ (z26 < 0) → (((hi26 (rx_ct c0) 9) < 0 → ((0 ≤ z26 → rx_me 41 [.ref 13] (rx_hp L t (rx_u (rx_u hi26 (rx_ct c0) 7 z26) (rx_ct c0) 11 1) hl26 v26) (fun r h2 => r = none ∧ rx_ok2 L t h2 (fun hi32 hl32 v32 => Q (some (.int 1)) (rx_hp L t hi32 hl32 v32)))) ∧ (¬ (0 ≤ z26) → Q (some (.int 0)) (rx_hp L t hi26 hl26 v26)))) ∧ (¬ ((hi26 (rx_ct c0) 9) < 0) → rx_me 83 [.ref 76, .ref (rx_ct c0), .int 6, .int z26] (rx_hp L t hi26 hl26 v26) (fun r h2 => ∃ z33 : Int32, r = some (.int z33) ∧ rx_ok2 L t h2 (fun hi33 hl33 v33 => ((0 ≤ z33 → rx_me 41 [.ref 13] (rx_hp L t (rx_u (rx_u hi33 (rx_ct c0) 7 z33) (rx_ct c0) 11 1) hl33 v33) (fun r h2 => r = none ∧ rx_ok2 L t h2 (fun hi35 hl35 v35 => Q (some (.int 1)) (rx_hp L t hi35 hl35 v35)))) ∧ (¬ (0 ≤ z33) → Q (some (.int 0)) (rx_hp L t hi33 hl33 v33)))))))))))) ∧ (¬ (0 ≤ a1) → (((-1) < 0 → ((0 ≤ (-1) → rx_me 41 [.ref 13] (rx_hp L t (rx_u (rx_u hi23 (rx_ct c0) 7 (-1)) (rx_ct c0) 11 1) hl23 v23) (fun r h2 => r = none ∧ rx_ok2 L t h2 (fun hi38 hl38 v38 => Q (some (.int 1)) (rx_hp L t hi38 hl38 v38)))) ∧ (¬ (0 ≤ (-1)) → Q (some (.int 0)) (rx_hp L t hi23 hl23 v23)))) ∧ (¬ ((-1) < 0) → (((hi23 (rx_ct c0) 9) < 0 → ((0 ≤ (-1) → rx_me 41 [.ref 13] (rx_hp L t (rx_u (rx_u hi23 (rx_ct c0) 7 (-1)) (rx_ct c0) 11 1) hl23 v23) (fun r h2 => r = none ∧ rx_ok2 L t h2 (fun hi41 hl41 v41 => Q (some (.int 1)) (rx_hp L t hi41 hl41 v41)))) ∧ (¬ (0 ≤ (-1)) → Q (some (.int 0)) (rx_hp L t hi23 hl23 v23)))) ∧ (¬ ((hi23 (rx_ct c0) 9) < 0) → rx_me 83 [.ref 76, .ref (rx_ct c0), .int 6, .int (-1)] (rx_hp L t hi23 hl23 v23) (fun r h2 => ∃ z42 : Int32, r = some (.int z42) ∧ rx_ok2 L t h2 (fun hi42 hl42 v42 => ((0 ≤ z42 → rx_me 41 [.ref 13] (rx_hp L t (rx_u (rx_u hi42 (rx_ct c0) 7 z42) (rx_ct c0) 11 1) hl42 v42) (fun r h2 => r = none ∧ rx_ok2 L t h2 (fun hi44 hl44 v44 => Q (some (.int 1)) (rx_hp L t hi44 hl44 v44)))) ∧ (¬ (0 ≤ z42) → Q (some (.int 0)) (rx_hp L t hi42 hl42 v42)))))))))))) ∧ (¬ (z23 = (hi23 (rx_ct c0) 9)) → rx_me 38 [.ref 13, .int (hi23 (rx_ct c0) 9), .int 402] (rx_hp L t hi23 hl23 v23) (fun r h2 => ∃ z45 : Int32, r = some (.int z45) ∧ rx_ok2 L t h2 (fun hi45 hl45 v45 => rx_me 64 [.ref 77, .ref (rx_ct c0), .int (hi (rx_ct c0 + 3) j1), .int a1, .int z45, .int (hi45 (rx_ct c0) 9), .int 0] (rx_hp L t hi45 hl45 v45) (fun r h2 => ∃ z46 : Int32, r = some (.int z46) ∧ rx_ok2 L t h2 (fun hi46 hl46 v46 => ((0 ≤ z46 → rx_me 83 [.ref 76, .ref (rx_ct c0), .int 5, .int z46] (rx_hp L t hi46 hl46 v46) (fun r h2 => ∃ z48 : Int32, r = some (.int z48) ∧ rx_ok2 L t h2 (fun hi48 hl48 v48 => ((0 ≤ z48 → rx_me 64 [.ref 77, .ref (rx_ct c0), .int (hi48 77 13), .int z48, .int (hi48 (rx_ct c0) 8), .int (-1), .int 1] (rx_hp L t hi48 hl48 v48) (fun r h2 => ∃ z50 : Int32, r = some (.int z50) ∧ rx_ok2 L t h2 (fun hi50 hl50 v50 => ((z50 < 0 → ((0 ≤ z50 → rx_me 41 [.ref 13] (rx_hp L t (rx_u (rx_u hi50 (rx_ct c0) 7 z50) (rx_ct c0) 11 1) hl50 v50) (fun r h2 => r = none ∧ rx_ok2 L t h2 (fun hi53 hl53 v53 => Q (some (.int 1)) (rx_hp L t hi53 hl53 v53)))) ∧ (¬ (0 ≤ z50) → Q (some (.int 0)) (rx_hp L t hi50 hl50 v50)))) ∧ (¬ (z50 < 0) → (((hi50 (rx_ct c0) 9) < 0 → ((0 ≤ z50 → rx_me 41 [.ref 13] (rx_hp L t (rx_u (rx_u hi50 (rx_ct c0) 7 z50) (rx_ct c0) 11 1) hl50 v50) (fun r h2 => r = none ∧ rx_ok2 L t h2 (fun hi56 hl56 v56 => Q (some (.int 1)) (rx_hp L t hi56 hl56 v56)))) ∧ (¬ (0 ≤ z50) → Q (some (.int 0)) (rx_hp L t hi50 hl50 v50)))) ∧ (¬ ((hi50 (rx_ct c0) 9) < 0) → rx_me 83 [.ref 76, .ref (rx_ct c0), .int 6, .int z50] (rx_hp L t hi50 hl50 v50) (fun r h2 => ∃ z57 : Int32, r = some (.int z57) ∧ rx_ok2 L t h2 (fun hi57 hl57 v57 => ((0 ≤ z57 → rx_me 41 [.ref 13] (rx_hp L t (rx_u (rx_u hi57 (rx_ct c0) 7 z57) (rx_ct c0) 11 1) hl57 v57) (fun r h2 => r = none ∧ rx_ok2 L t h2 (fun hi59 hl59 v59 => Q (some (.int 1)) (rx_hp L t hi59 hl59 v59)))) ∧ (¬ (0 ≤ z57) → Q (some (.int 0)) (rx_hp L t hi57 hl57 v57)))))))))))) ∧ (¬ (0 ≤ z48) → (((-1) < 0 → ((0 ≤ (-1) → rx_me 41 [.ref 13] (rx_hp L t (rx_u (rx_u hi48 (rx_ct c0) 7 (-1)) (rx_ct c0) 11 1) hl48 v48) (fun r h2 => r = none ∧ rx_ok2 L t h2 (fun hi62 hl62 v62 => Q (some (.int 1)) (rx_hp L t hi62 hl62 v62)))) ∧ (¬ (0 ≤ (-1)) → Q (some (.int 0)) (rx_hp L t hi48 hl48 v48)))) ∧ (¬ ((-1) < 0) → (((hi48 (rx_ct c0) 9) < 0 → ((0 ≤ (-1) → rx_me 41 [.ref 13] (rx_hp L t (rx_u (rx_u hi48 (rx_ct c0) 7 (-1)) (rx_ct c0) 11 1) hl48 v48) (fun r h2 => r = none ∧ rx_ok2 L t h2 (fun hi65 hl65 v65 => Q (some (.int 1)) (rx_hp L t hi65 hl65 v65)))) ∧ (¬ (0 ≤ (-1)) → Q (some (.int 0)) (rx_hp L t hi48 hl48 v48)))) ∧ (¬ ((hi48 (rx_ct c0) 9) < 0) → rx_me 83 [.ref 76, .ref (rx_ct c0), .int 6, .int (-1)] (rx_hp L t hi48 hl48 v48) (fun r h2 => ∃ z66 : Int32, r = some (.int z66) ∧ rx_ok2 L t h2 (fun hi66 hl66 v66 => ((0 ≤ z66 → rx_me 41 [.ref 13] (rx_hp L t (rx_u (rx_u hi66 (rx_ct c0) 7 z66) (rx_ct c0) 11 1) hl66 v66) (fun r h2 => r = none ∧ rx_ok2 L t h2 (fun hi68 hl68 v68 => Q (some (.int 1)) (rx_hp L t hi68 hl68 v68)))) ∧ (¬ (0 ≤ z66) → Q (some (.int 0)) (rx_hp L t hi66 hl66 v66)))))))))))))) ∧ (¬ (0 ≤ z46) → ((0 ≤ (-1) → rx_me 64 [.ref 77, .ref (rx_ct c0), .int (hi46 77 13), .int (-1), .int (hi46 (rx_ct c0) 8), .int (-1), .int 1] (rx_hp L t hi46 hl46 v46) (fun r h2 => ∃ z70 : Int32, r = some (.int z70) ∧ rx_ok2 L t h2 (fun hi70 hl70 v70 => ((z70 < 0 → ((0 ≤ z70 → rx_me 41 [.ref 13] (rx_hp L t (rx_u (rx_u hi70 (rx_ct c0) 7 z70) (rx_ct c0) 11 1) hl70 v70) (fun r h2 => r = none ∧ rx_ok2 L t h2 (fun hi73 hl73 v73 => Q (some (.int 1)) (rx_hp L t hi73 hl73 v73)))) ∧ (¬ (0 ≤ z70) → Q (some (.int 0)) (rx_hp L t hi70 hl70 v70)))) ∧ (¬ (z70 < 0) → (((hi70 (rx_ct c0) 9) < 0 → ((0 ≤ z70 → rx_me 41 [.ref 13] (rx_hp L t (rx_u (rx_u hi70 (rx_ct c0) 7 z70) (rx_ct c0) 11 1) hl70 v70) (fun r h2 => r = none ∧ rx_ok2 L t h2 (fun hi76 hl76 v76 => Q (some (.int 1)) (rx_hp L t hi76 hl76 v76)))) ∧ (¬ (0 ≤ z70) → Q (some (.int 0)) (rx_hp L t hi70 hl70 v70)))) ∧ (¬ ((hi70 (rx_ct c0) 9) < 0) → rx_me 83 [.ref 76, .ref (rx_ct c0), .int 6, .int z70] (rx_hp L t hi70 hl70 v70) (fun r h2 => ∃ z77 : Int32, r = some (.int z77) ∧ rx_ok2 L t h2 (fun hi77 hl77 v77 => ((0 ≤ z77 → rx_me 41 [.ref 13] (rx_hp L t (rx_u (rx_u hi77 (rx_ct c0) 7 z77) (rx_ct c0) 11 1) hl77 v77) (fun r h2 => r = none ∧ rx_ok2 L t h2 (fun hi79 hl79 v79 => Q (some (.int 1)) (rx_hp L t hi79 hl79 v79)))) ∧ (¬ (0 ≤ z77) → Q (some (.int 0)) (rx_hp L t hi77 hl77 v77)))))))))))) ∧ (¬ (0 ≤ (-1)) → (((-1) < 0 → ((0 ≤ (-1) → rx_me 41 [.ref 13] (rx_hp L t (rx_u (rx_u hi46 (rx_ct c0) 7 (-1)) (rx_ct c0) 11 1) hl46 v46) (fun r h2 => r = none ∧ rx_ok2 L t h2 (fun hi82 hl82 v82 => Q (some (.int 1)) (rx_hp L t hi82 hl82 v82)))) ∧ (¬ (0 ≤ (-1)) → Q (some (.int 0)) (rx_hp L t hi46 hl46 v46)))) ∧ (¬ ((-1) < 0) → (((hi46 (rx_ct c0) 9) < 0 → ((0 ≤ (-1) → rx_me 41 [.ref 13] (rx_hp L t (rx_u (rx_u hi46 (rx_ct c0) 7 (-1)) (rx_ct c0) 11 1) hl46 v46) (fun r h2 => r = none ∧ rx_ok2 L t h2 (fun hi85 hl85 v85 => Q (some (.int 1)) (rx_hp L t hi85 hl85 v85)))) ∧ (¬ (0 ≤ (-1)) → Q (some (.int 0)) (rx_hp L t hi46 hl46 v46)))) ∧ (¬ ((hi46 (rx_ct c0) 9) < 0) → rx_me 83 [.ref 76, .ref (rx_ct c0), .int 6, .int (-1)] (rx_hp L t hi46 hl46 v46) (fun r h2 => ∃ z86 : Int32, r = some (.int z86) ∧ rx_ok2 L t h2 (fun hi86 hl86 v86 => ((0 ≤ z86 → rx_me 41 [.ref 13] (rx_hp L t (rx_u (rx_u hi86 (rx_ct c0) 7 z86) (rx_ct c0) 11 1) hl86 v86) (fun r h2 => r = none ∧ rx_ok2 L t h2 (fun hi88 hl88 v88 => Q (some (.int 1)) (rx_hp L t hi88 hl88 v88)))) ∧ (¬ (0 ≤ z86) → Q (some (.int 0)) (rx_hp L t hi86 hl86 v86))))))))))))))))))))))))) : rx_me 63 [.ref 76, .ref (rx_ct c0), .int a1] (rx_hp L t hi hl v) Q := by
  show rx_aw 63 0 [.ref 76, .ref (rx_ct c0), .int a1, rx_no, rx_no, rx_no] [] (rx_hp L t hi hl v) Q
  refine rx_aw_s 1 (pc := 0) rfl ?_
  show rx_aw 63 1 [.ref 76, .ref (rx_ct c0), .int a1, rx_no, rx_no, rx_no] [.ref (rx_ct c0)] (rx_hp L t hi hl v) Q
  refine rx_w_cr hc0 (pc := 1) rfl (by decide) ?_
  show rx_aw 63 4 [.ref 76, .ref (rx_ct c0), .int a1, rx_no, rx_no, rx_no] [.ref (rx_ct c0 + 3)] (rx_hp L t hi hl v) Q
  refine rx_aw_s 1 (pc := 4) rfl ?_
  show rx_aw 63 5 [.ref 76, .ref (rx_ct c0), .int a1, rx_no, rx_no, rx_no] [.int a1, .ref (rx_ct c0 + 3)] (rx_hp L t hi hl v) Q
  obtain ⟨j1, ej1, hj1, k⟩ := k
  refine rx_aw_iald (pc := 5) (n := 402) j1 ej1 rfl (rx_ck (rx_cart_s hc0).2.2.2.1) (rx_cle (rx_cart_s hc0).2.2.2.1) hj1 (by decide) ?_
  show rx_aw 63 6 [.ref 76, .ref (rx_ct c0), .int a1, rx_no, rx_no, rx_no] [.int (hi (rx_ct c0 + 3) j1)] (rx_hp L t hi hl v) Q
  refine rx_aw_s 4 (pc := 6) rfl ?_
  show rx_aw 63 11 [.ref 76, .ref (rx_ct c0), .int a1, .int (hi (rx_ct c0 + 3) j1), .int a1, rx_no] [.ref (rx_ct c0)] (rx_hp L t hi hl v) Q
  refine rx_w_cg hc0 (pc := 11) rfl (by decide) (by decide) ?_
  show rx_aw 63 14 [.ref 76, .ref (rx_ct c0), .int a1, .int (hi (rx_ct c0 + 3) j1), .int a1, rx_no] [.int (hi (rx_ct c0) 9)] (rx_hp L t hi hl v) Q
  refine rx_aw_s 1 (pc := 14) rfl ?_
  refine rx_w_if (c := (hi (rx_ct c0) 9) < 0) ⟨fun c2 => ?_, fun c2 => ?_⟩
  · have k := k.1 c2
    show rx_aw 63 91 [.ref 76, .ref (rx_ct c0), .int a1, .int (hi (rx_ct c0 + 3) j1), .int a1, rx_no] [] (rx_hp L t hi hl v) Q
    refine rx_aw_s 2 (pc := 91) rfl ?_
    refine rx_w_if (c := 0 ≤ a1) ⟨fun c3 => ?_, fun c3 => ?_⟩
    · have k := k.1 c3
      show rx_aw 63 100 [.ref 76, .ref (rx_ct c0), .int a1, .int (hi (rx_ct c0 + 3) j1), .int a1, rx_no] [] (rx_hp L t hi hl v) Q
      refine rx_aw_s 6 (pc := 100) rfl ?_
      show rx_aw 63 109 [.ref 76, .ref (rx_ct c0), .int a1, .int (hi (rx_ct c0 + 3) j1), .int a1, rx_no] [.ref (rx_ct c0), .int a1, .int (hi (rx_ct c0 + 3) j1), .ref (rx_ct c0), .ref 77] (rx_hp L t hi hl v) Q
      refine rx_w_cg hc0 (pc := 109) rfl (by decide) (by decide) ?_
      show rx_aw 63 112 [.ref 76, .ref (rx_ct c0), .int a1, .int (hi (rx_ct c0 + 3) j1), .int a1, rx_no] [.int (hi (rx_ct c0) 8), .int a1, .int (hi (rx_ct c0 + 3) j1), .ref (rx_ct c0), .ref 77] (rx_hp L t hi hl v) Q
      refine rx_aw_s 2 (pc := 112) rfl ?_
      show rx_aw 63 114 [.ref 76, .ref (rx_ct c0), .int a1, .int (hi (rx_ct c0 + 3) j1), .int a1, rx_no] [.int 1, .int (-1), .int (hi (rx_ct c0) 8), .int a1, .int (hi (rx_ct c0 + 3) j1), .ref (rx_ct c0), .ref 77] (rx_hp L t hi hl v) Q
      refine rx_w_callI (j := 64) (pc := 114) rfl rfl rfl rfl rfl ?_
      refine rx_aw.mono k (fun r h2 k => ?_)
      obtain ⟨z4, rfl, hi4, hl4, v4, rfl, k⟩ := k
      refine ⟨z4, rfl, ?_⟩
      show rx_aw 63 117 [.ref 76, .ref (rx_ct c0), .int a1, .int (hi (rx_ct c0 + 3) j1), .int a1, rx_no] [.int z4] (rx_hp L t hi4 hl4 v4) Q
      refine rx_aw_s 3 (pc := 117) rfl ?_
      refine rx_w_if (c := z4 < 0) ⟨fun c5 => ?_, fun c5 => ?_⟩
      · have k := k.1 c5
        show rx_aw 63 142 [.ref 76, .ref (rx_ct c0), .int a1, .int (hi (rx_ct c0 + 3) j1), .int z4, rx_no] [] (rx_hp L t hi4 hl4 v4) Q
        refine rx_aw_s 2 (pc := 142) rfl ?_
        refine rx_w_if (c := 0 ≤ z4) ⟨fun c6 => ?_, fun c6 => ?_⟩
        · have k := k.1 c6
          show rx_aw 63 149 [.ref 76, .ref (rx_ct c0), .int a1, .int (hi (rx_ct c0 + 3) j1), .int z4, rx_no] [] (rx_hp L t hi4 hl4 v4) Q
          refine rx_aw_s 2 (pc := 149) rfl ?_
          show rx_aw 63 152 [.ref 76, .ref (rx_ct c0), .int a1, .int (hi (rx_ct c0 + 3) j1), .int z4, rx_no] [.int z4, .ref (rx_ct c0)] (rx_hp L t hi4 hl4 v4) Q
          refine rx_w_cp hc0 (pc := 152) rfl rfl (by decide) ?_
          show rx_aw 63 155 [.ref 76, .ref (rx_ct c0), .int a1, .int (hi (rx_ct c0 + 3) j1), .int z4, rx_no] [] (rx_hp L t (rx_u hi4 (rx_ct c0) 7 z4) hl4 v4) Q
          refine rx_aw_s 2 (pc := 155) rfl ?_
          show rx_aw 63 157 [.ref 76, .ref (rx_ct c0), .int a1, .int (hi (rx_ct c0 + 3) j1), .int z4, rx_no] [.int 1, .ref (rx_ct c0)] (rx_hp L t (rx_u hi4 (rx_ct c0) 7 z4) hl4 v4) Q
          refine rx_w_cz hc0 (pc := 157) rfl rfl (by decide) ⟨by decide, ?_⟩
          show rx_aw 63 160 [.ref 76, .ref (rx_ct c0), .int a1, .int (hi (rx_ct c0 + 3) j1), .int z4, rx_no] [] (rx_hp L t (rx_u (rx_u hi4 (rx_ct c0) 7 z4) (rx_ct c0) 11 1) hl4 v4) Q
          refine rx_aw_s 2 (pc := 160) rfl ?_
          show rx_aw 63 164 [.ref 76, .ref (rx_ct c0), .int a1, .int (hi (rx_ct c0 + 3) j1), .int z4, rx_no] [.ref 13] (rx_hp L t (rx_u (rx_u hi4 (rx_ct c0) 7 z4) (rx_ct c0) 11 1) hl4 v4) Q
          refine rx_w_callV (j := 41) (pc := 164) rfl rfl rfl rfl rfl ?_
          refine rx_aw.mono k (fun r h2 k => ?_)
          obtain ⟨rfl, hi7, hl7, v7, rfl, k⟩ := k
          refine ⟨rfl, ?_⟩
          show rx_aw 63 167 [.ref 76, .ref (rx_ct c0), .int a1, .int (hi (rx_ct c0 + 3) j1), .int z4, rx_no] [] (rx_hp L t hi7 hl7 v7) Q
          refine rx_aw_s 1 (pc := 167) rfl ?_
          show rx_aw 63 168 [.ref 76, .ref (rx_ct c0), .int a1, .int (hi (rx_ct c0 + 3) j1), .int z4, rx_no] [.int 1] (rx_hp L t hi7 hl7 v7) Q
          exact rx_aw_ret (pc := 168) rfl k
        · have k := k.2 c6
          show rx_aw 63 147 [.ref 76, .ref (rx_ct c0), .int a1, .int (hi (rx_ct c0 + 3) j1), .int z4, rx_no] [] (rx_hp L t hi4 hl4 v4) Q
          refine rx_aw_s 1 (pc := 147) rfl ?_
          show rx_aw 63 148 [.ref 76, .ref (rx_ct c0), .int a1, .int (hi (rx_ct c0 + 3) j1), .int z4, rx_no] [.int 0] (rx_hp L t hi4 hl4 v4) Q
          exact rx_aw_ret (pc := 148) rfl k
      · have k := k.2 c5
        show rx_aw 63 124 [.ref 76, .ref (rx_ct c0), .int a1, .int (hi (rx_ct c0 + 3) j1), .int z4, rx_no] [] (rx_hp L t hi4 hl4 v4) Q
        refine rx_aw_s 1 (pc := 124) rfl ?_
        show rx_aw 63 125 [.ref 76, .ref (rx_ct c0), .int a1, .int (hi (rx_ct c0 + 3) j1), .int z4, rx_no] [.ref (rx_ct c0)] (rx_hp L t hi4 hl4 v4) Q
        refine rx_w_cg hc0 (pc := 125) rfl (by decide) (by decide) ?_
        show rx_aw 63 128 [.ref 76, .ref (rx_ct c0), .int a1, .int (hi (rx_ct c0 + 3) j1), .int z4, rx_no] [.int (hi4 (rx_ct c0) 9)] (rx_hp L t hi4 hl4 v4) Q
        refine rx_aw_s 1 (pc := 128) rfl ?_
        refine rx_w_if (c := (hi4 (rx_ct c0) 9) < 0) ⟨fun c8 => ?_, fun c8 => ?_⟩
        · have k := k.1 c8
          show rx_aw 63 142 [.ref 76, .ref (rx_ct c0), .int a1, .int (hi (rx_ct c0 + 3) j1), .int z4, rx_no] [] (rx_hp L t hi4 hl4 v4) Q
          refine rx_aw_s 2 (pc := 142) rfl ?_
          refine rx_w_if (c := 0 ≤ z4) ⟨fun c9 => ?_, fun c9 => ?_⟩
          · have k := k.1 c9
            show rx_aw 63 149 [.ref 76, .ref (rx_ct c0), .int a1, .int (hi (rx_ct c0 + 3) j1), .int z4, rx_no] [] (rx_hp L t hi4 hl4 v4) Q
            refine rx_aw_s 2 (pc := 149) rfl ?_
            show rx_aw 63 152 [.ref 76, .ref (rx_ct c0), .int a1, .int (hi (rx_ct c0 + 3) j1), .int z4, rx_no] [.int z4, .ref (rx_ct c0)] (rx_hp L t hi4 hl4 v4) Q
            refine rx_w_cp hc0 (pc := 152) rfl rfl (by decide) ?_
            show rx_aw 63 155 [.ref 76, .ref (rx_ct c0), .int a1, .int (hi (rx_ct c0 + 3) j1), .int z4, rx_no] [] (rx_hp L t (rx_u hi4 (rx_ct c0) 7 z4) hl4 v4) Q
            refine rx_aw_s 2 (pc := 155) rfl ?_
            show rx_aw 63 157 [.ref 76, .ref (rx_ct c0), .int a1, .int (hi (rx_ct c0 + 3) j1), .int z4, rx_no] [.int 1, .ref (rx_ct c0)] (rx_hp L t (rx_u hi4 (rx_ct c0) 7 z4) hl4 v4) Q
            refine rx_w_cz hc0 (pc := 157) rfl rfl (by decide) ⟨by decide, ?_⟩
            show rx_aw 63 160 [.ref 76, .ref (rx_ct c0), .int a1, .int (hi (rx_ct c0 + 3) j1), .int z4, rx_no] [] (rx_hp L t (rx_u (rx_u hi4 (rx_ct c0) 7 z4) (rx_ct c0) 11 1) hl4 v4) Q
            refine rx_aw_s 2 (pc := 160) rfl ?_
            show rx_aw 63 164 [.ref 76, .ref (rx_ct c0), .int a1, .int (hi (rx_ct c0 + 3) j1), .int z4, rx_no] [.ref 13] (rx_hp L t (rx_u (rx_u hi4 (rx_ct c0) 7 z4) (rx_ct c0) 11 1) hl4 v4) Q
            refine rx_w_callV (j := 41) (pc := 164) rfl rfl rfl rfl rfl ?_
            refine rx_aw.mono k (fun r h2 k => ?_)
            obtain ⟨rfl, hi10, hl10, v10, rfl, k⟩ := k
            refine ⟨rfl, ?_⟩
            show rx_aw 63 167 [.ref 76, .ref (rx_ct c0), .int a1, .int (hi (rx_ct c0 + 3) j1), .int z4, rx_no] [] (rx_hp L t hi10 hl10 v10) Q
            refine rx_aw_s 1 (pc := 167) rfl ?_
            show rx_aw 63 168 [.ref 76, .ref (rx_ct c0), .int a1, .int (hi (rx_ct c0 + 3) j1), .int z4, rx_no] [.int 1] (rx_hp L t hi10 hl10 v10) Q
            exact rx_aw_ret (pc := 168) rfl k
          · have k := k.2 c9
            show rx_aw 63 147 [.ref 76, .ref (rx_ct c0), .int a1, .int (hi (rx_ct c0 + 3) j1), .int z4, rx_no] [] (rx_hp L t hi4 hl4 v4) Q
            refine rx_aw_s 1 (pc := 147) rfl ?_
            show rx_aw 63 148 [.ref 76, .ref (rx_ct c0), .int a1, .int (hi (rx_ct c0 + 3) j1), .int z4, rx_no] [.int 0] (rx_hp L t hi4 hl4 v4) Q
            exact rx_aw_ret (pc := 148) rfl k
        · have k := k.2 c8
          show rx_aw 63 131 [.ref 76, .ref (rx_ct c0), .int a1, .int (hi (rx_ct c0 + 3) j1), .int z4, rx_no] [] (rx_hp L t hi4 hl4 v4) Q
          refine rx_aw_s 4 (pc := 131) rfl ?_
          show rx_aw 63 137 [.ref 76, .ref (rx_ct c0), .int a1, .int (hi (rx_ct c0 + 3) j1), .int z4, rx_no] [.int z4, .int 6, .ref (rx_ct c0), .ref 76] (rx_hp L t hi4 hl4 v4) Q
          refine rx_w_callI (j := 83) (pc := 137) rfl rfl rfl rfl rfl ?_
          refine rx_aw.mono k (fun r h2 k => ?_)
          obtain ⟨z11, rfl, hi11, hl11, v11, rfl, k⟩ := k
          refine ⟨z11, rfl, ?_⟩
          show rx_aw 63 140 [.ref 76, .ref (rx_ct c0), .int a1, .int (hi (rx_ct c0 + 3) j1), .int z4, rx_no] [.int z11] (rx_hp L t hi11 hl11 v11) Q
          refine rx_aw_s 3 (pc := 140) rfl ?_
          refine rx_w_if (c := 0 ≤ z11) ⟨fun c12 => ?_, fun c12 => ?_⟩
          · have k := k.1 c12
            show rx_aw 63 149 [.ref 76, .ref (rx_ct c0), .int a1, .int (hi (rx_ct c0 + 3) j1), .int z11, rx_no] [] (rx_hp L t hi11 hl11 v11) Q
            refine rx_aw_s 2 (pc := 149) rfl ?_
            show rx_aw 63 152 [.ref 76, .ref (rx_ct c0), .int a1, .int (hi (rx_ct c0 + 3) j1), .int z11, rx_no] [.int z11, .ref (rx_ct c0)] (rx_hp L t hi11 hl11 v11) Q
            refine rx_w_cp hc0 (pc := 152) rfl rfl (by decide) ?_
            show rx_aw 63 155 [.ref 76, .ref (rx_ct c0), .int a1, .int (hi (rx_ct c0 + 3) j1), .int z11, rx_no] [] (rx_hp L t (rx_u hi11 (rx_ct c0) 7 z11) hl11 v11) Q
            refine rx_aw_s 2 (pc := 155) rfl ?_
            show rx_aw 63 157 [.ref 76, .ref (rx_ct c0), .int a1, .int (hi (rx_ct c0 + 3) j1), .int z11, rx_no] [.int 1, .ref (rx_ct c0)] (rx_hp L t (rx_u hi11 (rx_ct c0) 7 z11) hl11 v11) Q
            refine rx_w_cz hc0 (pc := 157) rfl rfl (by decide) ⟨by decide, ?_⟩
            show rx_aw 63 160 [.ref 76, .ref (rx_ct c0), .int a1, .int (hi (rx_ct c0 + 3) j1), .int z11, rx_no] [] (rx_hp L t (rx_u (rx_u hi11 (rx_ct c0) 7 z11) (rx_ct c0) 11 1) hl11 v11) Q
            refine rx_aw_s 2 (pc := 160) rfl ?_
            show rx_aw 63 164 [.ref 76, .ref (rx_ct c0), .int a1, .int (hi (rx_ct c0 + 3) j1), .int z11, rx_no] [.ref 13] (rx_hp L t (rx_u (rx_u hi11 (rx_ct c0) 7 z11) (rx_ct c0) 11 1) hl11 v11) Q
            refine rx_w_callV (j := 41) (pc := 164) rfl rfl rfl rfl rfl ?_
            refine rx_aw.mono k (fun r h2 k => ?_)
            obtain ⟨rfl, hi13, hl13, v13, rfl, k⟩ := k
            refine ⟨rfl, ?_⟩
            show rx_aw 63 167 [.ref 76, .ref (rx_ct c0), .int a1, .int (hi (rx_ct c0 + 3) j1), .int z11, rx_no] [] (rx_hp L t hi13 hl13 v13) Q
            refine rx_aw_s 1 (pc := 167) rfl ?_
            show rx_aw 63 168 [.ref 76, .ref (rx_ct c0), .int a1, .int (hi (rx_ct c0 + 3) j1), .int z11, rx_no] [.int 1] (rx_hp L t hi13 hl13 v13) Q
            exact rx_aw_ret (pc := 168) rfl k
          · have k := k.2 c12
            show rx_aw 63 147 [.ref 76, .ref (rx_ct c0), .int a1, .int (hi (rx_ct c0 + 3) j1), .int z11, rx_no] [] (rx_hp L t hi11 hl11 v11) Q
            refine rx_aw_s 1 (pc := 147) rfl ?_
            show rx_aw 63 148 [.ref 76, .ref (rx_ct c0), .int a1, .int (hi (rx_ct c0 + 3) j1), .int z11, rx_no] [.int 0] (rx_hp L t hi11 hl11 v11) Q
            exact rx_aw_ret (pc := 148) rfl k
    · have k := k.2 c3
      show rx_aw 63 96 [.ref 76, .ref (rx_ct c0), .int a1, .int (hi (rx_ct c0 + 3) j1), .int a1, rx_no] [] (rx_hp L t hi hl v) Q
      refine rx_aw_s 5 (pc := 96) rfl ?_
      refine rx_w_if (c := (-1) < 0) ⟨fun c14 => ?_, fun c14 => ?_⟩
      · have k := k.1 c14
        show rx_aw 63 142 [.ref 76, .ref (rx_ct c0), .int a1, .int (hi (rx_ct c0 + 3) j1), .int (-1), rx_no] [] (rx_hp L t hi hl v) Q
        refine rx_aw_s 2 (pc := 142) rfl ?_
        refine rx_w_if (c := 0 ≤ (-1)) ⟨fun c15 => ?_, fun c15 => ?_⟩
        · have k := k.1 c15
          show rx_aw 63 149 [.ref 76, .ref (rx_ct c0), .int a1, .int (hi (rx_ct c0 + 3) j1), .int (-1), rx_no] [] (rx_hp L t hi hl v) Q
          refine rx_aw_s 2 (pc := 149) rfl ?_
          show rx_aw 63 152 [.ref 76, .ref (rx_ct c0), .int a1, .int (hi (rx_ct c0 + 3) j1), .int (-1), rx_no] [.int (-1), .ref (rx_ct c0)] (rx_hp L t hi hl v) Q
          refine rx_w_cp hc0 (pc := 152) rfl rfl (by decide) ?_
          show rx_aw 63 155 [.ref 76, .ref (rx_ct c0), .int a1, .int (hi (rx_ct c0 + 3) j1), .int (-1), rx_no] [] (rx_hp L t (rx_u hi (rx_ct c0) 7 (-1)) hl v) Q
          refine rx_aw_s 2 (pc := 155) rfl ?_
          show rx_aw 63 157 [.ref 76, .ref (rx_ct c0), .int a1, .int (hi (rx_ct c0 + 3) j1), .int (-1), rx_no] [.int 1, .ref (rx_ct c0)] (rx_hp L t (rx_u hi (rx_ct c0) 7 (-1)) hl v) Q
          refine rx_w_cz hc0 (pc := 157) rfl rfl (by decide) ⟨by decide, ?_⟩
          show rx_aw 63 160 [.ref 76, .ref (rx_ct c0), .int a1, .int (hi (rx_ct c0 + 3) j1), .int (-1), rx_no] [] (rx_hp L t (rx_u (rx_u hi (rx_ct c0) 7 (-1)) (rx_ct c0) 11 1) hl v) Q
          refine rx_aw_s 2 (pc := 160) rfl ?_
          show rx_aw 63 164 [.ref 76, .ref (rx_ct c0), .int a1, .int (hi (rx_ct c0 + 3) j1), .int (-1), rx_no] [.ref 13] (rx_hp L t (rx_u (rx_u hi (rx_ct c0) 7 (-1)) (rx_ct c0) 11 1) hl v) Q
          refine rx_w_callV (j := 41) (pc := 164) rfl rfl rfl rfl rfl ?_
          refine rx_aw.mono k (fun r h2 k => ?_)
          obtain ⟨rfl, hi16, hl16, v16, rfl, k⟩ := k
          refine ⟨rfl, ?_⟩
          show rx_aw 63 167 [.ref 76, .ref (rx_ct c0), .int a1, .int (hi (rx_ct c0 + 3) j1), .int (-1), rx_no] [] (rx_hp L t hi16 hl16 v16) Q
          refine rx_aw_s 1 (pc := 167) rfl ?_
          show rx_aw 63 168 [.ref 76, .ref (rx_ct c0), .int a1, .int (hi (rx_ct c0 + 3) j1), .int (-1), rx_no] [.int 1] (rx_hp L t hi16 hl16 v16) Q
          exact rx_aw_ret (pc := 168) rfl k
        · have k := k.2 c15
          show rx_aw 63 147 [.ref 76, .ref (rx_ct c0), .int a1, .int (hi (rx_ct c0 + 3) j1), .int (-1), rx_no] [] (rx_hp L t hi hl v) Q
          refine rx_aw_s 1 (pc := 147) rfl ?_
          show rx_aw 63 148 [.ref 76, .ref (rx_ct c0), .int a1, .int (hi (rx_ct c0 + 3) j1), .int (-1), rx_no] [.int 0] (rx_hp L t hi hl v) Q
          exact rx_aw_ret (pc := 148) rfl k
      · have k := k.2 c14
        show rx_aw 63 124 [.ref 76, .ref (rx_ct c0), .int a1, .int (hi (rx_ct c0 + 3) j1), .int (-1), rx_no] [] (rx_hp L t hi hl v) Q
        refine rx_aw_s 1 (pc := 124) rfl ?_
        show rx_aw 63 125 [.ref 76, .ref (rx_ct c0), .int a1, .int (hi (rx_ct c0 + 3) j1), .int (-1), rx_no] [.ref (rx_ct c0)] (rx_hp L t hi hl v) Q
        refine rx_w_cg hc0 (pc := 125) rfl (by decide) (by decide) ?_
        show rx_aw 63 128 [.ref 76, .ref (rx_ct c0), .int a1, .int (hi (rx_ct c0 + 3) j1), .int (-1), rx_no] [.int (hi (rx_ct c0) 9)] (rx_hp L t hi hl v) Q
        refine rx_aw_s 1 (pc := 128) rfl ?_
        refine rx_w_if (c := (hi (rx_ct c0) 9) < 0) ⟨fun c17 => ?_, fun c17 => ?_⟩
        · have k := k.1 c17
          show rx_aw 63 142 [.ref 76, .ref (rx_ct c0), .int a1, .int (hi (rx_ct c0 + 3) j1), .int (-1), rx_no] [] (rx_hp L t hi hl v) Q
          refine rx_aw_s 2 (pc := 142) rfl ?_
          refine rx_w_if (c := 0 ≤ (-1)) ⟨fun c18 => ?_, fun c18 => ?_⟩
          · have k := k.1 c18
            show rx_aw 63 149 [.ref 76, .ref (rx_ct c0), .int a1, .int (hi (rx_ct c0 + 3) j1), .int (-1), rx_no] [] (rx_hp L t hi hl v) Q
            refine rx_aw_s 2 (pc := 149) rfl ?_
            show rx_aw 63 152 [.ref 76, .ref (rx_ct c0), .int a1, .int (hi (rx_ct c0 + 3) j1), .int (-1), rx_no] [.int (-1), .ref (rx_ct c0)] (rx_hp L t hi hl v) Q
            refine rx_w_cp hc0 (pc := 152) rfl rfl (by decide) ?_
            show rx_aw 63 155 [.ref 76, .ref (rx_ct c0), .int a1, .int (hi (rx_ct c0 + 3) j1), .int (-1), rx_no] [] (rx_hp L t (rx_u hi (rx_ct c0) 7 (-1)) hl v) Q
            refine rx_aw_s 2 (pc := 155) rfl ?_
            show rx_aw 63 157 [.ref 76, .ref (rx_ct c0), .int a1, .int (hi (rx_ct c0 + 3) j1), .int (-1), rx_no] [.int 1, .ref (rx_ct c0)] (rx_hp L t (rx_u hi (rx_ct c0) 7 (-1)) hl v) Q
            refine rx_w_cz hc0 (pc := 157) rfl rfl (by decide) ⟨by decide, ?_⟩
            show rx_aw 63 160 [.ref 76, .ref (rx_ct c0), .int a1, .int (hi (rx_ct c0 + 3) j1), .int (-1), rx_no] [] (rx_hp L t (rx_u (rx_u hi (rx_ct c0) 7 (-1)) (rx_ct c0) 11 1) hl v) Q
            refine rx_aw_s 2 (pc := 160) rfl ?_
            show rx_aw 63 164 [.ref 76, .ref (rx_ct c0), .int a1, .int (hi (rx_ct c0 + 3) j1), .int (-1), rx_no] [.ref 13] (rx_hp L t (rx_u (rx_u hi (rx_ct c0) 7 (-1)) (rx_ct c0) 11 1) hl v) Q
            refine rx_w_callV (j := 41) (pc := 164) rfl rfl rfl rfl rfl ?_
            refine rx_aw.mono k (fun r h2 k => ?_)
            obtain ⟨rfl, hi19, hl19, v19, rfl, k⟩ := k
            refine ⟨rfl, ?_⟩
            show rx_aw 63 167 [.ref 76, .ref (rx_ct c0), .int a1, .int (hi (rx_ct c0 + 3) j1), .int (-1), rx_no] [] (rx_hp L t hi19 hl19 v19) Q
            refine rx_aw_s 1 (pc := 167) rfl ?_
            show rx_aw 63 168 [.ref 76, .ref (rx_ct c0), .int a1, .int (hi (rx_ct c0 + 3) j1), .int (-1), rx_no] [.int 1] (rx_hp L t hi19 hl19 v19) Q
            exact rx_aw_ret (pc := 168) rfl k
          · have k := k.2 c18
            show rx_aw 63 147 [.ref 76, .ref (rx_ct c0), .int a1, .int (hi (rx_ct c0 + 3) j1), .int (-1), rx_no] [] (rx_hp L t hi hl v) Q
            refine rx_aw_s 1 (pc := 147) rfl ?_
            show rx_aw 63 148 [.ref 76, .ref (rx_ct c0), .int a1, .int (hi (rx_ct c0 + 3) j1), .int (-1), rx_no] [.int 0] (rx_hp L t hi hl v) Q
            exact rx_aw_ret (pc := 148) rfl k
        · have k := k.2 c17
          show rx_aw 63 131 [.ref 76, .ref (rx_ct c0), .int a1, .int (hi (rx_ct c0 + 3) j1), .int (-1), rx_no] [] (rx_hp L t hi hl v) Q
          refine rx_aw_s 4 (pc := 131) rfl ?_
          show rx_aw 63 137 [.ref 76, .ref (rx_ct c0), .int a1, .int (hi (rx_ct c0 + 3) j1), .int (-1), rx_no] [.int (-1), .int 6, .ref (rx_ct c0), .ref 76] (rx_hp L t hi hl v) Q
          refine rx_w_callI (j := 83) (pc := 137) rfl rfl rfl rfl rfl ?_
          refine rx_aw.mono k (fun r h2 k => ?_)
          obtain ⟨z20, rfl, hi20, hl20, v20, rfl, k⟩ := k
          refine ⟨z20, rfl, ?_⟩
          show rx_aw 63 140 [.ref 76, .ref (rx_ct c0), .int a1, .int (hi (rx_ct c0 + 3) j1), .int (-1), rx_no] [.int z20] (rx_hp L t hi20 hl20 v20) Q
          refine rx_aw_s 3 (pc := 140) rfl ?_
          refine rx_w_if (c := 0 ≤ z20) ⟨fun c21 => ?_, fun c21 => ?_⟩
          · have k := k.1 c21
            show rx_aw 63 149 [.ref 76, .ref (rx_ct c0), .int a1, .int (hi (rx_ct c0 + 3) j1), .int z20, rx_no] [] (rx_hp L t hi20 hl20 v20) Q
            refine rx_aw_s 2 (pc := 149) rfl ?_
            show rx_aw 63 152 [.ref 76, .ref (rx_ct c0), .int a1, .int (hi (rx_ct c0 + 3) j1), .int z20, rx_no] [.int z20, .ref (rx_ct c0)] (rx_hp L t hi20 hl20 v20) Q
            refine rx_w_cp hc0 (pc := 152) rfl rfl (by decide) ?_
            show rx_aw 63 155 [.ref 76, .ref (rx_ct c0), .int a1, .int (hi (rx_ct c0 + 3) j1), .int z20, rx_no] [] (rx_hp L t (rx_u hi20 (rx_ct c0) 7 z20) hl20 v20) Q
            refine rx_aw_s 2 (pc := 155) rfl ?_
            show rx_aw 63 157 [.ref 76, .ref (rx_ct c0), .int a1, .int (hi (rx_ct c0 + 3) j1), .int z20, rx_no] [.int 1, .ref (rx_ct c0)] (rx_hp L t (rx_u hi20 (rx_ct c0) 7 z20) hl20 v20) Q
            refine rx_w_cz hc0 (pc := 157) rfl rfl (by decide) ⟨by decide, ?_⟩
            show rx_aw 63 160 [.ref 76, .ref (rx_ct c0), .int a1, .int (hi (rx_ct c0 + 3) j1), .int z20, rx_no] [] (rx_hp L t (rx_u (rx_u hi20 (rx_ct c0) 7 z20) (rx_ct c0) 11 1) hl20 v20) Q
            refine rx_aw_s 2 (pc := 160) rfl ?_
            show rx_aw 63 164 [.ref 76, .ref (rx_ct c0), .int a1, .int (hi (rx_ct c0 + 3) j1), .int z20, rx_no] [.ref 13] (rx_hp L t (rx_u (rx_u hi20 (rx_ct c0) 7 z20) (rx_ct c0) 11 1) hl20 v20) Q
            refine rx_w_callV (j := 41) (pc := 164) rfl rfl rfl rfl rfl ?_
            refine rx_aw.mono k (fun r h2 k => ?_)
            obtain ⟨rfl, hi22, hl22, v22, rfl, k⟩ := k
            refine ⟨rfl, ?_⟩
            show rx_aw 63 167 [.ref 76, .ref (rx_ct c0), .int a1, .int (hi (rx_ct c0 + 3) j1), .int z20, rx_no] [] (rx_hp L t hi22 hl22 v22) Q
            refine rx_aw_s 1 (pc := 167) rfl ?_
            show rx_aw 63 168 [.ref 76, .ref (rx_ct c0), .int a1, .int (hi (rx_ct c0 + 3) j1), .int z20, rx_no] [.int 1] (rx_hp L t hi22 hl22 v22) Q
            exact rx_aw_ret (pc := 168) rfl k
          · have k := k.2 c21
            show rx_aw 63 147 [.ref 76, .ref (rx_ct c0), .int a1, .int (hi (rx_ct c0 + 3) j1), .int z20, rx_no] [] (rx_hp L t hi20 hl20 v20) Q
            refine rx_aw_s 1 (pc := 147) rfl ?_
            show rx_aw 63 148 [.ref 76, .ref (rx_ct c0), .int a1, .int (hi (rx_ct c0 + 3) j1), .int z20, rx_no] [.int 0] (rx_hp L t hi20 hl20 v20) Q
            exact rx_aw_ret (pc := 148) rfl k
  · have k := k.2 c2
    show rx_aw 63 17 [.ref 76, .ref (rx_ct c0), .int a1, .int (hi (rx_ct c0 + 3) j1), .int a1, rx_no] [] (rx_hp L t hi hl v) Q
    refine rx_aw_s 1 (pc := 17) rfl ?_
    show rx_aw 63 18 [.ref 76, .ref (rx_ct c0), .int a1, .int (hi (rx_ct c0 + 3) j1), .int a1, rx_no] [.int (hi (rx_ct c0 + 3) j1)] (rx_hp L t hi hl v) Q
    refine rx_w_callI (j := 48) (pc := 18) rfl rfl rfl rfl rfl ?_
    refine rx_aw.mono k (fun r h2 k => ?_)
    obtain ⟨z23, rfl, hi23, hl23, v23, rfl, k⟩ := k
    refine ⟨z23, rfl, ?_⟩
    show rx_aw 63 21 [.ref 76, .ref (rx_ct c0), .int a1, .int (hi (rx_ct c0 + 3) j1), .int a1, rx_no] [.int z23] (rx_hp L t hi23 hl23 v23) Q
    refine rx_aw_s 1 (pc := 21) rfl ?_
    show rx_aw 63 22 [.ref 76, .ref (rx_ct c0), .int a1, .int (hi (rx_ct c0 + 3) j1), .int a1, rx_no] [.ref (rx_ct c0), .int z23] (rx_hp L t hi23 hl23 v23) Q
    refine rx_w_cg hc0 (pc := 22) rfl (by decide) (by decide) ?_
    show rx_aw 63 25 [.ref 76, .ref (rx_ct c0), .int a1, .int (hi (rx_ct c0 + 3) j1), .int a1, rx_no] [.int (hi23 (rx_ct c0) 9), .int z23] (rx_hp L t hi23 hl23 v23) Q
    refine rx_aw_s 1 (pc := 25) rfl ?_
    refine rx_w_if (c := z23 = (hi23 (rx_ct c0) 9)) ⟨fun c24 => ?_, fun c24 => ?_⟩
    · have k := k.1 c24
      show rx_aw 63 91 [.ref 76, .ref (rx_ct c0), .int a1, .int (hi (rx_ct c0 + 3) j1), .int a1, rx_no] [] (rx_hp L t hi23 hl23 v23) Q
      refine rx_aw_s 2 (pc := 91) rfl ?_
      refine rx_w_if (c := 0 ≤ a1) ⟨fun c25 => ?_, fun c25 => ?_⟩
      · have k := k.1 c25
        show rx_aw 63 100 [.ref 76, .ref (rx_ct c0), .int a1, .int (hi (rx_ct c0 + 3) j1), .int a1, rx_no] [] (rx_hp L t hi23 hl23 v23) Q
        refine rx_aw_s 6 (pc := 100) rfl ?_
        show rx_aw 63 109 [.ref 76, .ref (rx_ct c0), .int a1, .int (hi (rx_ct c0 + 3) j1), .int a1, rx_no] [.ref (rx_ct c0), .int a1, .int (hi (rx_ct c0 + 3) j1), .ref (rx_ct c0), .ref 77] (rx_hp L t hi23 hl23 v23) Q
        refine rx_w_cg hc0 (pc := 109) rfl (by decide) (by decide) ?_
        show rx_aw 63 112 [.ref 76, .ref (rx_ct c0), .int a1, .int (hi (rx_ct c0 + 3) j1), .int a1, rx_no] [.int (hi23 (rx_ct c0) 8), .int a1, .int (hi (rx_ct c0 + 3) j1), .ref (rx_ct c0), .ref 77] (rx_hp L t hi23 hl23 v23) Q
        refine rx_aw_s 2 (pc := 112) rfl ?_
        show rx_aw 63 114 [.ref 76, .ref (rx_ct c0), .int a1, .int (hi (rx_ct c0 + 3) j1), .int a1, rx_no] [.int 1, .int (-1), .int (hi23 (rx_ct c0) 8), .int a1, .int (hi (rx_ct c0 + 3) j1), .ref (rx_ct c0), .ref 77] (rx_hp L t hi23 hl23 v23) Q
        refine rx_w_callI (j := 64) (pc := 114) rfl rfl rfl rfl rfl ?_
        refine rx_aw.mono k (fun r h2 k => ?_)
        obtain ⟨z26, rfl, hi26, hl26, v26, rfl, k⟩ := k
        refine ⟨z26, rfl, ?_⟩
        show rx_aw 63 117 [.ref 76, .ref (rx_ct c0), .int a1, .int (hi (rx_ct c0 + 3) j1), .int a1, rx_no] [.int z26] (rx_hp L t hi26 hl26 v26) Q
        refine rx_aw_s 3 (pc := 117) rfl ?_
        refine rx_w_if (c := z26 < 0) ⟨fun c27 => ?_, fun c27 => ?_⟩
        · have k := k.1 c27
          show rx_aw 63 142 [.ref 76, .ref (rx_ct c0), .int a1, .int (hi (rx_ct c0 + 3) j1), .int z26, rx_no] [] (rx_hp L t hi26 hl26 v26) Q
          refine rx_aw_s 2 (pc := 142) rfl ?_
          refine rx_w_if (c := 0 ≤ z26) ⟨fun c28 => ?_, fun c28 => ?_⟩
          · have k := k.1 c28
            show rx_aw 63 149 [.ref 76, .ref (rx_ct c0), .int a1, .int (hi (rx_ct c0 + 3) j1), .int z26, rx_no] [] (rx_hp L t hi26 hl26 v26) Q
            refine rx_aw_s 2 (pc := 149) rfl ?_
            show rx_aw 63 152 [.ref 76, .ref (rx_ct c0), .int a1, .int (hi (rx_ct c0 + 3) j1), .int z26, rx_no] [.int z26, .ref (rx_ct c0)] (rx_hp L t hi26 hl26 v26) Q
            refine rx_w_cp hc0 (pc := 152) rfl rfl (by decide) ?_
            show rx_aw 63 155 [.ref 76, .ref (rx_ct c0), .int a1, .int (hi (rx_ct c0 + 3) j1), .int z26, rx_no] [] (rx_hp L t (rx_u hi26 (rx_ct c0) 7 z26) hl26 v26) Q
            refine rx_aw_s 2 (pc := 155) rfl ?_
            show rx_aw 63 157 [.ref 76, .ref (rx_ct c0), .int a1, .int (hi (rx_ct c0 + 3) j1), .int z26, rx_no] [.int 1, .ref (rx_ct c0)] (rx_hp L t (rx_u hi26 (rx_ct c0) 7 z26) hl26 v26) Q
            refine rx_w_cz hc0 (pc := 157) rfl rfl (by decide) ⟨by decide, ?_⟩
            show rx_aw 63 160 [.ref 76, .ref (rx_ct c0), .int a1, .int (hi (rx_ct c0 + 3) j1), .int z26, rx_no] [] (rx_hp L t (rx_u (rx_u hi26 (rx_ct c0) 7 z26) (rx_ct c0) 11 1) hl26 v26) Q
            refine rx_aw_s 2 (pc := 160) rfl ?_
            show rx_aw 63 164 [.ref 76, .ref (rx_ct c0), .int a1, .int (hi (rx_ct c0 + 3) j1), .int z26, rx_no] [.ref 13] (rx_hp L t (rx_u (rx_u hi26 (rx_ct c0) 7 z26) (rx_ct c0) 11 1) hl26 v26) Q
            refine rx_w_callV (j := 41) (pc := 164) rfl rfl rfl rfl rfl ?_
            refine rx_aw.mono k (fun r h2 k => ?_)
            obtain ⟨rfl, hi29, hl29, v29, rfl, k⟩ := k
            refine ⟨rfl, ?_⟩
            show rx_aw 63 167 [.ref 76, .ref (rx_ct c0), .int a1, .int (hi (rx_ct c0 + 3) j1), .int z26, rx_no] [] (rx_hp L t hi29 hl29 v29) Q
            refine rx_aw_s 1 (pc := 167) rfl ?_
            show rx_aw 63 168 [.ref 76, .ref (rx_ct c0), .int a1, .int (hi (rx_ct c0 + 3) j1), .int z26, rx_no] [.int 1] (rx_hp L t hi29 hl29 v29) Q
            exact rx_aw_ret (pc := 168) rfl k
          · have k := k.2 c28
            show rx_aw 63 147 [.ref 76, .ref (rx_ct c0), .int a1, .int (hi (rx_ct c0 + 3) j1), .int z26, rx_no] [] (rx_hp L t hi26 hl26 v26) Q
            refine rx_aw_s 1 (pc := 147) rfl ?_
            show rx_aw 63 148 [.ref 76, .ref (rx_ct c0), .int a1, .int (hi (rx_ct c0 + 3) j1), .int z26, rx_no] [.int 0] (rx_hp L t hi26 hl26 v26) Q
            exact rx_aw_ret (pc := 148) rfl k
        · have k := k.2 c27
          show rx_aw 63 124 [.ref 76, .ref (rx_ct c0), .int a1, .int (hi (rx_ct c0 + 3) j1), .int z26, rx_no] [] (rx_hp L t hi26 hl26 v26) Q
          refine rx_aw_s 1 (pc := 124) rfl ?_
          show rx_aw 63 125 [.ref 76, .ref (rx_ct c0), .int a1, .int (hi (rx_ct c0 + 3) j1), .int z26, rx_no] [.ref (rx_ct c0)] (rx_hp L t hi26 hl26 v26) Q
          refine rx_w_cg hc0 (pc := 125) rfl (by decide) (by decide) ?_
          show rx_aw 63 128 [.ref 76, .ref (rx_ct c0), .int a1, .int (hi (rx_ct c0 + 3) j1), .int z26, rx_no] [.int (hi26 (rx_ct c0) 9)] (rx_hp L t hi26 hl26 v26) Q
          refine rx_aw_s 1 (pc := 128) rfl ?_
          refine rx_w_if (c := (hi26 (rx_ct c0) 9) < 0) ⟨fun c30 => ?_, fun c30 => ?_⟩
          · have k := k.1 c30
            show rx_aw 63 142 [.ref 76, .ref (rx_ct c0), .int a1, .int (hi (rx_ct c0 + 3) j1), .int z26, rx_no] [] (rx_hp L t hi26 hl26 v26) Q
            refine rx_aw_s 2 (pc := 142) rfl ?_
            refine rx_w_if (c := 0 ≤ z26) ⟨fun c31 => ?_, fun c31 => ?_⟩
            · have k := k.1 c31
              show rx_aw 63 149 [.ref 76, .ref (rx_ct c0), .int a1, .int (hi (rx_ct c0 + 3) j1), .int z26, rx_no] [] (rx_hp L t hi26 hl26 v26) Q
              refine rx_aw_s 2 (pc := 149) rfl ?_
              show rx_aw 63 152 [.ref 76, .ref (rx_ct c0), .int a1, .int (hi (rx_ct c0 + 3) j1), .int z26, rx_no] [.int z26, .ref (rx_ct c0)] (rx_hp L t hi26 hl26 v26) Q
              refine rx_w_cp hc0 (pc := 152) rfl rfl (by decide) ?_
              show rx_aw 63 155 [.ref 76, .ref (rx_ct c0), .int a1, .int (hi (rx_ct c0 + 3) j1), .int z26, rx_no] [] (rx_hp L t (rx_u hi26 (rx_ct c0) 7 z26) hl26 v26) Q
              refine rx_aw_s 2 (pc := 155) rfl ?_
              show rx_aw 63 157 [.ref 76, .ref (rx_ct c0), .int a1, .int (hi (rx_ct c0 + 3) j1), .int z26, rx_no] [.int 1, .ref (rx_ct c0)] (rx_hp L t (rx_u hi26 (rx_ct c0) 7 z26) hl26 v26) Q
              refine rx_w_cz hc0 (pc := 157) rfl rfl (by decide) ⟨by decide, ?_⟩
              show rx_aw 63 160 [.ref 76, .ref (rx_ct c0), .int a1, .int (hi (rx_ct c0 + 3) j1), .int z26, rx_no] [] (rx_hp L t (rx_u (rx_u hi26 (rx_ct c0) 7 z26) (rx_ct c0) 11 1) hl26 v26) Q
              refine rx_aw_s 2 (pc := 160) rfl ?_
              show rx_aw 63 164 [.ref 76, .ref (rx_ct c0), .int a1, .int (hi (rx_ct c0 + 3) j1), .int z26, rx_no] [.ref 13] (rx_hp L t (rx_u (rx_u hi26 (rx_ct c0) 7 z26) (rx_ct c0) 11 1) hl26 v26) Q
              refine rx_w_callV (j := 41) (pc := 164) rfl rfl rfl rfl rfl ?_
              refine rx_aw.mono k (fun r h2 k => ?_)
              obtain ⟨rfl, hi32, hl32, v32, rfl, k⟩ := k
              refine ⟨rfl, ?_⟩
              show rx_aw 63 167 [.ref 76, .ref (rx_ct c0), .int a1, .int (hi (rx_ct c0 + 3) j1), .int z26, rx_no] [] (rx_hp L t hi32 hl32 v32) Q
              refine rx_aw_s 1 (pc := 167) rfl ?_
              show rx_aw 63 168 [.ref 76, .ref (rx_ct c0), .int a1, .int (hi (rx_ct c0 + 3) j1), .int z26, rx_no] [.int 1] (rx_hp L t hi32 hl32 v32) Q
              exact rx_aw_ret (pc := 168) rfl k
            · have k := k.2 c31
              show rx_aw 63 147 [.ref 76, .ref (rx_ct c0), .int a1, .int (hi (rx_ct c0 + 3) j1), .int z26, rx_no] [] (rx_hp L t hi26 hl26 v26) Q
              refine rx_aw_s 1 (pc := 147) rfl ?_
              show rx_aw 63 148 [.ref 76, .ref (rx_ct c0), .int a1, .int (hi (rx_ct c0 + 3) j1), .int z26, rx_no] [.int 0] (rx_hp L t hi26 hl26 v26) Q
              exact rx_aw_ret (pc := 148) rfl k
          · have k := k.2 c30
            show rx_aw 63 131 [.ref 76, .ref (rx_ct c0), .int a1, .int (hi (rx_ct c0 + 3) j1), .int z26, rx_no] [] (rx_hp L t hi26 hl26 v26) Q
            refine rx_aw_s 4 (pc := 131) rfl ?_
            show rx_aw 63 137 [.ref 76, .ref (rx_ct c0), .int a1, .int (hi (rx_ct c0 + 3) j1), .int z26, rx_no] [.int z26, .int 6, .ref (rx_ct c0), .ref 76] (rx_hp L t hi26 hl26 v26) Q
            refine rx_w_callI (j := 83) (pc := 137) rfl rfl rfl rfl rfl ?_
            refine rx_aw.mono k (fun r h2 k => ?_)
            obtain ⟨z33, rfl, hi33, hl33, v33, rfl, k⟩ := k
            refine ⟨z33, rfl, ?_⟩
            show rx_aw 63 140 [.ref 76, .ref (rx_ct c0), .int a1, .int (hi (rx_ct c0 + 3) j1), .int z26, rx_no] [.int z33] (rx_hp L t hi33 hl33 v33) Q
            refine rx_aw_s 3 (pc := 140) rfl ?_
            refine rx_w_if (c := 0 ≤ z33) ⟨fun c34 => ?_, fun c34 => ?_⟩
            · have k := k.1 c34
              show rx_aw 63 149 [.ref 76, .ref (rx_ct c0), .int a1, .int (hi (rx_ct c0 + 3) j1), .int z33, rx_no] [] (rx_hp L t hi33 hl33 v33) Q
              refine rx_aw_s 2 (pc := 149) rfl ?_
              show rx_aw 63 152 [.ref 76, .ref (rx_ct c0), .int a1, .int (hi (rx_ct c0 + 3) j1), .int z33, rx_no] [.int z33, .ref (rx_ct c0)] (rx_hp L t hi33 hl33 v33) Q
              refine rx_w_cp hc0 (pc := 152) rfl rfl (by decide) ?_
              show rx_aw 63 155 [.ref 76, .ref (rx_ct c0), .int a1, .int (hi (rx_ct c0 + 3) j1), .int z33, rx_no] [] (rx_hp L t (rx_u hi33 (rx_ct c0) 7 z33) hl33 v33) Q
              refine rx_aw_s 2 (pc := 155) rfl ?_
              show rx_aw 63 157 [.ref 76, .ref (rx_ct c0), .int a1, .int (hi (rx_ct c0 + 3) j1), .int z33, rx_no] [.int 1, .ref (rx_ct c0)] (rx_hp L t (rx_u hi33 (rx_ct c0) 7 z33) hl33 v33) Q
              refine rx_w_cz hc0 (pc := 157) rfl rfl (by decide) ⟨by decide, ?_⟩
              show rx_aw 63 160 [.ref 76, .ref (rx_ct c0), .int a1, .int (hi (rx_ct c0 + 3) j1), .int z33, rx_no] [] (rx_hp L t (rx_u (rx_u hi33 (rx_ct c0) 7 z33) (rx_ct c0) 11 1) hl33 v33) Q
              refine rx_aw_s 2 (pc := 160) rfl ?_
              show rx_aw 63 164 [.ref 76, .ref (rx_ct c0), .int a1, .int (hi (rx_ct c0 + 3) j1), .int z33, rx_no] [.ref 13] (rx_hp L t (rx_u (rx_u hi33 (rx_ct c0) 7 z33) (rx_ct c0) 11 1) hl33 v33) Q
              refine rx_w_callV (j := 41) (pc := 164) rfl rfl rfl rfl rfl ?_
              refine rx_aw.mono k (fun r h2 k => ?_)
              obtain ⟨rfl, hi35, hl35, v35, rfl, k⟩ := k
              refine ⟨rfl, ?_⟩
              show rx_aw 63 167 [.ref 76, .ref (rx_ct c0), .int a1, .int (hi (rx_ct c0 + 3) j1), .int z33, rx_no] [] (rx_hp L t hi35 hl35 v35) Q
              refine rx_aw_s 1 (pc := 167) rfl ?_
              show rx_aw 63 168 [.ref 76, .ref (rx_ct c0), .int a1, .int (hi (rx_ct c0 + 3) j1), .int z33, rx_no] [.int 1] (rx_hp L t hi35 hl35 v35) Q
              exact rx_aw_ret (pc := 168) rfl k
            · have k := k.2 c34
              show rx_aw 63 147 [.ref 76, .ref (rx_ct c0), .int a1, .int (hi (rx_ct c0 + 3) j1), .int z33, rx_no] [] (rx_hp L t hi33 hl33 v33) Q
              refine rx_aw_s 1 (pc := 147) rfl ?_
              show rx_aw 63 148 [.ref 76, .ref (rx_ct c0), .int a1, .int (hi (rx_ct c0 + 3) j1), .int z33, rx_no] [.int 0] (rx_hp L t hi33 hl33 v33) Q
              exact rx_aw_ret (pc := 148) rfl k
      · have k := k.2 c25
        show rx_aw 63 96 [.ref 76, .ref (rx_ct c0), .int a1, .int (hi (rx_ct c0 + 3) j1), .int a1, rx_no] [] (rx_hp L t hi23 hl23 v23) Q
        refine rx_aw_s 5 (pc := 96) rfl ?_
        refine rx_w_if (c := (-1) < 0) ⟨fun c36 => ?_, fun c36 => ?_⟩
        · have k := k.1 c36
          show rx_aw 63 142 [.ref 76, .ref (rx_ct c0), .int a1, .int (hi (rx_ct c0 + 3) j1), .int (-1), rx_no] [] (rx_hp L t hi23 hl23 v23) Q
          refine rx_aw_s 2 (pc := 142) rfl ?_
          refine rx_w_if (c := 0 ≤ (-1)) ⟨fun c37 => ?_, fun c37 => ?_⟩
          · have k := k.1 c37
            show rx_aw 63 149 [.ref 76, .ref (rx_ct c0), .int a1, .int (hi (rx_ct c0 + 3) j1), .int (-1), rx_no] [] (rx_hp L t hi23 hl23 v23) Q
            refine rx_aw_s 2 (pc := 149) rfl ?_
            show rx_aw 63 152 [.ref 76, .ref (rx_ct c0), .int a1, .int (hi (rx_ct c0 + 3) j1), .int (-1), rx_no] [.int (-1), .ref (rx_ct c0)] (rx_hp L t hi23 hl23 v23) Q
            refine rx_w_cp hc0 (pc := 152) rfl rfl (by decide) ?_
            show rx_aw 63 155 [.ref 76, .ref (rx_ct c0), .int a1, .int (hi (rx_ct c0 + 3) j1), .int (-1), rx_no] [] (rx_hp L t (rx_u hi23 (rx_ct c0) 7 (-1)) hl23 v23) Q
            refine rx_aw_s 2 (pc := 155) rfl ?_
            show rx_aw 63 157 [.ref 76, .ref (rx_ct c0), .int a1, .int (hi (rx_ct c0 + 3) j1), .int (-1), rx_no] [.int 1, .ref (rx_ct c0)] (rx_hp L t (rx_u hi23 (rx_ct c0) 7 (-1)) hl23 v23) Q
            refine rx_w_cz hc0 (pc := 157) rfl rfl (by decide) ⟨by decide, ?_⟩
            show rx_aw 63 160 [.ref 76, .ref (rx_ct c0), .int a1, .int (hi (rx_ct c0 + 3) j1), .int (-1), rx_no] [] (rx_hp L t (rx_u (rx_u hi23 (rx_ct c0) 7 (-1)) (rx_ct c0) 11 1) hl23 v23) Q
            refine rx_aw_s 2 (pc := 160) rfl ?_
            show rx_aw 63 164 [.ref 76, .ref (rx_ct c0), .int a1, .int (hi (rx_ct c0 + 3) j1), .int (-1), rx_no] [.ref 13] (rx_hp L t (rx_u (rx_u hi23 (rx_ct c0) 7 (-1)) (rx_ct c0) 11 1) hl23 v23) Q
            refine rx_w_callV (j := 41) (pc := 164) rfl rfl rfl rfl rfl ?_
            refine rx_aw.mono k (fun r h2 k => ?_)
            obtain ⟨rfl, hi38, hl38, v38, rfl, k⟩ := k
            refine ⟨rfl, ?_⟩
            show rx_aw 63 167 [.ref 76, .ref (rx_ct c0), .int a1, .int (hi (rx_ct c0 + 3) j1), .int (-1), rx_no] [] (rx_hp L t hi38 hl38 v38) Q
            refine rx_aw_s 1 (pc := 167) rfl ?_
            show rx_aw 63 168 [.ref 76, .ref (rx_ct c0), .int a1, .int (hi (rx_ct c0 + 3) j1), .int (-1), rx_no] [.int 1] (rx_hp L t hi38 hl38 v38) Q
            exact rx_aw_ret (pc := 168) rfl k
          · have k := k.2 c37
            show rx_aw 63 147 [.ref 76, .ref (rx_ct c0), .int a1, .int (hi (rx_ct c0 + 3) j1), .int (-1), rx_no] [] (rx_hp L t hi23 hl23 v23) Q
            refine rx_aw_s 1 (pc := 147) rfl ?_
            show rx_aw 63 148 [.ref 76, .ref (rx_ct c0), .int a1, .int (hi (rx_ct c0 + 3) j1), .int (-1), rx_no] [.int 0] (rx_hp L t hi23 hl23 v23) Q
            exact rx_aw_ret (pc := 148) rfl k
        · have k := k.2 c36
          show rx_aw 63 124 [.ref 76, .ref (rx_ct c0), .int a1, .int (hi (rx_ct c0 + 3) j1), .int (-1), rx_no] [] (rx_hp L t hi23 hl23 v23) Q
          refine rx_aw_s 1 (pc := 124) rfl ?_
          show rx_aw 63 125 [.ref 76, .ref (rx_ct c0), .int a1, .int (hi (rx_ct c0 + 3) j1), .int (-1), rx_no] [.ref (rx_ct c0)] (rx_hp L t hi23 hl23 v23) Q
          refine rx_w_cg hc0 (pc := 125) rfl (by decide) (by decide) ?_
          show rx_aw 63 128 [.ref 76, .ref (rx_ct c0), .int a1, .int (hi (rx_ct c0 + 3) j1), .int (-1), rx_no] [.int (hi23 (rx_ct c0) 9)] (rx_hp L t hi23 hl23 v23) Q
          refine rx_aw_s 1 (pc := 128) rfl ?_
          refine rx_w_if (c := (hi23 (rx_ct c0) 9) < 0) ⟨fun c39 => ?_, fun c39 => ?_⟩
          · have k := k.1 c39
            show rx_aw 63 142 [.ref 76, .ref (rx_ct c0), .int a1, .int (hi (rx_ct c0 + 3) j1), .int (-1), rx_no] [] (rx_hp L t hi23 hl23 v23) Q
            refine rx_aw_s 2 (pc := 142) rfl ?_
            refine rx_w_if (c := 0 ≤ (-1)) ⟨fun c40 => ?_, fun c40 => ?_⟩
            · have k := k.1 c40
              show rx_aw 63 149 [.ref 76, .ref (rx_ct c0), .int a1, .int (hi (rx_ct c0 + 3) j1), .int (-1), rx_no] [] (rx_hp L t hi23 hl23 v23) Q
              refine rx_aw_s 2 (pc := 149) rfl ?_
              show rx_aw 63 152 [.ref 76, .ref (rx_ct c0), .int a1, .int (hi (rx_ct c0 + 3) j1), .int (-1), rx_no] [.int (-1), .ref (rx_ct c0)] (rx_hp L t hi23 hl23 v23) Q
              refine rx_w_cp hc0 (pc := 152) rfl rfl (by decide) ?_
              show rx_aw 63 155 [.ref 76, .ref (rx_ct c0), .int a1, .int (hi (rx_ct c0 + 3) j1), .int (-1), rx_no] [] (rx_hp L t (rx_u hi23 (rx_ct c0) 7 (-1)) hl23 v23) Q
              refine rx_aw_s 2 (pc := 155) rfl ?_
              show rx_aw 63 157 [.ref 76, .ref (rx_ct c0), .int a1, .int (hi (rx_ct c0 + 3) j1), .int (-1), rx_no] [.int 1, .ref (rx_ct c0)] (rx_hp L t (rx_u hi23 (rx_ct c0) 7 (-1)) hl23 v23) Q
              refine rx_w_cz hc0 (pc := 157) rfl rfl (by decide) ⟨by decide, ?_⟩
              show rx_aw 63 160 [.ref 76, .ref (rx_ct c0), .int a1, .int (hi (rx_ct c0 + 3) j1), .int (-1), rx_no] [] (rx_hp L t (rx_u (rx_u hi23 (rx_ct c0) 7 (-1)) (rx_ct c0) 11 1) hl23 v23) Q
              refine rx_aw_s 2 (pc := 160) rfl ?_
              show rx_aw 63 164 [.ref 76, .ref (rx_ct c0), .int a1, .int (hi (rx_ct c0 + 3) j1), .int (-1), rx_no] [.ref 13] (rx_hp L t (rx_u (rx_u hi23 (rx_ct c0) 7 (-1)) (rx_ct c0) 11 1) hl23 v23) Q
              refine rx_w_callV (j := 41) (pc := 164) rfl rfl rfl rfl rfl ?_
              refine rx_aw.mono k (fun r h2 k => ?_)
              obtain ⟨rfl, hi41, hl41, v41, rfl, k⟩ := k
              refine ⟨rfl, ?_⟩
              show rx_aw 63 167 [.ref 76, .ref (rx_ct c0), .int a1, .int (hi (rx_ct c0 + 3) j1), .int (-1), rx_no] [] (rx_hp L t hi41 hl41 v41) Q
              refine rx_aw_s 1 (pc := 167) rfl ?_
              show rx_aw 63 168 [.ref 76, .ref (rx_ct c0), .int a1, .int (hi (rx_ct c0 + 3) j1), .int (-1), rx_no] [.int 1] (rx_hp L t hi41 hl41 v41) Q
              exact rx_aw_ret (pc := 168) rfl k
            · have k := k.2 c40
              show rx_aw 63 147 [.ref 76, .ref (rx_ct c0), .int a1, .int (hi (rx_ct c0 + 3) j1), .int (-1), rx_no] [] (rx_hp L t hi23 hl23 v23) Q
              refine rx_aw_s 1 (pc := 147) rfl ?_
              show rx_aw 63 148 [.ref 76, .ref (rx_ct c0), .int a1, .int (hi (rx_ct c0 + 3) j1), .int (-1), rx_no] [.int 0] (rx_hp L t hi23 hl23 v23) Q
              exact rx_aw_ret (pc := 148) rfl k
          · have k := k.2 c39
            show rx_aw 63 131 [.ref 76, .ref (rx_ct c0), .int a1, .int (hi (rx_ct c0 + 3) j1), .int (-1), rx_no] [] (rx_hp L t hi23 hl23 v23) Q
            refine rx_aw_s 4 (pc := 131) rfl ?_
            show rx_aw 63 137 [.ref 76, .ref (rx_ct c0), .int a1, .int (hi (rx_ct c0 + 3) j1), .int (-1), rx_no] [.int (-1), .int 6, .ref (rx_ct c0), .ref 76] (rx_hp L t hi23 hl23 v23) Q
            refine rx_w_callI (j := 83) (pc := 137) rfl rfl rfl rfl rfl ?_
            refine rx_aw.mono k (fun r h2 k => ?_)
            obtain ⟨z42, rfl, hi42, hl42, v42, rfl, k⟩ := k
            refine ⟨z42, rfl, ?_⟩
            show rx_aw 63 140 [.ref 76, .ref (rx_ct c0), .int a1, .int (hi (rx_ct c0 + 3) j1), .int (-1), rx_no] [.int z42] (rx_hp L t hi42 hl42 v42) Q
            refine rx_aw_s 3 (pc := 140) rfl ?_
            refine rx_w_if (c := 0 ≤ z42) ⟨fun c43 => ?_, fun c43 => ?_⟩
            · have k := k.1 c43
              show rx_aw 63 149 [.ref 76, .ref (rx_ct c0), .int a1, .int (hi (rx_ct c0 + 3) j1), .int z42, rx_no] [] (rx_hp L t hi42 hl42 v42) Q
              refine rx_aw_s 2 (pc := 149) rfl ?_
              show rx_aw 63 152 [.ref 76, .ref (rx_ct c0), .int a1, .int (hi (rx_ct c0 + 3) j1), .int z42, rx_no] [.int z42, .ref (rx_ct c0)] (rx_hp L t hi42 hl42 v42) Q
              refine rx_w_cp hc0 (pc := 152) rfl rfl (by decide) ?_
              show rx_aw 63 155 [.ref 76, .ref (rx_ct c0), .int a1, .int (hi (rx_ct c0 + 3) j1), .int z42, rx_no] [] (rx_hp L t (rx_u hi42 (rx_ct c0) 7 z42) hl42 v42) Q
              refine rx_aw_s 2 (pc := 155) rfl ?_
              show rx_aw 63 157 [.ref 76, .ref (rx_ct c0), .int a1, .int (hi (rx_ct c0 + 3) j1), .int z42, rx_no] [.int 1, .ref (rx_ct c0)] (rx_hp L t (rx_u hi42 (rx_ct c0) 7 z42) hl42 v42) Q
              refine rx_w_cz hc0 (pc := 157) rfl rfl (by decide) ⟨by decide, ?_⟩
              show rx_aw 63 160 [.ref 76, .ref (rx_ct c0), .int a1, .int (hi (rx_ct c0 + 3) j1), .int z42, rx_no] [] (rx_hp L t (rx_u (rx_u hi42 (rx_ct c0) 7 z42) (rx_ct c0) 11 1) hl42 v42) Q
              refine rx_aw_s 2 (pc := 160) rfl ?_
              show rx_aw 63 164 [.ref 76, .ref (rx_ct c0), .int a1, .int (hi (rx_ct c0 + 3) j1), .int z42, rx_no] [.ref 13] (rx_hp L t (rx_u (rx_u hi42 (rx_ct c0) 7 z42) (rx_ct c0) 11 1) hl42 v42) Q
              refine rx_w_callV (j := 41) (pc := 164) rfl rfl rfl rfl rfl ?_
              refine rx_aw.mono k (fun r h2 k => ?_)
              obtain ⟨rfl, hi44, hl44, v44, rfl, k⟩ := k
              refine ⟨rfl, ?_⟩
              show rx_aw 63 167 [.ref 76, .ref (rx_ct c0), .int a1, .int (hi (rx_ct c0 + 3) j1), .int z42, rx_no] [] (rx_hp L t hi44 hl44 v44) Q
              refine rx_aw_s 1 (pc := 167) rfl ?_
              show rx_aw 63 168 [.ref 76, .ref (rx_ct c0), .int a1, .int (hi (rx_ct c0 + 3) j1), .int z42, rx_no] [.int 1] (rx_hp L t hi44 hl44 v44) Q
              exact rx_aw_ret (pc := 168) rfl k
            · have k := k.2 c43
              show rx_aw 63 147 [.ref 76, .ref (rx_ct c0), .int a1, .int (hi (rx_ct c0 + 3) j1), .int z42, rx_no] [] (rx_hp L t hi42 hl42 v42) Q
              refine rx_aw_s 1 (pc := 147) rfl ?_
              show rx_aw 63 148 [.ref 76, .ref (rx_ct c0), .int a1, .int (hi (rx_ct c0 + 3) j1), .int z42, rx_no] [.int 0] (rx_hp L t hi42 hl42 v42) Q
              exact rx_aw_ret (pc := 148) rfl k
    · have k := k.2 c24
      show rx_aw 63 28 [.ref 76, .ref (rx_ct c0), .int a1, .int (hi (rx_ct c0 + 3) j1), .int a1, rx_no] [] (rx_hp L t hi23 hl23 v23) Q
      refine rx_aw_s 3 (pc := 28) rfl ?_
      show rx_aw 63 33 [.ref 76, .ref (rx_ct c0), .int a1, .int (hi (rx_ct c0 + 3) j1), .int a1, rx_no] [.ref (rx_ct c0), .ref 13] (rx_hp L t hi23 hl23 v23) Q
      refine rx_w_cg hc0 (pc := 33) rfl (by decide) (by decide) ?_
      show rx_aw 63 36 [.ref 76, .ref (rx_ct c0), .int a1, .int (hi (rx_ct c0 + 3) j1), .int a1, rx_no] [.int (hi23 (rx_ct c0) 9), .ref 13] (rx_hp L t hi23 hl23 v23) Q
      refine rx_aw_s 1 (pc := 36) rfl ?_
      show rx_aw 63 39 [.ref 76, .ref (rx_ct c0), .int a1, .int (hi (rx_ct c0 + 3) j1), .int a1, rx_no] [.int 402, .int (hi23 (rx_ct c0) 9), .ref 13] (rx_hp L t hi23 hl23 v23) Q
      refine rx_w_callI (j := 38) (pc := 39) rfl rfl rfl rfl rfl ?_
      refine rx_aw.mono k (fun r h2 k => ?_)
      obtain ⟨z45, rfl, hi45, hl45, v45, rfl, k⟩ := k
      refine ⟨z45, rfl, ?_⟩
      show rx_aw 63 42 [.ref 76, .ref (rx_ct c0), .int a1, .int (hi (rx_ct c0 + 3) j1), .int a1, rx_no] [.int z45] (rx_hp L t hi45 hl45 v45) Q
      refine rx_aw_s 8 (pc := 42) rfl ?_
      show rx_aw 63 55 [.ref 76, .ref (rx_ct c0), .int a1, .int (hi (rx_ct c0 + 3) j1), .int a1, .int z45] [.ref (rx_ct c0), .int z45, .int a1, .int (hi (rx_ct c0 + 3) j1), .ref (rx_ct c0), .ref 77] (rx_hp L t hi45 hl45 v45) Q
      refine rx_w_cg hc0 (pc := 55) rfl (by decide) (by decide) ?_
      show rx_aw 63 58 [.ref 76, .ref (rx_ct c0), .int a1, .int (hi (rx_ct c0 + 3) j1), .int a1, .int z45] [.int (hi45 (rx_ct c0) 9), .int z45, .int a1, .int (hi (rx_ct c0 + 3) j1), .ref (rx_ct c0), .ref 77] (rx_hp L t hi45 hl45 v45) Q
      refine rx_aw_s 1 (pc := 58) rfl ?_
      show rx_aw 63 59 [.ref 76, .ref (rx_ct c0), .int a1, .int (hi (rx_ct c0 + 3) j1), .int a1, .int z45] [.int 0, .int (hi45 (rx_ct c0) 9), .int z45, .int a1, .int (hi (rx_ct c0 + 3) j1), .ref (rx_ct c0), .ref 77] (rx_hp L t hi45 hl45 v45) Q
      refine rx_w_callI (j := 64) (pc := 59) rfl rfl rfl rfl rfl ?_
      refine rx_aw.mono k (fun r h2 k => ?_)
      obtain ⟨z46, rfl, hi46, hl46, v46, rfl, k⟩ := k
      refine ⟨z46, rfl, ?_⟩
      show rx_aw 63 62 [.ref 76, .ref (rx_ct c0), .int a1, .int (hi (rx_ct c0 + 3) j1), .int a1, .int z45] [.int z46] (rx_hp L t hi46 hl46 v46) Q
      refine rx_aw_s 3 (pc := 62) rfl ?_
      refine rx_w_if (c := 0 ≤ z46) ⟨fun c47 => ?_, fun c47 => ?_⟩
      · have k := k.1 c47
        show rx_aw 63 73 [.ref 76, .ref (rx_ct c0), .int a1, .int (hi (rx_ct c0 + 3) j1), .int z46, .int z45] [] (rx_hp L t hi46 hl46 v46) Q
        refine rx_aw_s 4 (pc := 73) rfl ?_
        show rx_aw 63 78 [.ref 76, .ref (rx_ct c0), .int a1, .int (hi (rx_ct c0 + 3) j1), .int z46, .int z45] [.int z46, .int 5, .ref (rx_ct c0), .ref 76] (rx_hp L t hi46 hl46 v46) Q
        refine rx_w_callI (j := 83) (pc := 78) rfl rfl rfl rfl rfl ?_
        refine rx_aw.mono k (fun r h2 k => ?_)
        obtain ⟨z48, rfl, hi48, hl48, v48, rfl, k⟩ := k
        refine ⟨z48, rfl, ?_⟩
        show rx_aw 63 81 [.ref 76, .ref (rx_ct c0), .int a1, .int (hi (rx_ct c0 + 3) j1), .int z46, .int z45] [.int z48] (rx_hp L t hi48 hl48 v48) Q
        refine rx_aw_s 7 (pc := 81) rfl ?_
        refine rx_w_if (c := 0 ≤ z48) ⟨fun c49 => ?_, fun c49 => ?_⟩
        · have k := k.1 c49
          show rx_aw 63 100 [.ref 76, .ref (rx_ct c0), .int a1, .int (hi48 77 13), .int z48, .int z45] [] (rx_hp L t hi48 hl48 v48) Q
          refine rx_aw_s 6 (pc := 100) rfl ?_
          show rx_aw 63 109 [.ref 76, .ref (rx_ct c0), .int a1, .int (hi48 77 13), .int z48, .int z45] [.ref (rx_ct c0), .int z48, .int (hi48 77 13), .ref (rx_ct c0), .ref 77] (rx_hp L t hi48 hl48 v48) Q
          refine rx_w_cg hc0 (pc := 109) rfl (by decide) (by decide) ?_
          show rx_aw 63 112 [.ref 76, .ref (rx_ct c0), .int a1, .int (hi48 77 13), .int z48, .int z45] [.int (hi48 (rx_ct c0) 8), .int z48, .int (hi48 77 13), .ref (rx_ct c0), .ref 77] (rx_hp L t hi48 hl48 v48) Q
          refine rx_aw_s 2 (pc := 112) rfl ?_
          show rx_aw 63 114 [.ref 76, .ref (rx_ct c0), .int a1, .int (hi48 77 13), .int z48, .int z45] [.int 1, .int (-1), .int (hi48 (rx_ct c0) 8), .int z48, .int (hi48 77 13), .ref (rx_ct c0), .ref 77] (rx_hp L t hi48 hl48 v48) Q
          refine rx_w_callI (j := 64) (pc := 114) rfl rfl rfl rfl rfl ?_
          refine rx_aw.mono k (fun r h2 k => ?_)
          obtain ⟨z50, rfl, hi50, hl50, v50, rfl, k⟩ := k
          refine ⟨z50, rfl, ?_⟩
          show rx_aw 63 117 [.ref 76, .ref (rx_ct c0), .int a1, .int (hi48 77 13), .int z48, .int z45] [.int z50] (rx_hp L t hi50 hl50 v50) Q
          refine rx_aw_s 3 (pc := 117) rfl ?_
          refine rx_w_if (c := z50 < 0) ⟨fun c51 => ?_, fun c51 => ?_⟩
          · have k := k.1 c51
            show rx_aw 63 142 [.ref 76, .ref (rx_ct c0), .int a1, .int (hi48 77 13), .int z50, .int z45] [] (rx_hp L t hi50 hl50 v50) Q
            refine rx_aw_s 2 (pc := 142) rfl ?_
            refine rx_w_if (c := 0 ≤ z50) ⟨fun c52 => ?_, fun c52 => ?_⟩
            · have k := k.1 c52
              show rx_aw 63 149 [.ref 76, .ref (rx_ct c0), .int a1, .int (hi48 77 13), .int z50, .int z45] [] (rx_hp L t hi50 hl50 v50) Q
              refine rx_aw_s 2 (pc := 149) rfl ?_
              show rx_aw 63 152 [.ref 76, .ref (rx_ct c0), .int a1, .int (hi48 77 13), .int z50, .int z45] [.int z50, .ref (rx_ct c0)] (rx_hp L t hi50 hl50 v50) Q
              refine rx_w_cp hc0 (pc := 152) rfl rfl (by decide) ?_
              show rx_aw 63 155 [.ref 76, .ref (rx_ct c0), .int a1, .int (hi48 77 13), .int z50, .int z45] [] (rx_hp L t (rx_u hi50 (rx_ct c0) 7 z50) hl50 v50) Q
              refine rx_aw_s 2 (pc := 155) rfl ?_
              show rx_aw 63 157 [.ref 76, .ref (rx_ct c0), .int a1, .int (hi48 77 13), .int z50, .int z45] [.int 1, .ref (rx_ct c0)] (rx_hp L t (rx_u hi50 (rx_ct c0) 7 z50) hl50 v50) Q
              refine rx_w_cz hc0 (pc := 157) rfl rfl (by decide) ⟨by decide, ?_⟩
              show rx_aw 63 160 [.ref 76, .ref (rx_ct c0), .int a1, .int (hi48 77 13), .int z50, .int z45] [] (rx_hp L t (rx_u (rx_u hi50 (rx_ct c0) 7 z50) (rx_ct c0) 11 1) hl50 v50) Q
              refine rx_aw_s 2 (pc := 160) rfl ?_
              show rx_aw 63 164 [.ref 76, .ref (rx_ct c0), .int a1, .int (hi48 77 13), .int z50, .int z45] [.ref 13] (rx_hp L t (rx_u (rx_u hi50 (rx_ct c0) 7 z50) (rx_ct c0) 11 1) hl50 v50) Q
              refine rx_w_callV (j := 41) (pc := 164) rfl rfl rfl rfl rfl ?_
              refine rx_aw.mono k (fun r h2 k => ?_)
              obtain ⟨rfl, hi53, hl53, v53, rfl, k⟩ := k
              refine ⟨rfl, ?_⟩
              show rx_aw 63 167 [.ref 76, .ref (rx_ct c0), .int a1, .int (hi48 77 13), .int z50, .int z45] [] (rx_hp L t hi53 hl53 v53) Q
              refine rx_aw_s 1 (pc := 167) rfl ?_
              show rx_aw 63 168 [.ref 76, .ref (rx_ct c0), .int a1, .int (hi48 77 13), .int z50, .int z45] [.int 1] (rx_hp L t hi53 hl53 v53) Q
              exact rx_aw_ret (pc := 168) rfl k
            · have k := k.2 c52
              show rx_aw 63 147 [.ref 76, .ref (rx_ct c0), .int a1, .int (hi48 77 13), .int z50, .int z45] [] (rx_hp L t hi50 hl50 v50) Q
              refine rx_aw_s 1 (pc := 147) rfl ?_
              show rx_aw 63 148 [.ref 76, .ref (rx_ct c0), .int a1, .int (hi48 77 13), .int z50, .int z45] [.int 0] (rx_hp L t hi50 hl50 v50) Q
              exact rx_aw_ret (pc := 148) rfl k
          · have k := k.2 c51
            show rx_aw 63 124 [.ref 76, .ref (rx_ct c0), .int a1, .int (hi48 77 13), .int z50, .int z45] [] (rx_hp L t hi50 hl50 v50) Q
            refine rx_aw_s 1 (pc := 124) rfl ?_
            show rx_aw 63 125 [.ref 76, .ref (rx_ct c0), .int a1, .int (hi48 77 13), .int z50, .int z45] [.ref (rx_ct c0)] (rx_hp L t hi50 hl50 v50) Q
            refine rx_w_cg hc0 (pc := 125) rfl (by decide) (by decide) ?_
            show rx_aw 63 128 [.ref 76, .ref (rx_ct c0), .int a1, .int (hi48 77 13), .int z50, .int z45] [.int (hi50 (rx_ct c0) 9)] (rx_hp L t hi50 hl50 v50) Q
            refine rx_aw_s 1 (pc := 128) rfl ?_
            refine rx_w_if (c := (hi50 (rx_ct c0) 9) < 0) ⟨fun c54 => ?_, fun c54 => ?_⟩
            · have k := k.1 c54
              show rx_aw 63 142 [.ref 76, .ref (rx_ct c0), .int a1, .int (hi48 77 13), .int z50, .int z45] [] (rx_hp L t hi50 hl50 v50) Q
              refine rx_aw_s 2 (pc := 142) rfl ?_
              refine rx_w_if (c := 0 ≤ z50) ⟨fun c55 => ?_, fun c55 => ?_⟩
              · have k := k.1 c55
                show rx_aw 63 149 [.ref 76, .ref (rx_ct c0), .int a1, .int (hi48 77 13), .int z50, .int z45] [] (rx_hp L t hi50 hl50 v50) Q
                refine rx_aw_s 2 (pc := 149) rfl ?_
                show rx_aw 63 152 [.ref 76, .ref (rx_ct c0), .int a1, .int (hi48 77 13), .int z50, .int z45] [.int z50, .ref (rx_ct c0)] (rx_hp L t hi50 hl50 v50) Q
                refine rx_w_cp hc0 (pc := 152) rfl rfl (by decide) ?_
                show rx_aw 63 155 [.ref 76, .ref (rx_ct c0), .int a1, .int (hi48 77 13), .int z50, .int z45] [] (rx_hp L t (rx_u hi50 (rx_ct c0) 7 z50) hl50 v50) Q
                refine rx_aw_s 2 (pc := 155) rfl ?_
                show rx_aw 63 157 [.ref 76, .ref (rx_ct c0), .int a1, .int (hi48 77 13), .int z50, .int z45] [.int 1, .ref (rx_ct c0)] (rx_hp L t (rx_u hi50 (rx_ct c0) 7 z50) hl50 v50) Q
                refine rx_w_cz hc0 (pc := 157) rfl rfl (by decide) ⟨by decide, ?_⟩
                show rx_aw 63 160 [.ref 76, .ref (rx_ct c0), .int a1, .int (hi48 77 13), .int z50, .int z45] [] (rx_hp L t (rx_u (rx_u hi50 (rx_ct c0) 7 z50) (rx_ct c0) 11 1) hl50 v50) Q
                refine rx_aw_s 2 (pc := 160) rfl ?_
                show rx_aw 63 164 [.ref 76, .ref (rx_ct c0), .int a1, .int (hi48 77 13), .int z50, .int z45] [.ref 13] (rx_hp L t (rx_u (rx_u hi50 (rx_ct c0) 7 z50) (rx_ct c0) 11 1) hl50 v50) Q
                refine rx_w_callV (j := 41) (pc := 164) rfl rfl rfl rfl rfl ?_
                refine rx_aw.mono k (fun r h2 k => ?_)
                obtain ⟨rfl, hi56, hl56, v56, rfl, k⟩ := k
                refine ⟨rfl, ?_⟩
                show rx_aw 63 167 [.ref 76, .ref (rx_ct c0), .int a1, .int (hi48 77 13), .int z50, .int z45] [] (rx_hp L t hi56 hl56 v56) Q
                refine rx_aw_s 1 (pc := 167) rfl ?_
                show rx_aw 63 168 [.ref 76, .ref (rx_ct c0), .int a1, .int (hi48 77 13), .int z50, .int z45] [.int 1] (rx_hp L t hi56 hl56 v56) Q
                exact rx_aw_ret (pc := 168) rfl k
              · have k := k.2 c55
                show rx_aw 63 147 [.ref 76, .ref (rx_ct c0), .int a1, .int (hi48 77 13), .int z50, .int z45] [] (rx_hp L t hi50 hl50 v50) Q
                refine rx_aw_s 1 (pc := 147) rfl ?_
                show rx_aw 63 148 [.ref 76, .ref (rx_ct c0), .int a1, .int (hi48 77 13), .int z50, .int z45] [.int 0] (rx_hp L t hi50 hl50 v50) Q
                exact rx_aw_ret (pc := 148) rfl k
            · have k := k.2 c54
              show rx_aw 63 131 [.ref 76, .ref (rx_ct c0), .int a1, .int (hi48 77 13), .int z50, .int z45] [] (rx_hp L t hi50 hl50 v50) Q
              refine rx_aw_s 4 (pc := 131) rfl ?_
              show rx_aw 63 137 [.ref 76, .ref (rx_ct c0), .int a1, .int (hi48 77 13), .int z50, .int z45] [.int z50, .int 6, .ref (rx_ct c0), .ref 76] (rx_hp L t hi50 hl50 v50) Q
              refine rx_w_callI (j := 83) (pc := 137) rfl rfl rfl rfl rfl ?_
              refine rx_aw.mono k (fun r h2 k => ?_)
              obtain ⟨z57, rfl, hi57, hl57, v57, rfl, k⟩ := k
              refine ⟨z57, rfl, ?_⟩
              show rx_aw 63 140 [.ref 76, .ref (rx_ct c0), .int a1, .int (hi48 77 13), .int z50, .int z45] [.int z57] (rx_hp L t hi57 hl57 v57) Q
              refine rx_aw_s 3 (pc := 140) rfl ?_
              refine rx_w_if (c := 0 ≤ z57) ⟨fun c58 => ?_, fun c58 => ?_⟩
              · have k := k.1 c58
                show rx_aw 63 149 [.ref 76, .ref (rx_ct c0), .int a1, .int (hi48 77 13), .int z57, .int z45] [] (rx_hp L t hi57 hl57 v57) Q
                refine rx_aw_s 2 (pc := 149) rfl ?_
                show rx_aw 63 152 [.ref 76, .ref (rx_ct c0), .int a1, .int (hi48 77 13), .int z57, .int z45] [.int z57, .ref (rx_ct c0)] (rx_hp L t hi57 hl57 v57) Q
                refine rx_w_cp hc0 (pc := 152) rfl rfl (by decide) ?_
                show rx_aw 63 155 [.ref 76, .ref (rx_ct c0), .int a1, .int (hi48 77 13), .int z57, .int z45] [] (rx_hp L t (rx_u hi57 (rx_ct c0) 7 z57) hl57 v57) Q
                refine rx_aw_s 2 (pc := 155) rfl ?_
                show rx_aw 63 157 [.ref 76, .ref (rx_ct c0), .int a1, .int (hi48 77 13), .int z57, .int z45] [.int 1, .ref (rx_ct c0)] (rx_hp L t (rx_u hi57 (rx_ct c0) 7 z57) hl57 v57) Q
                refine rx_w_cz hc0 (pc := 157) rfl rfl (by decide) ⟨by decide, ?_⟩
                show rx_aw 63 160 [.ref 76, .ref (rx_ct c0), .int a1, .int (hi48 77 13), .int z57, .int z45] [] (rx_hp L t (rx_u (rx_u hi57 (rx_ct c0) 7 z57) (rx_ct c0) 11 1) hl57 v57) Q
                refine rx_aw_s 2 (pc := 160) rfl ?_
                show rx_aw 63 164 [.ref 76, .ref (rx_ct c0), .int a1, .int (hi48 77 13), .int z57, .int z45] [.ref 13] (rx_hp L t (rx_u (rx_u hi57 (rx_ct c0) 7 z57) (rx_ct c0) 11 1) hl57 v57) Q
                refine rx_w_callV (j := 41) (pc := 164) rfl rfl rfl rfl rfl ?_
                refine rx_aw.mono k (fun r h2 k => ?_)
                obtain ⟨rfl, hi59, hl59, v59, rfl, k⟩ := k
                refine ⟨rfl, ?_⟩
                show rx_aw 63 167 [.ref 76, .ref (rx_ct c0), .int a1, .int (hi48 77 13), .int z57, .int z45] [] (rx_hp L t hi59 hl59 v59) Q
                refine rx_aw_s 1 (pc := 167) rfl ?_
                show rx_aw 63 168 [.ref 76, .ref (rx_ct c0), .int a1, .int (hi48 77 13), .int z57, .int z45] [.int 1] (rx_hp L t hi59 hl59 v59) Q
                exact rx_aw_ret (pc := 168) rfl k
              · have k := k.2 c58
                show rx_aw 63 147 [.ref 76, .ref (rx_ct c0), .int a1, .int (hi48 77 13), .int z57, .int z45] [] (rx_hp L t hi57 hl57 v57) Q
                refine rx_aw_s 1 (pc := 147) rfl ?_
                show rx_aw 63 148 [.ref 76, .ref (rx_ct c0), .int a1, .int (hi48 77 13), .int z57, .int z45] [.int 0] (rx_hp L t hi57 hl57 v57) Q
                exact rx_aw_ret (pc := 148) rfl k
        · have k := k.2 c49
          show rx_aw 63 96 [.ref 76, .ref (rx_ct c0), .int a1, .int (hi48 77 13), .int z48, .int z45] [] (rx_hp L t hi48 hl48 v48) Q
          refine rx_aw_s 5 (pc := 96) rfl ?_
          refine rx_w_if (c := (-1) < 0) ⟨fun c60 => ?_, fun c60 => ?_⟩
          · have k := k.1 c60
            show rx_aw 63 142 [.ref 76, .ref (rx_ct c0), .int a1, .int (hi48 77 13), .int (-1), .int z45] [] (rx_hp L t hi48 hl48 v48) Q
            refine rx_aw_s 2 (pc := 142) rfl ?_
            refine rx_w_if (c := 0 ≤ (-1)) ⟨fun c61 => ?_, fun c61 => ?_⟩
            · have k := k.1 c61
              show rx_aw 63 149 [.ref 76, .ref (rx_ct c0), .int a1, .int (hi48 77 13), .int (-1), .int z45] [] (rx_hp L t hi48 hl48 v48) Q
              refine rx_aw_s 2 (pc := 149) rfl ?_
              show rx_aw 63 152 [.ref 76, .ref (rx_ct c0), .int a1, .int (hi48 77 13), .int (-1), .int z45] [.int (-1), .ref (rx_ct c0)] (rx_hp L t hi48 hl48 v48) Q
              refine rx_w_cp hc0 (pc := 152) rfl rfl (by decide) ?_
              show rx_aw 63 155 [.ref 76, .ref (rx_ct c0), .int a1, .int (hi48 77 13), .int (-1), .int z45] [] (rx_hp L t (rx_u hi48 (rx_ct c0) 7 (-1)) hl48 v48) Q
              refine rx_aw_s 2 (pc := 155) rfl ?_
              show rx_aw 63 157 [.ref 76, .ref (rx_ct c0), .int a1, .int (hi48 77 13), .int (-1), .int z45] [.int 1, .ref (rx_ct c0)] (rx_hp L t (rx_u hi48 (rx_ct c0) 7 (-1)) hl48 v48) Q
              refine rx_w_cz hc0 (pc := 157) rfl rfl (by decide) ⟨by decide, ?_⟩
              show rx_aw 63 160 [.ref 76, .ref (rx_ct c0), .int a1, .int (hi48 77 13), .int (-1), .int z45] [] (rx_hp L t (rx_u (rx_u hi48 (rx_ct c0) 7 (-1)) (rx_ct c0) 11 1) hl48 v48) Q
              refine rx_aw_s 2 (pc := 160) rfl ?_
              show rx_aw 63 164 [.ref 76, .ref (rx_ct c0), .int a1, .int (hi48 77 13), .int (-1), .int z45] [.ref 13] (rx_hp L t (rx_u (rx_u hi48 (rx_ct c0) 7 (-1)) (rx_ct c0) 11 1) hl48 v48) Q
              refine rx_w_callV (j := 41) (pc := 164) rfl rfl rfl rfl rfl ?_
              refine rx_aw.mono k (fun r h2 k => ?_)
              obtain ⟨rfl, hi62, hl62, v62, rfl, k⟩ := k
              refine ⟨rfl, ?_⟩
              show rx_aw 63 167 [.ref 76, .ref (rx_ct c0), .int a1, .int (hi48 77 13), .int (-1), .int z45] [] (rx_hp L t hi62 hl62 v62) Q
              refine rx_aw_s 1 (pc := 167) rfl ?_
              show rx_aw 63 168 [.ref 76, .ref (rx_ct c0), .int a1, .int (hi48 77 13), .int (-1), .int z45] [.int 1] (rx_hp L t hi62 hl62 v62) Q
              exact rx_aw_ret (pc := 168) rfl k
            · have k := k.2 c61
              show rx_aw 63 147 [.ref 76, .ref (rx_ct c0), .int a1, .int (hi48 77 13), .int (-1), .int z45] [] (rx_hp L t hi48 hl48 v48) Q
              refine rx_aw_s 1 (pc := 147) rfl ?_
              show rx_aw 63 148 [.ref 76, .ref (rx_ct c0), .int a1, .int (hi48 77 13), .int (-1), .int z45] [.int 0] (rx_hp L t hi48 hl48 v48) Q
              exact rx_aw_ret (pc := 148) rfl k
          · have k := k.2 c60
            show rx_aw 63 124 [.ref 76, .ref (rx_ct c0), .int a1, .int (hi48 77 13), .int (-1), .int z45] [] (rx_hp L t hi48 hl48 v48) Q
            refine rx_aw_s 1 (pc := 124) rfl ?_
            show rx_aw 63 125 [.ref 76, .ref (rx_ct c0), .int a1, .int (hi48 77 13), .int (-1), .int z45] [.ref (rx_ct c0)] (rx_hp L t hi48 hl48 v48) Q
            refine rx_w_cg hc0 (pc := 125) rfl (by decide) (by decide) ?_
            show rx_aw 63 128 [.ref 76, .ref (rx_ct c0), .int a1, .int (hi48 77 13), .int (-1), .int z45] [.int (hi48 (rx_ct c0) 9)] (rx_hp L t hi48 hl48 v48) Q
            refine rx_aw_s 1 (pc := 128) rfl ?_
            refine rx_w_if (c := (hi48 (rx_ct c0) 9) < 0) ⟨fun c63 => ?_, fun c63 => ?_⟩
            · have k := k.1 c63
              show rx_aw 63 142 [.ref 76, .ref (rx_ct c0), .int a1, .int (hi48 77 13), .int (-1), .int z45] [] (rx_hp L t hi48 hl48 v48) Q
              refine rx_aw_s 2 (pc := 142) rfl ?_
              refine rx_w_if (c := 0 ≤ (-1)) ⟨fun c64 => ?_, fun c64 => ?_⟩
              · have k := k.1 c64
                show rx_aw 63 149 [.ref 76, .ref (rx_ct c0), .int a1, .int (hi48 77 13), .int (-1), .int z45] [] (rx_hp L t hi48 hl48 v48) Q
                refine rx_aw_s 2 (pc := 149) rfl ?_
                show rx_aw 63 152 [.ref 76, .ref (rx_ct c0), .int a1, .int (hi48 77 13), .int (-1), .int z45] [.int (-1), .ref (rx_ct c0)] (rx_hp L t hi48 hl48 v48) Q
                refine rx_w_cp hc0 (pc := 152) rfl rfl (by decide) ?_
                show rx_aw 63 155 [.ref 76, .ref (rx_ct c0), .int a1, .int (hi48 77 13), .int (-1), .int z45] [] (rx_hp L t (rx_u hi48 (rx_ct c0) 7 (-1)) hl48 v48) Q
                refine rx_aw_s 2 (pc := 155) rfl ?_
                show rx_aw 63 157 [.ref 76, .ref (rx_ct c0), .int a1, .int (hi48 77 13), .int (-1), .int z45] [.int 1, .ref (rx_ct c0)] (rx_hp L t (rx_u hi48 (rx_ct c0) 7 (-1)) hl48 v48) Q
                refine rx_w_cz hc0 (pc := 157) rfl rfl (by decide) ⟨by decide, ?_⟩
                show rx_aw 63 160 [.ref 76, .ref (rx_ct c0), .int a1, .int (hi48 77 13), .int (-1), .int z45] [] (rx_hp L t (rx_u (rx_u hi48 (rx_ct c0) 7 (-1)) (rx_ct c0) 11 1) hl48 v48) Q
                refine rx_aw_s 2 (pc := 160) rfl ?_
                show rx_aw 63 164 [.ref 76, .ref (rx_ct c0), .int a1, .int (hi48 77 13), .int (-1), .int z45] [.ref 13] (rx_hp L t (rx_u (rx_u hi48 (rx_ct c0) 7 (-1)) (rx_ct c0) 11 1) hl48 v48) Q
                refine rx_w_callV (j := 41) (pc := 164) rfl rfl rfl rfl rfl ?_
                refine rx_aw.mono k (fun r h2 k => ?_)
                obtain ⟨rfl, hi65, hl65, v65, rfl, k⟩ := k
                refine ⟨rfl, ?_⟩
                show rx_aw 63 167 [.ref 76, .ref (rx_ct c0), .int a1, .int (hi48 77 13), .int (-1), .int z45] [] (rx_hp L t hi65 hl65 v65) Q
                refine rx_aw_s 1 (pc := 167) rfl ?_
                show rx_aw 63 168 [.ref 76, .ref (rx_ct c0), .int a1, .int (hi48 77 13), .int (-1), .int z45] [.int 1] (rx_hp L t hi65 hl65 v65) Q
                exact rx_aw_ret (pc := 168) rfl k
              · have k := k.2 c64
                show rx_aw 63 147 [.ref 76, .ref (rx_ct c0), .int a1, .int (hi48 77 13), .int (-1), .int z45] [] (rx_hp L t hi48 hl48 v48) Q
                refine rx_aw_s 1 (pc := 147) rfl ?_
                show rx_aw 63 148 [.ref 76, .ref (rx_ct c0), .int a1, .int (hi48 77 13), .int (-1), .int z45] [.int 0] (rx_hp L t hi48 hl48 v48) Q
                exact rx_aw_ret (pc := 148) rfl k
            · have k := k.2 c63
              show rx_aw 63 131 [.ref 76, .ref (rx_ct c0), .int a1, .int (hi48 77 13), .int (-1), .int z45] [] (rx_hp L t hi48 hl48 v48) Q
              refine rx_aw_s 4 (pc := 131) rfl ?_
              show rx_aw 63 137 [.ref 76, .ref (rx_ct c0), .int a1, .int (hi48 77 13), .int (-1), .int z45] [.int (-1), .int 6, .ref (rx_ct c0), .ref 76] (rx_hp L t hi48 hl48 v48) Q
              refine rx_w_callI (j := 83) (pc := 137) rfl rfl rfl rfl rfl ?_
              refine rx_aw.mono k (fun r h2 k => ?_)
              obtain ⟨z66, rfl, hi66, hl66, v66, rfl, k⟩ := k
              refine ⟨z66, rfl, ?_⟩
              show rx_aw 63 140 [.ref 76, .ref (rx_ct c0), .int a1, .int (hi48 77 13), .int (-1), .int z45] [.int z66] (rx_hp L t hi66 hl66 v66) Q
              refine rx_aw_s 3 (pc := 140) rfl ?_
              refine rx_w_if (c := 0 ≤ z66) ⟨fun c67 => ?_, fun c67 => ?_⟩
              · have k := k.1 c67
                show rx_aw 63 149 [.ref 76, .ref (rx_ct c0), .int a1, .int (hi48 77 13), .int z66, .int z45] [] (rx_hp L t hi66 hl66 v66) Q
                refine rx_aw_s 2 (pc := 149) rfl ?_
                show rx_aw 63 152 [.ref 76, .ref (rx_ct c0), .int a1, .int (hi48 77 13), .int z66, .int z45] [.int z66, .ref (rx_ct c0)] (rx_hp L t hi66 hl66 v66) Q
                refine rx_w_cp hc0 (pc := 152) rfl rfl (by decide) ?_
                show rx_aw 63 155 [.ref 76, .ref (rx_ct c0), .int a1, .int (hi48 77 13), .int z66, .int z45] [] (rx_hp L t (rx_u hi66 (rx_ct c0) 7 z66) hl66 v66) Q
                refine rx_aw_s 2 (pc := 155) rfl ?_
                show rx_aw 63 157 [.ref 76, .ref (rx_ct c0), .int a1, .int (hi48 77 13), .int z66, .int z45] [.int 1, .ref (rx_ct c0)] (rx_hp L t (rx_u hi66 (rx_ct c0) 7 z66) hl66 v66) Q
                refine rx_w_cz hc0 (pc := 157) rfl rfl (by decide) ⟨by decide, ?_⟩
                show rx_aw 63 160 [.ref 76, .ref (rx_ct c0), .int a1, .int (hi48 77 13), .int z66, .int z45] [] (rx_hp L t (rx_u (rx_u hi66 (rx_ct c0) 7 z66) (rx_ct c0) 11 1) hl66 v66) Q
                refine rx_aw_s 2 (pc := 160) rfl ?_
                show rx_aw 63 164 [.ref 76, .ref (rx_ct c0), .int a1, .int (hi48 77 13), .int z66, .int z45] [.ref 13] (rx_hp L t (rx_u (rx_u hi66 (rx_ct c0) 7 z66) (rx_ct c0) 11 1) hl66 v66) Q
                refine rx_w_callV (j := 41) (pc := 164) rfl rfl rfl rfl rfl ?_
                refine rx_aw.mono k (fun r h2 k => ?_)
                obtain ⟨rfl, hi68, hl68, v68, rfl, k⟩ := k
                refine ⟨rfl, ?_⟩
                show rx_aw 63 167 [.ref 76, .ref (rx_ct c0), .int a1, .int (hi48 77 13), .int z66, .int z45] [] (rx_hp L t hi68 hl68 v68) Q
                refine rx_aw_s 1 (pc := 167) rfl ?_
                show rx_aw 63 168 [.ref 76, .ref (rx_ct c0), .int a1, .int (hi48 77 13), .int z66, .int z45] [.int 1] (rx_hp L t hi68 hl68 v68) Q
                exact rx_aw_ret (pc := 168) rfl k
              · have k := k.2 c67
                show rx_aw 63 147 [.ref 76, .ref (rx_ct c0), .int a1, .int (hi48 77 13), .int z66, .int z45] [] (rx_hp L t hi66 hl66 v66) Q
                refine rx_aw_s 1 (pc := 147) rfl ?_
                show rx_aw 63 148 [.ref 76, .ref (rx_ct c0), .int a1, .int (hi48 77 13), .int z66, .int z45] [.int 0] (rx_hp L t hi66 hl66 v66) Q
                exact rx_aw_ret (pc := 148) rfl k
      · have k := k.2 c47
        show rx_aw 63 69 [.ref 76, .ref (rx_ct c0), .int a1, .int (hi (rx_ct c0 + 3) j1), .int z46, .int z45] [] (rx_hp L t hi46 hl46 v46) Q
        refine rx_aw_s 9 (pc := 69) rfl ?_
        refine rx_w_if (c := 0 ≤ (-1)) ⟨fun c69 => ?_, fun c69 => ?_⟩
        · have k := k.1 c69
          show rx_aw 63 100 [.ref 76, .ref (rx_ct c0), .int a1, .int (hi46 77 13), .int (-1), .int z45] [] (rx_hp L t hi46 hl46 v46) Q
          refine rx_aw_s 6 (pc := 100) rfl ?_
          show rx_aw 63 109 [.ref 76, .ref (rx_ct c0), .int a1, .int (hi46 77 13), .int (-1), .int z45] [.ref (rx_ct c0), .int (-1), .int (hi46 77 13), .ref (rx_ct c0), .ref 77] (rx_hp L t hi46 hl46 v46) Q
          refine rx_w_cg hc0 (pc := 109) rfl (by decide) (by decide) ?_
          show rx_aw 63 112 [.ref 76, .ref (rx_ct c0), .int a1, .int (hi46 77 13), .int (-1), .int z45] [.int (hi46 (rx_ct c0) 8), .int (-1), .int (hi46 77 13), .ref (rx_ct c0), .ref 77] (rx_hp L t hi46 hl46 v46) Q
          refine rx_aw_s 2 (pc := 112) rfl ?_
          show rx_aw 63 114 [.ref 76, .ref (rx_ct c0), .int a1, .int (hi46 77 13), .int (-1), .int z45] [.int 1, .int (-1), .int (hi46 (rx_ct c0) 8), .int (-1), .int (hi46 77 13), .ref (rx_ct c0), .ref 77] (rx_hp L t hi46 hl46 v46) Q
          refine rx_w_callI (j := 64) (pc := 114) rfl rfl rfl rfl rfl ?_
          refine rx_aw.mono k (fun r h2 k => ?_)
          obtain ⟨z70, rfl, hi70, hl70, v70, rfl, k⟩ := k
          refine ⟨z70, rfl, ?_⟩
          show rx_aw 63 117 [.ref 76, .ref (rx_ct c0), .int a1, .int (hi46 77 13), .int (-1), .int z45] [.int z70] (rx_hp L t hi70 hl70 v70) Q
          refine rx_aw_s 3 (pc := 117) rfl ?_
          refine rx_w_if (c := z70 < 0) ⟨fun c71 => ?_, fun c71 => ?_⟩
          · have k := k.1 c71
            show rx_aw 63 142 [.ref 76, .ref (rx_ct c0), .int a1, .int (hi46 77 13), .int z70, .int z45] [] (rx_hp L t hi70 hl70 v70) Q
            refine rx_aw_s 2 (pc := 142) rfl ?_
            refine rx_w_if (c := 0 ≤ z70) ⟨fun c72 => ?_, fun c72 => ?_⟩
            · have k := k.1 c72
              show rx_aw 63 149 [.ref 76, .ref (rx_ct c0), .int a1, .int (hi46 77 13), .int z70, .int z45] [] (rx_hp L t hi70 hl70 v70) Q
              refine rx_aw_s 2 (pc := 149) rfl ?_
              show rx_aw 63 152 [.ref 76, .ref (rx_ct c0), .int a1, .int (hi46 77 13), .int z70, .int z45] [.int z70, .ref (rx_ct c0)] (rx_hp L t hi70 hl70 v70) Q
              refine rx_w_cp hc0 (pc := 152) rfl rfl (by decide) ?_
              show rx_aw 63 155 [.ref 76, .ref (rx_ct c0), .int a1, .int (hi46 77 13), .int z70, .int z45] [] (rx_hp L t (rx_u hi70 (rx_ct c0) 7 z70) hl70 v70) Q
              refine rx_aw_s 2 (pc := 155) rfl ?_
              show rx_aw 63 157 [.ref 76, .ref (rx_ct c0), .int a1, .int (hi46 77 13), .int z70, .int z45] [.int 1, .ref (rx_ct c0)] (rx_hp L t (rx_u hi70 (rx_ct c0) 7 z70) hl70 v70) Q
              refine rx_w_cz hc0 (pc := 157) rfl rfl (by decide) ⟨by decide, ?_⟩
              show rx_aw 63 160 [.ref 76, .ref (rx_ct c0), .int a1, .int (hi46 77 13), .int z70, .int z45] [] (rx_hp L t (rx_u (rx_u hi70 (rx_ct c0) 7 z70) (rx_ct c0) 11 1) hl70 v70) Q
              refine rx_aw_s 2 (pc := 160) rfl ?_
              show rx_aw 63 164 [.ref 76, .ref (rx_ct c0), .int a1, .int (hi46 77 13), .int z70, .int z45] [.ref 13] (rx_hp L t (rx_u (rx_u hi70 (rx_ct c0) 7 z70) (rx_ct c0) 11 1) hl70 v70) Q
              refine rx_w_callV (j := 41) (pc := 164) rfl rfl rfl rfl rfl ?_
              refine rx_aw.mono k (fun r h2 k => ?_)
              obtain ⟨rfl, hi73, hl73, v73, rfl, k⟩ := k
              refine ⟨rfl, ?_⟩
              show rx_aw 63 167 [.ref 76, .ref (rx_ct c0), .int a1, .int (hi46 77 13), .int z70, .int z45] [] (rx_hp L t hi73 hl73 v73) Q
              refine rx_aw_s 1 (pc := 167) rfl ?_
              show rx_aw 63 168 [.ref 76, .ref (rx_ct c0), .int a1, .int (hi46 77 13), .int z70, .int z45] [.int 1] (rx_hp L t hi73 hl73 v73) Q
              exact rx_aw_ret (pc := 168) rfl k
            · have k := k.2 c72
              show rx_aw 63 147 [.ref 76, .ref (rx_ct c0), .int a1, .int (hi46 77 13), .int z70, .int z45] [] (rx_hp L t hi70 hl70 v70) Q
              refine rx_aw_s 1 (pc := 147) rfl ?_
              show rx_aw 63 148 [.ref 76, .ref (rx_ct c0), .int a1, .int (hi46 77 13), .int z70, .int z45] [.int 0] (rx_hp L t hi70 hl70 v70) Q
              exact rx_aw_ret (pc := 148) rfl k
          · have k := k.2 c71
            show rx_aw 63 124 [.ref 76, .ref (rx_ct c0), .int a1, .int (hi46 77 13), .int z70, .int z45] [] (rx_hp L t hi70 hl70 v70) Q
            refine rx_aw_s 1 (pc := 124) rfl ?_
            show rx_aw 63 125 [.ref 76, .ref (rx_ct c0), .int a1, .int (hi46 77 13), .int z70, .int z45] [.ref (rx_ct c0)] (rx_hp L t hi70 hl70 v70) Q
            refine rx_w_cg hc0 (pc := 125) rfl (by decide) (by decide) ?_
            show rx_aw 63 128 [.ref 76, .ref (rx_ct c0), .int a1, .int (hi46 77 13), .int z70, .int z45] [.int (hi70 (rx_ct c0) 9)] (rx_hp L t hi70 hl70 v70) Q
            refine rx_aw_s 1 (pc := 128) rfl ?_
            refine rx_w_if (c := (hi70 (rx_ct c0) 9) < 0) ⟨fun c74 => ?_, fun c74 => ?_⟩
            · have k := k.1 c74
              show rx_aw 63 142 [.ref 76, .ref (rx_ct c0), .int a1, .int (hi46 77 13), .int z70, .int z45] [] (rx_hp L t hi70 hl70 v70) Q
              refine rx_aw_s 2 (pc := 142) rfl ?_
              refine rx_w_if (c := 0 ≤ z70) ⟨fun c75 => ?_, fun c75 => ?_⟩
              · have k := k.1 c75
                show rx_aw 63 149 [.ref 76, .ref (rx_ct c0), .int a1, .int (hi46 77 13), .int z70, .int z45] [] (rx_hp L t hi70 hl70 v70) Q
                refine rx_aw_s 2 (pc := 149) rfl ?_
                show rx_aw 63 152 [.ref 76, .ref (rx_ct c0), .int a1, .int (hi46 77 13), .int z70, .int z45] [.int z70, .ref (rx_ct c0)] (rx_hp L t hi70 hl70 v70) Q
                refine rx_w_cp hc0 (pc := 152) rfl rfl (by decide) ?_
                show rx_aw 63 155 [.ref 76, .ref (rx_ct c0), .int a1, .int (hi46 77 13), .int z70, .int z45] [] (rx_hp L t (rx_u hi70 (rx_ct c0) 7 z70) hl70 v70) Q
                refine rx_aw_s 2 (pc := 155) rfl ?_
                show rx_aw 63 157 [.ref 76, .ref (rx_ct c0), .int a1, .int (hi46 77 13), .int z70, .int z45] [.int 1, .ref (rx_ct c0)] (rx_hp L t (rx_u hi70 (rx_ct c0) 7 z70) hl70 v70) Q
                refine rx_w_cz hc0 (pc := 157) rfl rfl (by decide) ⟨by decide, ?_⟩
                show rx_aw 63 160 [.ref 76, .ref (rx_ct c0), .int a1, .int (hi46 77 13), .int z70, .int z45] [] (rx_hp L t (rx_u (rx_u hi70 (rx_ct c0) 7 z70) (rx_ct c0) 11 1) hl70 v70) Q
                refine rx_aw_s 2 (pc := 160) rfl ?_
                show rx_aw 63 164 [.ref 76, .ref (rx_ct c0), .int a1, .int (hi46 77 13), .int z70, .int z45] [.ref 13] (rx_hp L t (rx_u (rx_u hi70 (rx_ct c0) 7 z70) (rx_ct c0) 11 1) hl70 v70) Q
                refine rx_w_callV (j := 41) (pc := 164) rfl rfl rfl rfl rfl ?_
                refine rx_aw.mono k (fun r h2 k => ?_)
                obtain ⟨rfl, hi76, hl76, v76, rfl, k⟩ := k
                refine ⟨rfl, ?_⟩
                show rx_aw 63 167 [.ref 76, .ref (rx_ct c0), .int a1, .int (hi46 77 13), .int z70, .int z45] [] (rx_hp L t hi76 hl76 v76) Q
                refine rx_aw_s 1 (pc := 167) rfl ?_
                show rx_aw 63 168 [.ref 76, .ref (rx_ct c0), .int a1, .int (hi46 77 13), .int z70, .int z45] [.int 1] (rx_hp L t hi76 hl76 v76) Q
                exact rx_aw_ret (pc := 168) rfl k
              · have k := k.2 c75
                show rx_aw 63 147 [.ref 76, .ref (rx_ct c0), .int a1, .int (hi46 77 13), .int z70, .int z45] [] (rx_hp L t hi70 hl70 v70) Q
                refine rx_aw_s 1 (pc := 147) rfl ?_
                show rx_aw 63 148 [.ref 76, .ref (rx_ct c0), .int a1, .int (hi46 77 13), .int z70, .int z45] [.int 0] (rx_hp L t hi70 hl70 v70) Q
                exact rx_aw_ret (pc := 148) rfl k
            · have k := k.2 c74
              show rx_aw 63 131 [.ref 76, .ref (rx_ct c0), .int a1, .int (hi46 77 13), .int z70, .int z45] [] (rx_hp L t hi70 hl70 v70) Q
              refine rx_aw_s 4 (pc := 131) rfl ?_
              show rx_aw 63 137 [.ref 76, .ref (rx_ct c0), .int a1, .int (hi46 77 13), .int z70, .int z45] [.int z70, .int 6, .ref (rx_ct c0), .ref 76] (rx_hp L t hi70 hl70 v70) Q
              refine rx_w_callI (j := 83) (pc := 137) rfl rfl rfl rfl rfl ?_
              refine rx_aw.mono k (fun r h2 k => ?_)
              obtain ⟨z77, rfl, hi77, hl77, v77, rfl, k⟩ := k
              refine ⟨z77, rfl, ?_⟩
              show rx_aw 63 140 [.ref 76, .ref (rx_ct c0), .int a1, .int (hi46 77 13), .int z70, .int z45] [.int z77] (rx_hp L t hi77 hl77 v77) Q
              refine rx_aw_s 3 (pc := 140) rfl ?_
              refine rx_w_if (c := 0 ≤ z77) ⟨fun c78 => ?_, fun c78 => ?_⟩
              · have k := k.1 c78
                show rx_aw 63 149 [.ref 76, .ref (rx_ct c0), .int a1, .int (hi46 77 13), .int z77, .int z45] [] (rx_hp L t hi77 hl77 v77) Q
                refine rx_aw_s 2 (pc := 149) rfl ?_
                show rx_aw 63 152 [.ref 76, .ref (rx_ct c0), .int a1, .int (hi46 77 13), .int z77, .int z45] [.int z77, .ref (rx_ct c0)] (rx_hp L t hi77 hl77 v77) Q
                refine rx_w_cp hc0 (pc := 152) rfl rfl (by decide) ?_
                show rx_aw 63 155 [.ref 76, .ref (rx_ct c0), .int a1, .int (hi46 77 13), .int z77, .int z45] [] (rx_hp L t (rx_u hi77 (rx_ct c0) 7 z77) hl77 v77) Q
                refine rx_aw_s 2 (pc := 155) rfl ?_
                show rx_aw 63 157 [.ref 76, .ref (rx_ct c0), .int a1, .int (hi46 77 13), .int z77, .int z45] [.int 1, .ref (rx_ct c0)] (rx_hp L t (rx_u hi77 (rx_ct c0) 7 z77) hl77 v77) Q
                refine rx_w_cz hc0 (pc := 157) rfl rfl (by decide) ⟨by decide, ?_⟩
                show rx_aw 63 160 [.ref 76, .ref (rx_ct c0), .int a1, .int (hi46 77 13), .int z77, .int z45] [] (rx_hp L t (rx_u (rx_u hi77 (rx_ct c0) 7 z77) (rx_ct c0) 11 1) hl77 v77) Q
                refine rx_aw_s 2 (pc := 160) rfl ?_
                show rx_aw 63 164 [.ref 76, .ref (rx_ct c0), .int a1, .int (hi46 77 13), .int z77, .int z45] [.ref 13] (rx_hp L t (rx_u (rx_u hi77 (rx_ct c0) 7 z77) (rx_ct c0) 11 1) hl77 v77) Q
                refine rx_w_callV (j := 41) (pc := 164) rfl rfl rfl rfl rfl ?_
                refine rx_aw.mono k (fun r h2 k => ?_)
                obtain ⟨rfl, hi79, hl79, v79, rfl, k⟩ := k
                refine ⟨rfl, ?_⟩
                show rx_aw 63 167 [.ref 76, .ref (rx_ct c0), .int a1, .int (hi46 77 13), .int z77, .int z45] [] (rx_hp L t hi79 hl79 v79) Q
                refine rx_aw_s 1 (pc := 167) rfl ?_
                show rx_aw 63 168 [.ref 76, .ref (rx_ct c0), .int a1, .int (hi46 77 13), .int z77, .int z45] [.int 1] (rx_hp L t hi79 hl79 v79) Q
                exact rx_aw_ret (pc := 168) rfl k
              · have k := k.2 c78
                show rx_aw 63 147 [.ref 76, .ref (rx_ct c0), .int a1, .int (hi46 77 13), .int z77, .int z45] [] (rx_hp L t hi77 hl77 v77) Q
                refine rx_aw_s 1 (pc := 147) rfl ?_
                show rx_aw 63 148 [.ref 76, .ref (rx_ct c0), .int a1, .int (hi46 77 13), .int z77, .int z45] [.int 0] (rx_hp L t hi77 hl77 v77) Q
                exact rx_aw_ret (pc := 148) rfl k
        · have k := k.2 c69
          show rx_aw 63 96 [.ref 76, .ref (rx_ct c0), .int a1, .int (hi46 77 13), .int (-1), .int z45] [] (rx_hp L t hi46 hl46 v46) Q
          refine rx_aw_s 5 (pc := 96) rfl ?_
          refine rx_w_if (c := (-1) < 0) ⟨fun c80 => ?_, fun c80 => ?_⟩
          · have k := k.1 c80
            show rx_aw 63 142 [.ref 76, .ref (rx_ct c0), .int a1, .int (hi46 77 13), .int (-1), .int z45] [] (rx_hp L t hi46 hl46 v46) Q
            refine rx_aw_s 2 (pc := 142) rfl ?_
            refine rx_w_if (c := 0 ≤ (-1)) ⟨fun c81 => ?_, fun c81 => ?_⟩
            · have k := k.1 c81
              show rx_aw 63 149 [.ref 76, .ref (rx_ct c0), .int a1, .int (hi46 77 13), .int (-1), .int z45] [] (rx_hp L t hi46 hl46 v46) Q
              refine rx_aw_s 2 (pc := 149) rfl ?_
              show rx_aw 63 152 [.ref 76, .ref (rx_ct c0), .int a1, .int (hi46 77 13), .int (-1), .int z45] [.int (-1), .ref (rx_ct c0)] (rx_hp L t hi46 hl46 v46) Q
              refine rx_w_cp hc0 (pc := 152) rfl rfl (by decide) ?_
              show rx_aw 63 155 [.ref 76, .ref (rx_ct c0), .int a1, .int (hi46 77 13), .int (-1), .int z45] [] (rx_hp L t (rx_u hi46 (rx_ct c0) 7 (-1)) hl46 v46) Q
              refine rx_aw_s 2 (pc := 155) rfl ?_
              show rx_aw 63 157 [.ref 76, .ref (rx_ct c0), .int a1, .int (hi46 77 13), .int (-1), .int z45] [.int 1, .ref (rx_ct c0)] (rx_hp L t (rx_u hi46 (rx_ct c0) 7 (-1)) hl46 v46) Q
              refine rx_w_cz hc0 (pc := 157) rfl rfl (by decide) ⟨by decide, ?_⟩
              show rx_aw 63 160 [.ref 76, .ref (rx_ct c0), .int a1, .int (hi46 77 13), .int (-1), .int z45] [] (rx_hp L t (rx_u (rx_u hi46 (rx_ct c0) 7 (-1)) (rx_ct c0) 11 1) hl46 v46) Q
              refine rx_aw_s 2 (pc := 160) rfl ?_
              show rx_aw 63 164 [.ref 76, .ref (rx_ct c0), .int a1, .int (hi46 77 13), .int (-1), .int z45] [.ref 13] (rx_hp L t (rx_u (rx_u hi46 (rx_ct c0) 7 (-1)) (rx_ct c0) 11 1) hl46 v46) Q
              refine rx_w_callV (j := 41) (pc := 164) rfl rfl rfl rfl rfl ?_
              refine rx_aw.mono k (fun r h2 k => ?_)
              obtain ⟨rfl, hi82, hl82, v82, rfl, k⟩ := k
              refine ⟨rfl, ?_⟩
              show rx_aw 63 167 [.ref 76, .ref (rx_ct c0), .int a1, .int (hi46 77 13), .int (-1), .int z45] [] (rx_hp L t hi82 hl82 v82) Q
              refine rx_aw_s 1 (pc := 167) rfl ?_
              show rx_aw 63 168 [.ref 76, .ref (rx_ct c0), .int a1, .int (hi46 77 13), .int (-1), .int z45] [.int 1] (rx_hp L t hi82 hl82 v82) Q
              exact rx_aw_ret (pc := 168) rfl k
            · have k := k.2 c81
              show rx_aw 63 147 [.ref 76, .ref (rx_ct c0), .int a1, .int (hi46 77 13), .int (-1), .int z45] [] (rx_hp L t hi46 hl46 v46) Q
              refine rx_aw_s 1 (pc := 147) rfl ?_
              show rx_aw 63 148 [.ref 76, .ref (rx_ct c0), .int a1, .int (hi46 77 13), .int (-1), .int z45] [.int 0] (rx_hp L t hi46 hl46 v46) Q
              exact rx_aw_ret (pc := 148) rfl k
          · have k := k.2 c80
            show rx_aw 63 124 [.ref 76, .ref (rx_ct c0), .int a1, .int (hi46 77 13), .int (-1), .int z45] [] (rx_hp L t hi46 hl46 v46) Q
            refine rx_aw_s 1 (pc := 124) rfl ?_
            show rx_aw 63 125 [.ref 76, .ref (rx_ct c0), .int a1, .int (hi46 77 13), .int (-1), .int z45] [.ref (rx_ct c0)] (rx_hp L t hi46 hl46 v46) Q
            refine rx_w_cg hc0 (pc := 125) rfl (by decide) (by decide) ?_
            show rx_aw 63 128 [.ref 76, .ref (rx_ct c0), .int a1, .int (hi46 77 13), .int (-1), .int z45] [.int (hi46 (rx_ct c0) 9)] (rx_hp L t hi46 hl46 v46) Q
            refine rx_aw_s 1 (pc := 128) rfl ?_
            refine rx_w_if (c := (hi46 (rx_ct c0) 9) < 0) ⟨fun c83 => ?_, fun c83 => ?_⟩
            · have k := k.1 c83
              show rx_aw 63 142 [.ref 76, .ref (rx_ct c0), .int a1, .int (hi46 77 13), .int (-1), .int z45] [] (rx_hp L t hi46 hl46 v46) Q
              refine rx_aw_s 2 (pc := 142) rfl ?_
              refine rx_w_if (c := 0 ≤ (-1)) ⟨fun c84 => ?_, fun c84 => ?_⟩
              · have k := k.1 c84
                show rx_aw 63 149 [.ref 76, .ref (rx_ct c0), .int a1, .int (hi46 77 13), .int (-1), .int z45] [] (rx_hp L t hi46 hl46 v46) Q
                refine rx_aw_s 2 (pc := 149) rfl ?_
                show rx_aw 63 152 [.ref 76, .ref (rx_ct c0), .int a1, .int (hi46 77 13), .int (-1), .int z45] [.int (-1), .ref (rx_ct c0)] (rx_hp L t hi46 hl46 v46) Q
                refine rx_w_cp hc0 (pc := 152) rfl rfl (by decide) ?_
                show rx_aw 63 155 [.ref 76, .ref (rx_ct c0), .int a1, .int (hi46 77 13), .int (-1), .int z45] [] (rx_hp L t (rx_u hi46 (rx_ct c0) 7 (-1)) hl46 v46) Q
                refine rx_aw_s 2 (pc := 155) rfl ?_
                show rx_aw 63 157 [.ref 76, .ref (rx_ct c0), .int a1, .int (hi46 77 13), .int (-1), .int z45] [.int 1, .ref (rx_ct c0)] (rx_hp L t (rx_u hi46 (rx_ct c0) 7 (-1)) hl46 v46) Q
                refine rx_w_cz hc0 (pc := 157) rfl rfl (by decide) ⟨by decide, ?_⟩
                show rx_aw 63 160 [.ref 76, .ref (rx_ct c0), .int a1, .int (hi46 77 13), .int (-1), .int z45] [] (rx_hp L t (rx_u (rx_u hi46 (rx_ct c0) 7 (-1)) (rx_ct c0) 11 1) hl46 v46) Q
                refine rx_aw_s 2 (pc := 160) rfl ?_
                show rx_aw 63 164 [.ref 76, .ref (rx_ct c0), .int a1, .int (hi46 77 13), .int (-1), .int z45] [.ref 13] (rx_hp L t (rx_u (rx_u hi46 (rx_ct c0) 7 (-1)) (rx_ct c0) 11 1) hl46 v46) Q
                refine rx_w_callV (j := 41) (pc := 164) rfl rfl rfl rfl rfl ?_
                refine rx_aw.mono k (fun r h2 k => ?_)
                obtain ⟨rfl, hi85, hl85, v85, rfl, k⟩ := k
                refine ⟨rfl, ?_⟩
                show rx_aw 63 167 [.ref 76, .ref (rx_ct c0), .int a1, .int (hi46 77 13), .int (-1), .int z45] [] (rx_hp L t hi85 hl85 v85) Q
                refine rx_aw_s 1 (pc := 167) rfl ?_
                show rx_aw 63 168 [.ref 76, .ref (rx_ct c0), .int a1, .int (hi46 77 13), .int (-1), .int z45] [.int 1] (rx_hp L t hi85 hl85 v85) Q
                exact rx_aw_ret (pc := 168) rfl k
              · have k := k.2 c84
                show rx_aw 63 147 [.ref 76, .ref (rx_ct c0), .int a1, .int (hi46 77 13), .int (-1), .int z45] [] (rx_hp L t hi46 hl46 v46) Q
                refine rx_aw_s 1 (pc := 147) rfl ?_
                show rx_aw 63 148 [.ref 76, .ref (rx_ct c0), .int a1, .int (hi46 77 13), .int (-1), .int z45] [.int 0] (rx_hp L t hi46 hl46 v46) Q
                exact rx_aw_ret (pc := 148) rfl k
            · have k := k.2 c83
              show rx_aw 63 131 [.ref 76, .ref (rx_ct c0), .int a1, .int (hi46 77 13), .int (-1), .int z45] [] (rx_hp L t hi46 hl46 v46) Q
              refine rx_aw_s 4 (pc := 131) rfl ?_
              show rx_aw 63 137 [.ref 76, .ref (rx_ct c0), .int a1, .int (hi46 77 13), .int (-1), .int z45] [.int (-1), .int 6, .ref (rx_ct c0), .ref 76] (rx_hp L t hi46 hl46 v46) Q
              refine rx_w_callI (j := 83) (pc := 137) rfl rfl rfl rfl rfl ?_
              refine rx_aw.mono k (fun r h2 k => ?_)
              obtain ⟨z86, rfl, hi86, hl86, v86, rfl, k⟩ := k
              refine ⟨z86, rfl, ?_⟩
              show rx_aw 63 140 [.ref 76, .ref (rx_ct c0), .int a1, .int (hi46 77 13), .int (-1), .int z45] [.int z86] (rx_hp L t hi86 hl86 v86) Q
              refine rx_aw_s 3 (pc := 140) rfl ?_
              refine rx_w_if (c := 0 ≤ z86) ⟨fun c87 => ?_, fun c87 => ?_⟩
              · have k := k.1 c87
                show rx_aw 63 149 [.ref 76, .ref (rx_ct c0), .int a1, .int (hi46 77 13), .int z86, .int z45] [] (rx_hp L t hi86 hl86 v86) Q
                refine rx_aw_s 2 (pc := 149) rfl ?_
                show rx_aw 63 152 [.ref 76, .ref (rx_ct c0), .int a1, .int (hi46 77 13), .int z86, .int z45] [.int z86, .ref (rx_ct c0)] (rx_hp L t hi86 hl86 v86) Q
                refine rx_w_cp hc0 (pc := 152) rfl rfl (by decide) ?_
                show rx_aw 63 155 [.ref 76, .ref (rx_ct c0), .int a1, .int (hi46 77 13), .int z86, .int z45] [] (rx_hp L t (rx_u hi86 (rx_ct c0) 7 z86) hl86 v86) Q
                refine rx_aw_s 2 (pc := 155) rfl ?_
                show rx_aw 63 157 [.ref 76, .ref (rx_ct c0), .int a1, .int (hi46 77 13), .int z86, .int z45] [.int 1, .ref (rx_ct c0)] (rx_hp L t (rx_u hi86 (rx_ct c0) 7 z86) hl86 v86) Q
                refine rx_w_cz hc0 (pc := 157) rfl rfl (by decide) ⟨by decide, ?_⟩
                show rx_aw 63 160 [.ref 76, .ref (rx_ct c0), .int a1, .int (hi46 77 13), .int z86, .int z45] [] (rx_hp L t (rx_u (rx_u hi86 (rx_ct c0) 7 z86) (rx_ct c0) 11 1) hl86 v86) Q
                refine rx_aw_s 2 (pc := 160) rfl ?_
                show rx_aw 63 164 [.ref 76, .ref (rx_ct c0), .int a1, .int (hi46 77 13), .int z86, .int z45] [.ref 13] (rx_hp L t (rx_u (rx_u hi86 (rx_ct c0) 7 z86) (rx_ct c0) 11 1) hl86 v86) Q
                refine rx_w_callV (j := 41) (pc := 164) rfl rfl rfl rfl rfl ?_
                refine rx_aw.mono k (fun r h2 k => ?_)
                obtain ⟨rfl, hi88, hl88, v88, rfl, k⟩ := k
                refine ⟨rfl, ?_⟩
                show rx_aw 63 167 [.ref 76, .ref (rx_ct c0), .int a1, .int (hi46 77 13), .int z86, .int z45] [] (rx_hp L t hi88 hl88 v88) Q
                refine rx_aw_s 1 (pc := 167) rfl ?_
                show rx_aw 63 168 [.ref 76, .ref (rx_ct c0), .int a1, .int (hi46 77 13), .int z86, .int z45] [.int 1] (rx_hp L t hi88 hl88 v88) Q
                exact rx_aw_ret (pc := 168) rfl k
              · have k := k.2 c87
                show rx_aw 63 147 [.ref 76, .ref (rx_ct c0), .int a1, .int (hi46 77 13), .int z86, .int z45] [] (rx_hp L t hi86 hl86 v86) Q
                refine rx_aw_s 1 (pc := 147) rfl ?_
                show rx_aw 63 148 [.ref 76, .ref (rx_ct c0), .int a1, .int (hi46 77 13), .int z86, .int z45] [.int 0] (rx_hp L t hi86 hl86 v86) Q
                exact rx_aw_ret (pc := 148) rfl k
