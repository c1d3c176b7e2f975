/-! Methods walked by program (gen/wp.py): what is left to show of each. -/
set_option maxRecDepth 100000 in
/-- CartFloor$Traffic.meetsAny(LCartFloor$Cart;JJJI)Z -/
theorem w92_meetsAny {L : Nat} {t : List (Nat × Nat)} {hi : Nat → Nat → Int32} {hl : Nat → Nat → Int64} {v : Nat → Nat → Option Nat} {Q : Option Value → rx_H → Prop} {c0 : Nat} (hc0 : c0 < 6) {a1 : Int64} {a2 : Int64} {a3 : Int64} {a4 : Int32} (k : rx_aw 92 14 [.ref 13, .ref (rx_ct c0), .long a1, rx_no, .long a2, rx_no, .long a3, rx_no, .int a4, .int (if (hi 13 5) < a4 then (hi 13 5) else a4), .int (0 : Int32), rx_no, rx_no, rx_no] [] (rx_hp L t hi hl v) Q) : rx_me 92 [.ref 13, .ref (rx_ct c0), .long a1, .long a2, .long a3, .int a4] (rx_hp L t hi hl v) Q := by
  show rx_aw 92 0 [.ref 13, .ref (rx_ct c0), .long a1, rx_no, .long a2, rx_no, .long a3, rx_no, .int a4, rx_no, rx_no, rx_no, rx_no, rx_no] [] (rx_hp L t hi hl v) Q
  refine rx_aw_s 7 (pc := 0) rfl ?_
  show rx_aw 92 14 [.ref 13, .ref (rx_ct c0), .long a1, rx_no, .long a2, rx_no, .long a3, rx_no, .int a4, .int (if (hi 13 5) < a4 then (hi 13 5) else a4), .int (0 : Int32), rx_no, rx_no, rx_no] [] (rx_hp L t hi hl v) Q
  exact k
set_option maxRecDepth 100000 in
theorem w92_meetsAny_14 {L : Nat} {t : List (Nat × Nat)} {hi : Nat → Nat → Int32} {hl : Nat → Nat → Int64} {v : Nat → Nat → Option Nat} {Q : Option Value → rx_H → Prop} {c0 : Nat} (hc0 : c0 < 6) {x2 : Int64} {x4 : Int64} {x6 : Int64} {x8 : Int32} {x9 : Int32} {x10 : Int32} (k : (((hi 13 3) ≤ x10 → Q (some (.int (0 : Int32))) (rx_hp L t hi hl v)) ∧ (¬ ((hi 13 3) ≤ x10) → (∃ j2 : Nat, x10 = nI j2 ∧ j2 < 6 ∧ (((some (rx_ct j2) : Option Nat) = (some (rx_ct c0) : Option Nat) → rx_aw 92 14 [.ref 13, .ref (rx_ct c0), .long x2, rx_no, .long x4, rx_no, .long x6, rx_no, .int x8, .int x9, .int (x10 + (1 : Int32)), rx_no, rx_no, rx_no] [] (rx_hp L t hi hl v) Q) ∧ (¬ ((some (rx_ct j2) : Option Nat) = (some (rx_ct c0) : Option Nat)) → (∃ j4 : Nat, x9 = nI j4 ∧ j4 < 402 ∧ (((lg_cmp ((hl (rx_ct j2 + 5) j4) &&& x6) (0 : Int64)) = 0 → (∃ j6 : Nat, (if (0 : Int32) < (if (hi 13 5) < (x8 - (1 : Int32)) then (hi 13 5) else (x8 - (1 : Int32))) then (if (hi 13 5) < (x8 - (1 : Int32)) then (hi 13 5) else (x8 - (1 : Int32))) else (0 : Int32)) = nI j6 ∧ j6 < 402 ∧ ((x8 ≤ 0 → rx_aw 92 14 [.ref 13, .ref (rx_ct c0), .long x2, rx_no, .long x4, rx_no, .long x6, rx_no, .int x8, .int x9, .int (x10 + (1 : Int32)), rx_no, rx_no, rx_no] [] (rx_hp L t hi hl v) Q) ∧ (¬ (x8 ≤ 0) → (∃ j8 : Nat, x9 = nI j8 ∧ j8 < 402 ∧ rx_me 93 [.long x2, .long x4, .long (hl (rx_ct j2 + 4) j6), .long (hl (rx_ct j2 + 4) j8)] (rx_hp L t hi hl v) (fun r h2 => ∃ z9 : Int32, r = some (.int z9) ∧ rx_ok2 L t h2 (fun hi9 hl9 v9 => ((z9 = 0 → rx_aw 92 14 [.ref 13, .ref (rx_ct c0), .long x2, rx_no, .long x4, rx_no, .long x6, rx_no, .int x8, .int x9, .int (x10 + (1 : Int32)), rx_no, rx_no, rx_no] [] (rx_hp L t hi9 hl9 v9) Q) ∧ (¬ (z9 = 0) → Q (some (.int (1 : Int32))) (rx_hp L t hi9 hl9 v9)))))))))) ∧ (¬ ((lg_cmp ((hl (rx_ct j2 + 5) j4) &&& x6) (0 : Int64)) = 0) → Q (some (.int (1 : Int32))) (rx_hp L t hi hl v)))))))))) : rx_aw 92 14 [.ref 13, .ref (rx_ct c0), .long x2, rx_no, .long x4, rx_no, .long x6, rx_no, .int x8, .int x9, .int x10, rx_no, rx_no, rx_no] [] (rx_hp L t hi hl v) Q := by
  refine rx_aw_s 4 (pc := 14) rfl ?_
  refine rx_w_if (c := (hi 13 3) ≤ x10) ⟨fun c1 => ?_, fun c1 => ?_⟩
  · have k := k.1 c1
    show rx_aw 92 114 [.ref 13, .ref (rx_ct c0), .long x2, rx_no, .long x4, rx_no, .long x6, rx_no, .int x8, .int x9, .int x10, rx_no, rx_no, rx_no] [] (rx_hp L t hi hl v) Q
    refine rx_aw_s 1 (pc := 114) rfl ?_
    show rx_aw 92 115 [.ref 13, .ref (rx_ct c0), .long x2, rx_no, .long x4, rx_no, .long x6, rx_no, .int x8, .int x9, .int x10, rx_no, rx_no, rx_no] [.int (0 : Int32)] (rx_hp L t hi hl v) Q
    exact rx_aw_ret (pc := 115) rfl k
  · have k := k.2 c1
    show rx_aw 92 23 [.ref 13, .ref (rx_ct c0), .long x2, rx_no, .long x4, rx_no, .long x6, rx_no, .int x8, .int x9, .int x10, rx_no, rx_no, rx_no] [] (rx_hp L t hi hl v) Q
    refine rx_aw_s 3 (pc := 23) rfl ?_
    show rx_aw 92 29 [.ref 13, .ref (rx_ct c0), .long x2, rx_no, .long x4, rx_no, .long x6, rx_no, .int x8, .int x9, .int x10, rx_no, rx_no, rx_no] [.int x10, .ref 14] (rx_hp L t hi hl v) Q
    obtain ⟨j2, ej2, hj2, k⟩ := k
    refine rx_w_carts (pc := 29) rfl ⟨j2, ej2, hj2, ?_⟩
    show rx_aw 92 30 [.ref 13, .ref (rx_ct c0), .long x2, rx_no, .long x4, rx_no, .long x6, rx_no, .int x8, .int x9, .int x10, rx_no, rx_no, rx_no] [.ref (rx_ct j2)] (rx_hp L t hi hl v) Q
    refine rx_aw_s 4 (pc := 30) rfl ?_
    refine rx_w_if (c := (some (rx_ct j2) : Option Nat) = (some (rx_ct c0) : Option Nat)) ⟨fun c3 => ?_, fun c3 => ?_⟩
    · have k := k.1 c3
      show rx_aw 92 38 [.ref 13, .ref (rx_ct c0), .long x2, rx_no, .long x4, rx_no, .long x6, rx_no, .int x8, .int x9, .int x10, .ref (rx_ct j2), rx_no, rx_no] [] (rx_hp L t hi hl v) Q
      refine rx_aw_s 3 (pc := 38) rfl ?_
      show rx_aw 92 14 [.ref 13, .ref (rx_ct c0), .long x2, rx_no, .long x4, rx_no, .long x6, rx_no, .int x8, .int x9, .int (x10 + (1 : Int32)), .ref (rx_ct j2), rx_no, rx_no] [] (rx_hp L t hi hl v) Q
      exact rx_aw_le (ls := [.ref 13, .ref (rx_ct c0), .long x2, rx_no, .long x4, rx_no, .long x6, rx_no, .int x8, .int x9, .int (x10 + (1 : Int32)), rx_no, rx_no, rx_no]) ⟨Or.inr rfl, ⟨Or.inr rfl, ⟨Or.inr rfl, ⟨Or.inl rfl, ⟨Or.inr rfl, ⟨Or.inl rfl, ⟨Or.inr rfl, ⟨Or.inl rfl, ⟨Or.inr rfl, ⟨Or.inr rfl, ⟨Or.inr rfl, ⟨Or.inl rfl, ⟨Or.inl rfl, ⟨Or.inl rfl, trivial⟩⟩⟩⟩⟩⟩⟩⟩⟩⟩⟩⟩⟩⟩ k
    · have k := k.2 c3
      show rx_aw 92 41 [.ref 13, .ref (rx_ct c0), .long x2, rx_no, .long x4, rx_no, .long x6, rx_no, .int x8, .int x9, .int x10, .ref (rx_ct j2), rx_no, rx_no] [] (rx_hp L t hi hl v) Q
      refine rx_aw_s 1 (pc := 41) rfl ?_
      show rx_aw 92 43 [.ref 13, .ref (rx_ct c0), .long x2, rx_no, .long x4, rx_no, .long x6, rx_no, .int x8, .int x9, .int x10, .ref (rx_ct j2), rx_no, rx_no] [.ref (rx_ct j2)] (rx_hp L t hi hl v) Q
      refine rx_w_cr hj2 (pc := 43) rfl (by decide) ?_
      show rx_aw 92 46 [.ref 13, .ref (rx_ct c0), .long x2, rx_no, .long x4, rx_no, .long x6, rx_no, .int x8, .int x9, .int x10, .ref (rx_ct j2), rx_no, rx_no] [.ref (rx_ct j2 + 5)] (rx_hp L t hi hl v) Q
      refine rx_aw_s 1 (pc := 46) rfl ?_
      show rx_aw 92 48 [.ref 13, .ref (rx_ct c0), .long x2, rx_no, .long x4, rx_no, .long x6, rx_no, .int x8, .int x9, .int x10, .ref (rx_ct j2), rx_no, rx_no] [.int x9, .ref (rx_ct j2 + 5)] (rx_hp L t hi hl v) Q
      obtain ⟨j4, ej4, hj4, k⟩ := k
      refine rx_aw_lald (pc := 48) (n := 402) j4 ej4 rfl (rx_ck (rx_cart_s hj2).2.2.2.2.2) (Nat.lt_of_lt_of_le (rx_ct_pos _) (Nat.le_add_right _ _)) (rx_cle (rx_cart_s hj2).2.2.2.2.2) hj4 (by decide) ?_
      show rx_aw 92 49 [.ref 13, .ref (rx_ct c0), .long x2, rx_no, .long x4, rx_no, .long x6, rx_no, .int x8, .int x9, .int x10, .ref (rx_ct j2), rx_no, rx_no] [.long (hl (rx_ct j2 + 5) j4)] (rx_hp L t hi hl v) Q
      refine rx_aw_s 5 (pc := 49) rfl ?_
      refine rx_w_if (c := (lg_cmp ((hl (rx_ct j2 + 5) j4) &&& x6) (0 : Int64)) = 0) ⟨fun c5 => ?_, fun c5 => ?_⟩
      · have k := k.1 c5
        show rx_aw 92 59 [.ref 13, .ref (rx_ct c0), .long x2, rx_no, .long x4, rx_no, .long x6, rx_no, .int x8, .int x9, .int x10, .ref (rx_ct j2), rx_no, rx_no] [] (rx_hp L t hi hl v) Q
        refine rx_aw_s 1 (pc := 59) rfl ?_
        show rx_aw 92 61 [.ref 13, .ref (rx_ct c0), .long x2, rx_no, .long x4, rx_no, .long x6, rx_no, .int x8, .int x9, .int x10, .ref (rx_ct j2), rx_no, rx_no] [.ref (rx_ct j2)] (rx_hp L t hi hl v) Q
        refine rx_w_cr hj2 (pc := 61) rfl (by decide) ?_
        show rx_aw 92 64 [.ref 13, .ref (rx_ct c0), .long x2, rx_no, .long x4, rx_no, .long x6, rx_no, .int x8, .int x9, .int x10, .ref (rx_ct j2), rx_no, rx_no] [.ref (rx_ct j2 + 4)] (rx_hp L t hi hl v) Q
        refine rx_aw_s 8 (pc := 64) rfl ?_
        show rx_aw 92 79 [.ref 13, .ref (rx_ct c0), .long x2, rx_no, .long x4, rx_no, .long x6, rx_no, .int x8, .int x9, .int x10, .ref (rx_ct j2), rx_no, rx_no] [.int (if (0 : Int32) < (if (hi 13 5) < (x8 - (1 : Int32)) then (hi 13 5) else (x8 - (1 : Int32))) then (if (hi 13 5) < (x8 - (1 : Int32)) then (hi 13 5) else (x8 - (1 : Int32))) else (0 : Int32)), .ref (rx_ct j2 + 4)] (rx_hp L t hi hl v) Q
        obtain ⟨j6, ej6, hj6, k⟩ := k
        refine rx_aw_lald (pc := 79) (n := 402) j6 ej6 rfl (rx_ck (rx_cart_s hj2).2.2.2.2.1) (Nat.lt_of_lt_of_le (rx_ct_pos _) (Nat.le_add_right _ _)) (rx_cle (rx_cart_s hj2).2.2.2.2.1) hj6 (by decide) ?_
        show rx_aw 92 80 [.ref 13, .ref (rx_ct c0), .long x2, rx_no, .long x4, rx_no, .long x6, rx_no, .int x8, .int x9, .int x10, .ref (rx_ct j2), rx_no, rx_no] [.long (hl (rx_ct j2 + 4) j6)] (rx_hp L t hi hl v) Q
        refine rx_aw_s 3 (pc := 80) rfl ?_
        refine rx_w_if (c := x8 ≤ 0) ⟨fun c7 => ?_, fun c7 => ?_⟩
        · have k := k.1 c7
          show rx_aw 92 108 [.ref 13, .ref (rx_ct c0), .long x2, rx_no, .long x4, rx_no, .long x6, rx_no, .int x8, .int x9, .int x10, .ref (rx_ct j2), .long (hl (rx_ct j2 + 4) j6), rx_no] [] (rx_hp L t hi hl v) Q
          refine rx_aw_s 2 (pc := 108) rfl ?_
          show rx_aw 92 14 [.ref 13, .ref (rx_ct c0), .long x2, rx_no, .long x4, rx_no, .long x6, rx_no, .int x8, .int x9, .int (x10 + (1 : Int32)), .ref (rx_ct j2), .long (hl (rx_ct j2 + 4) j6), rx_no] [] (rx_hp L t hi hl v) Q
          exact rx_aw_le (ls := [.ref 13, .ref (rx_ct c0), .long x2, rx_no, .long x4, rx_no, .long x6, rx_no, .int x8, .int x9, .int (x10 + (1 : Int32)), rx_no, rx_no, rx_no]) ⟨Or.inr rfl, ⟨Or.inr rfl, ⟨Or.inr rfl, ⟨Or.inl rfl, ⟨Or.inr rfl, ⟨Or.inl rfl, ⟨Or.inr rfl, ⟨Or.inl rfl, ⟨Or.inr rfl, ⟨Or.inr rfl, ⟨Or.inr rfl, ⟨Or.inl rfl, ⟨Or.inl rfl, ⟨Or.inl rfl, trivial⟩⟩⟩⟩⟩⟩⟩⟩⟩⟩⟩⟩⟩⟩ k
        · have k := k.2 c7
          show rx_aw 92 87 [.ref 13, .ref (rx_ct c0), .long x2, rx_no, .long x4, rx_no, .long x6, rx_no, .int x8, .int x9, .int x10, .ref (rx_ct j2), .long (hl (rx_ct j2 + 4) j6), rx_no] [] (rx_hp L t hi hl v) Q
          refine rx_aw_s 4 (pc := 87) rfl ?_
          show rx_aw 92 94 [.ref 13, .ref (rx_ct c0), .long x2, rx_no, .long x4, rx_no, .long x6, rx_no, .int x8, .int x9, .int x10, .ref (rx_ct j2), .long (hl (rx_ct j2 + 4) j6), rx_no] [.ref (rx_ct j2), .long (hl (rx_ct j2 + 4) j6), .long x4, .long x2] (rx_hp L t hi hl v) Q
          refine rx_w_cr hj2 (pc := 94) rfl (by decide) ?_
          show rx_aw 92 97 [.ref 13, .ref (rx_ct c0), .long x2, rx_no, .long x4, rx_no, .long x6, rx_no, .int x8, .int x9, .int x10, .ref (rx_ct j2), .long (hl (rx_ct j2 + 4) j6), rx_no] [.ref (rx_ct j2 + 4), .long (hl (rx_ct j2 + 4) j6), .long x4, .long x2] (rx_hp L t hi hl v) Q
          refine rx_aw_s 1 (pc := 97) rfl ?_
          show rx_aw 92 99 [.ref 13, .ref (rx_ct c0), .long x2, rx_no, .long x4, rx_no, .long x6, rx_no, .int x8, .int x9, .int x10, .ref (rx_ct j2), .long (hl (rx_ct j2 + 4) j6), rx_no] [.int x9, .ref (rx_ct j2 + 4), .long (hl (rx_ct j2 + 4) j6), .long x4, .long x2] (rx_hp L t hi hl v) Q
          obtain ⟨j8, ej8, hj8, k⟩ := k
          refine rx_aw_lald (pc := 99) (n := 402) j8 ej8 rfl (rx_ck (rx_cart_s hj2).2.2.2.2.1) (Nat.lt_of_lt_of_le (rx_ct_pos _) (Nat.le_add_right _ _)) (rx_cle (rx_cart_s hj2).2.2.2.2.1) hj8 (by decide) ?_
          show rx_aw 92 100 [.ref 13, .ref (rx_ct c0), .long x2, rx_no, .long x4, rx_no, .long x6, rx_no, .int x8, .int x9, .int x10, .ref (rx_ct j2), .long (hl (rx_ct j2 + 4) j6), rx_no] [.long (hl (rx_ct j2 + 4) j8), .long (hl (rx_ct j2 + 4) j6), .long x4, .long x2] (rx_hp L t hi hl v) Q
          refine rx_w_callI (j := 93) (pc := 100) rfl rfl rfl rfl rfl ?_
          refine rx_aw.mono k (fun r h2 k => ?_)
          obtain ⟨z9, rfl, hi9, hl9, v9, rfl, k⟩ := k
          refine ⟨z9, rfl, ?_⟩
          show rx_aw 92 103 [.ref 13, .ref (rx_ct c0), .long x2, rx_no, .long x4, rx_no, .long x6, rx_no, .int x8, .int x9, .int x10, .ref (rx_ct j2), .long (hl (rx_ct j2 + 4) j6), rx_no] [.int z9] (rx_hp L t hi9 hl9 v9) Q
          refine rx_aw_s 1 (pc := 103) rfl ?_
          refine rx_w_if (c := z9 = 0) ⟨fun c10 => ?_, fun c10 => ?_⟩
          · have k := k.1 c10
            show rx_aw 92 108 [.ref 13, .ref (rx_ct c0), .long x2, rx_no, .long x4, rx_no, .long x6, rx_no, .int x8, .int x9, .int x10, .ref (rx_ct j2), .long (hl (rx_ct j2 + 4) j6), rx_no] [] (rx_hp L t hi9 hl9 v9) Q
            refine rx_aw_s 2 (pc := 108) rfl ?_
            show rx_aw 92 14 [.ref 13, .ref (rx_ct c0), .long x2, rx_no, .long x4, rx_no, .long x6, rx_no, .int x8, .int x9, .int (x10 + (1 : Int32)), .ref (rx_ct j2), .long (hl (rx_ct j2 + 4) j6), rx_no] [] (rx_hp L t hi9 hl9 v9) Q
            exact rx_aw_le (ls := [.ref 13, .ref (rx_ct c0), .long x2, rx_no, .long x4, rx_no, .long x6, rx_no, .int x8, .int x9, .int (x10 + (1 : Int32)), rx_no, rx_no, rx_no]) ⟨Or.inr rfl, ⟨Or.inr rfl, ⟨Or.inr rfl, ⟨Or.inl rfl, ⟨Or.inr rfl, ⟨Or.inl rfl, ⟨Or.inr rfl, ⟨Or.inl rfl, ⟨Or.inr rfl, ⟨Or.inr rfl, ⟨Or.inr rfl, ⟨Or.inl rfl, ⟨Or.inl rfl, ⟨Or.inl rfl, trivial⟩⟩⟩⟩⟩⟩⟩⟩⟩⟩⟩⟩⟩⟩ k
          · have k := k.2 c10
            show rx_aw 92 106 [.ref 13, .ref (rx_ct c0), .long x2, rx_no, .long x4, rx_no, .long x6, rx_no, .int x8, .int x9, .int x10, .ref (rx_ct j2), .long (hl (rx_ct j2 + 4) j6), rx_no] [] (rx_hp L t hi9 hl9 v9) Q
            refine rx_aw_s 1 (pc := 106) rfl ?_
            show rx_aw 92 107 [.ref 13, .ref (rx_ct c0), .long x2, rx_no, .long x4, rx_no, .long x6, rx_no, .int x8, .int x9, .int x10, .ref (rx_ct j2), .long (hl (rx_ct j2 + 4) j6), rx_no] [.int (1 : Int32)] (rx_hp L t hi9 hl9 v9) Q
            exact rx_aw_ret (pc := 107) rfl k
      · have k := k.2 c5
        show rx_aw 92 57 [.ref 13, .ref (rx_ct c0), .long x2, rx_no, .long x4, rx_no, .long x6, rx_no, .int x8, .int x9, .int x10, .ref (rx_ct j2), rx_no, rx_no] [] (rx_hp L t hi hl v) Q
        refine rx_aw_s 1 (pc := 57) rfl ?_
        show rx_aw 92 58 [.ref 13, .ref (rx_ct c0), .long x2, rx_no, .long x4, rx_no, .long x6, rx_no, .int x8, .int x9, .int x10, .ref (rx_ct j2), rx_no, rx_no] [.int (1 : Int32)] (rx_hp L t hi hl v) Q
        exact rx_aw_ret (pc := 58) rfl k
set_option maxRecDepth 100000 in
/-- CartFloor.swap(JJJJ)Z -/
theorem w93_swap {L : Nat} {t : List (Nat × Nat)} {hi : Nat → Nat → Int32} {hl : Nat → Nat → Int64} {v : Nat → Nat → Option Nat} {Q : Option Value → rx_H → Prop} {a0 : Int64} {a1 : Int64} {a2 : Int64} {a3 : Int64} (k : (((lg_cmp (a0 &&& a3) (0 : Int64)) = 0 → Q (some (.int (0 : Int32))) (rx_hp L t hi hl v)) ∧ (¬ ((lg_cmp (a0 &&& a3) (0 : Int64)) = 0) → (((lg_cmp (a1 &&& a2) (0 : Int64)) = 0 → Q (some (.int (0 : Int32))) (rx_hp L t hi hl v)) ∧ (¬ ((lg_cmp (a1 &&& a2) (0 : Int64)) = 0) → (((lg_cmp (a0 &&& a3) (a1 &&& a2)) = 0 → rx_me 13 [.long (a0 &&& a3)] (rx_hp L t hi hl v) (fun r h2 => ∃ z4 : Int32, r = some (.int z4) ∧ rx_ok2 L t h2 (fun hi4 hl4 v4 => ((z4 ≤ (1 : Int32) → Q (some (.int (0 : Int32))) (rx_hp L t hi4 hl4 v4)) ∧ (¬ (z4 ≤ (1 : Int32)) → Q (some (.int (1 : Int32))) (rx_hp L t hi4 hl4 v4)))))) ∧ (¬ ((lg_cmp (a0 &&& a3) (a1 &&& a2)) = 0) → Q (some (.int (1 : Int32))) (rx_hp L t hi hl v)))))))) : rx_me 93 [.long a0, .long a1, .long a2, .long a3] (rx_hp L t hi hl v) Q := by
  show rx_aw 93 0 [.long a0, rx_no, .long a1, rx_no, .long a2, rx_no, .long a3, rx_no, rx_no, rx_no, rx_no, rx_no] [] (rx_hp L t hi hl v) Q
  refine rx_aw_s 12 (pc := 0) rfl ?_
  refine rx_w_if (c := (lg_cmp (a0 &&& a3) (0 : Int64)) = 0) ⟨fun c1 => ?_, fun c1 => ?_⟩
  · have k := k.1 c1
    show rx_aw 93 47 [.long a0, rx_no, .long a1, rx_no, .long a2, rx_no, .long a3, rx_no, .long (a0 &&& a3), rx_no, .long (a1 &&& a2), rx_no] [] (rx_hp L t hi hl v) Q
    refine rx_aw_s 1 (pc := 47) rfl ?_
    show rx_aw 93 48 [.long a0, rx_no, .long a1, rx_no, .long a2, rx_no, .long a3, rx_no, .long (a0 &&& a3), rx_no, .long (a1 &&& a2), rx_no] [.int (0 : Int32)] (rx_hp L t hi hl v) Q
    exact rx_aw_ret (pc := 48) rfl k
  · have k := k.2 c1
    show rx_aw 93 19 [.long a0, rx_no, .long a1, rx_no, .long a2, rx_no, .long a3, rx_no, .long (a0 &&& a3), rx_no, .long (a1 &&& a2), rx_no] [] (rx_hp L t hi hl v) Q
    refine rx_aw_s 4 (pc := 19) rfl ?_
    refine rx_w_if (c := (lg_cmp (a1 &&& a2) (0 : Int64)) = 0) ⟨fun c2 => ?_, fun c2 => ?_⟩
    · have k := k.1 c2
      show rx_aw 93 47 [.long a0, rx_no, .long a1, rx_no, .long a2, rx_no, .long a3, rx_no, .long (a0 &&& a3), rx_no, .long (a1 &&& a2), rx_no] [] (rx_hp L t hi hl v) Q
      refine rx_aw_s 1 (pc := 47) rfl ?_
      show rx_aw 93 48 [.long a0, rx_no, .long a1, rx_no, .long a2, rx_no, .long a3, rx_no, .long (a0 &&& a3), rx_no, .long (a1 &&& a2), rx_no] [.int (0 : Int32)] (rx_hp L t hi hl v) Q
      exact rx_aw_ret (pc := 48) rfl k
    · have k := k.2 c2
      show rx_aw 93 26 [.long a0, rx_no, .long a1, rx_no, .long a2, rx_no, .long a3, rx_no, .long (a0 &&& a3), rx_no, .long (a1 &&& a2), rx_no] [] (rx_hp L t hi hl v) Q
      refine rx_aw_s 4 (pc := 26) rfl ?_
      refine rx_w_ifn (c := (lg_cmp (a0 &&& a3) (a1 &&& a2)) = 0) ⟨fun c3 => ?_, fun c3 => ?_⟩
      · have k := k.1 c3
        show rx_aw 93 34 [.long a0, rx_no, .long a1, rx_no, .long a2, rx_no, .long a3, rx_no, .long (a0 &&& a3), rx_no, .long (a1 &&& a2), rx_no] [] (rx_hp L t hi hl v) Q
        refine rx_aw_s 1 (pc := 34) rfl ?_
        show rx_aw 93 36 [.long a0, rx_no, .long a1, rx_no, .long a2, rx_no, .long a3, rx_no, .long (a0 &&& a3), rx_no, .long (a1 &&& a2), rx_no] [.long (a0 &&& a3)] (rx_hp L t hi hl v) Q
        refine rx_w_callI (j := 13) (pc := 36) rfl rfl rfl rfl rfl ?_
        refine rx_aw.mono k (fun r h2 k => ?_)
        obtain ⟨z4, rfl, hi4, hl4, v4, rfl, k⟩ := k
        refine ⟨z4, rfl, ?_⟩
        show rx_aw 93 39 [.long a0, rx_no, .long a1, rx_no, .long a2, rx_no, .long a3, rx_no, .long (a0 &&& a3), rx_no, .long (a1 &&& a2), rx_no] [.int z4] (rx_hp L t hi4 hl4 v4) Q
        refine rx_aw_s 2 (pc := 39) rfl ?_
        refine rx_w_if (c := z4 ≤ (1 : Int32)) ⟨fun c5 => ?_, fun c5 => ?_⟩
        · have k := k.1 c5
          show rx_aw 93 47 [.long a0, rx_no, .long a1, rx_no, .long a2, rx_no, .long a3, rx_no, .long (a0 &&& a3), rx_no, .long (a1 &&& a2), rx_no] [] (rx_hp L t hi4 hl4 v4) Q
          refine rx_aw_s 1 (pc := 47) rfl ?_
          show rx_aw 93 48 [.long a0, rx_no, .long a1, rx_no, .long a2, rx_no, .long a3, rx_no, .long (a0 &&& a3), rx_no, .long (a1 &&& a2), rx_no] [.int (0 : Int32)] (rx_hp L t hi4 hl4 v4) Q
          exact rx_aw_ret (pc := 48) rfl k
        · have k := k.2 c5
          show rx_aw 93 43 [.long a0, rx_no, .long a1, rx_no, .long a2, rx_no, .long a3, rx_no, .long (a0 &&& a3), rx_no, .long (a1 &&& a2), rx_no] [] (rx_hp L t hi4 hl4 v4) Q
          refine rx_aw_s 2 (pc := 43) rfl ?_
          show rx_aw 93 48 [.long a0, rx_no, .long a1, rx_no, .long a2, rx_no, .long a3, rx_no, .long (a0 &&& a3), rx_no, .long (a1 &&& a2), rx_no] [.int (1 : Int32)] (rx_hp L t hi4 hl4 v4) Q
          exact rx_aw_ret (pc := 48) rfl k
      · have k := k.2 c3
        show rx_aw 93 43 [.long a0, rx_no, .long a1, rx_no, .long a2, rx_no, .long a3, rx_no, .long (a0 &&& a3), rx_no, .long (a1 &&& a2), rx_no] [] (rx_hp L t hi hl v) Q
        refine rx_aw_s 2 (pc := 43) rfl ?_
        show rx_aw 93 48 [.long a0, rx_no, .long a1, rx_no, .long a2, rx_no, .long a3, rx_no, .long (a0 &&& a3), rx_no, .long (a1 &&& a2), rx_no] [.int (1 : Int32)] (rx_hp L t hi hl v) Q
        exact rx_aw_ret (pc := 48) rfl k
set_option maxRecDepth 100000 in
/-- CartFloor$Traffic.restoreWays()V -/
theorem w94_restoreWays {L : Nat} {t : List (Nat × Nat)} {hi : Nat → Nat → Int32} {hl : Nat → Nat → Int64} {v : Nat → Nat → Option Nat} {Q : Option Value → rx_H → Prop}  (k : rx_aw 94 2 [.ref 13, .int (0 : Int32)] [] (rx_hp L t hi hl v) Q) : rx_me 94 [.ref 13] (rx_hp L t hi hl v) Q := by
  show rx_aw 94 0 [.ref 13, rx_no] [] (rx_hp L t hi hl v) Q
  refine rx_aw_s 2 (pc := 0) rfl ?_
  show rx_aw 94 2 [.ref 13, .int (0 : Int32)] [] (rx_hp L t hi hl v) Q
  exact k
set_option maxRecDepth 100000 in
theorem w94_restoreWays_2 {L : Nat} {t : List (Nat × Nat)} {hi : Nat → Nat → Int32} {hl : Nat → Nat → Int64} {v : Nat → Nat → Option Nat} {Q : Option Value → rx_H → Prop} {x1 : Int32} (k : (((hi 13 3) ≤ x1 → rx_me 41 [.ref 13] (rx_hp L t hi hl v) (fun r h2 => r = none ∧ rx_ok2 L t h2 (fun hi2 hl2 v2 => Q none (rx_hp L t hi2 hl2 v2)))) ∧ (¬ ((hi 13 3) ≤ x1) → (∃ j3 : Nat, x1 = nI j3 ∧ j3 < 6 ∧ rx_me 95 [.ref (rx_ct j3)] (rx_hp L t hi hl v) (fun r h2 => r = none ∧ rx_ok2 L t h2 (fun hi4 hl4 v4 => rx_aw 94 2 [.ref 13, .int (x1 + (1 : Int32))] [] (rx_hp L t hi4 hl4 v4) Q)))))) : rx_aw 94 2 [.ref 13, .int x1] [] (rx_hp L t hi hl v) Q := by
  refine rx_aw_s 4 (pc := 2) rfl ?_
  refine rx_w_if (c := (hi 13 3) ≤ x1) ⟨fun c1 => ?_, fun c1 => ?_⟩
  · have k := k.1 c1
    show rx_aw 94 25 [.ref 13, .int x1] [] (rx_hp L t hi hl v) Q
    refine rx_aw_s 1 (pc := 25) rfl ?_
    show rx_aw 94 26 [.ref 13, .int x1] [.ref 13] (rx_hp L t hi hl v) Q
    refine rx_w_callV (j := 41) (pc := 26) rfl rfl rfl rfl rfl ?_
    refine rx_aw.mono k (fun r h2 k => ?_)
    obtain ⟨rfl, hi2, hl2, v2, rfl, k⟩ := k
    refine ⟨rfl, ?_⟩
    show rx_aw 94 29 [.ref 13, .int x1] [] (rx_hp L t hi2 hl2 v2) Q
    exact rx_aw_ret (pc := 29) rfl k
  · have k := k.2 c1
    show rx_aw 94 10 [.ref 13, .int x1] [] (rx_hp L t hi hl v) Q
    refine rx_aw_s 3 (pc := 10) rfl ?_
    show rx_aw 94 15 [.ref 13, .int x1] [.int x1, .ref 14] (rx_hp L t hi hl v) Q
    obtain ⟨j3, ej3, hj3, k⟩ := k
    refine rx_w_carts (pc := 15) rfl ⟨j3, ej3, hj3, ?_⟩
    show rx_aw 94 16 [.ref 13, .int x1] [.ref (rx_ct j3)] (rx_hp L t hi hl v) Q
    refine rx_w_callV (j := 95) (pc := 16) rfl rfl rfl rfl (rx_mayc rfl rfl rfl rfl (rx_ck (rx_cart_s hj3).1) (rx_ct_pos _)) ?_
    refine rx_aw.mono k (fun r h2 k => ?_)
    obtain ⟨rfl, hi4, hl4, v4, rfl, k⟩ := k
    refine ⟨rfl, ?_⟩
    show rx_aw 94 19 [.ref 13, .int x1] [] (rx_hp L t hi4 hl4 v4) Q
    refine rx_aw_s 2 (pc := 19) rfl ?_
    show rx_aw 94 2 [.ref 13, .int (x1 + (1 : Int32))] [] (rx_hp L t hi4 hl4 v4) Q
    exact k
set_option maxRecDepth 100000 in
/-- CartFloor.dawn()I -/
theorem w96_dawn {L : Nat} {t : List (Nat × Nat)} {hi : Nat → Nat → Int32} {hl : Nat → Nat → Int64} {v : Nat → Nat → Option Nat} {Q : Option Value → rx_H → Prop}  (k : rx_aw 96 2 [.ref 1, .int (0 : Int32)] [] (rx_hp L t hi hl v) Q) : rx_me 96 [.ref 1] (rx_hp L t hi hl v) Q := by
  show rx_aw 96 0 [.ref 1, rx_no] [] (rx_hp L t hi hl v) Q
  refine rx_aw_s 2 (pc := 0) rfl ?_
  show rx_aw 96 2 [.ref 1, .int (0 : Int32)] [] (rx_hp L t hi hl v) Q
  exact k
set_option maxRecDepth 100000 in
theorem w96_dawn_2 {L : Nat} {t : List (Nat × Nat)} {hi : Nat → Nat → Int32} {hl : Nat → Nat → Int64} {v : Nat → Nat → Option Nat} {Q : Option Value → rx_H → Prop} {x1 : Int32} (k : (((hi 13 3) ≤ x1 → rx_aw 96 44 [.ref 1, .int (0 : Int32)] [] (rx_hp L t hi hl v) Q) ∧ (¬ ((hi 13 3) ≤ x1) → (∃ j2 : Nat, x1 = nI j2 ∧ j2 < 6 ∧ rx_me 47 [.ref 13, .int x1, .int (402 : Int32)] (rx_hp L t hi hl v) (fun r h2 => ∃ z3 : Int32, r = some (.int z3) ∧ rx_ok2 L t h2 (fun hi3 hl3 v3 => rx_me 57 [.ref (rx_ct j2), .int z3] (rx_hp L t hi3 hl3 v3) (fun r h2 => r = none ∧ rx_ok2 L t h2 (fun hi4 hl4 v4 => rx_aw 96 2 [.ref 1, .int (x1 + (1 : Int32))] [] (rx_hp L t hi4 hl4 v4) Q)))))))) : rx_aw 96 2 [.ref 1, .int x1] [] (rx_hp L t hi hl v) Q := by
  refine rx_aw_s 5 (pc := 2) rfl ?_
  refine rx_w_if (c := (hi 13 3) ≤ x1) ⟨fun c1 => ?_, fun c1 => ?_⟩
  · have k := k.1 c1
    show rx_aw 96 42 [.ref 1, .int x1] [] (rx_hp L t hi hl v) Q
    refine rx_aw_s 2 (pc := 42) rfl ?_
    show rx_aw 96 44 [.ref 1, .int (0 : Int32)] [] (rx_hp L t hi hl v) Q
    exact k
  · have k := k.2 c1
    show rx_aw 96 13 [.ref 1, .int x1] [] (rx_hp L t hi hl v) Q
    refine rx_aw_s 4 (pc := 13) rfl ?_
    show rx_aw 96 21 [.ref 1, .int x1] [.int x1, .ref 14] (rx_hp L t hi hl v) Q
    obtain ⟨j2, ej2, hj2, k⟩ := k
    refine rx_w_carts (pc := 21) rfl ⟨j2, ej2, hj2, ?_⟩
    show rx_aw 96 22 [.ref 1, .int x1] [.ref (rx_ct j2)] (rx_hp L t hi hl v) Q
    refine rx_aw_s 4 (pc := 22) rfl ?_
    show rx_aw 96 30 [.ref 1, .int x1] [.int (402 : Int32), .int x1, .ref 13, .ref (rx_ct j2)] (rx_hp L t hi hl v) Q
    refine rx_w_callI (j := 47) (pc := 30) rfl rfl rfl rfl rfl ?_
    refine rx_aw.mono k (fun r h2 k => ?_)
    obtain ⟨z3, rfl, hi3, hl3, v3, rfl, k⟩ := k
    refine ⟨z3, rfl, ?_⟩
    show rx_aw 96 33 [.ref 1, .int x1] [.int z3, .ref (rx_ct j2)] (rx_hp L t hi3 hl3 v3) Q
    refine rx_w_callV (j := 57) (pc := 33) rfl rfl rfl rfl (rx_mayc rfl rfl rfl rfl (rx_ck (rx_cart_s hj2).1) (rx_ct_pos _)) ?_
    refine rx_aw.mono k (fun r h2 k => ?_)
    obtain ⟨rfl, hi4, hl4, v4, rfl, k⟩ := k
    refine ⟨rfl, ?_⟩
    show rx_aw 96 36 [.ref 1, .int x1] [] (rx_hp L t hi4 hl4 v4) Q
    refine rx_aw_s 2 (pc := 36) rfl ?_
    show rx_aw 96 2 [.ref 1, .int (x1 + (1 : Int32))] [] (rx_hp L t hi4 hl4 v4) Q
    exact k
set_option maxRecDepth 100000 in
theorem w96_dawn_44 {L : Nat} {t : List (Nat × Nat)} {hi : Nat → Nat → Int32} {hl : Nat → Nat → Int64} {v : Nat → Nat → Option Nat} {Q : Option Value → rx_H → Prop} {x1 : Int32} (k : (((hi 13 4) ≤ x1 → rx_me 41 [.ref 13] (rx_hp L t (rx_u hi 76 3 (0 : Int32)) hl v) (fun r h2 => r = none ∧ rx_ok2 L t h2 (fun hi6 hl6 v6 => Q (some (.int ((rx_u hi6 1 8 ((hi6 1 8) + (1 : Int32))) 1 8))) (rx_hp L t (rx_u hi6 1 8 ((hi6 1 8) + (1 : Int32))) hl6 v6)))) ∧ (¬ ((hi 13 4) ≤ x1) → (∃ j7 : Nat, x1 = nI j7 ∧ j7 < 12 ∧ rx_me 38 [.ref 13, .int x1, .int (402 : Int32)] (rx_hp L t hi hl v) (fun r h2 => ∃ z8 : Int32, r = some (.int z8) ∧ rx_ok2 L t h2 (fun hi8 hl8 v8 => rx_aw 96 44 [.ref 1, .int (x1 + (1 : Int32))] [] (rx_hp L t (rx_u hi8 (rx_sf j7) 1 z8) hl8 v8) Q)))))) : rx_aw 96 44 [.ref 1, .int x1] [] (rx_hp L t hi hl v) Q := by
  refine rx_aw_s 5 (pc := 44) rfl ?_
  refine rx_w_if (c := (hi 13 4) ≤ x1) ⟨fun c5 => ?_, fun c5 => ?_⟩
  · have k := k.1 c5
    show rx_aw 96 84 [.ref 1, .int x1] [] (rx_hp L t hi hl v) Q
    refine rx_aw_s 6 (pc := 84) rfl ?_
    show rx_aw 96 96 [.ref 1, .int x1] [.ref 13] (rx_hp L t (rx_u hi 76 3 (0 : Int32)) hl v) Q
    refine rx_w_callV (j := 41) (pc := 96) rfl rfl rfl rfl rfl ?_
    refine rx_aw.mono k (fun r h2 k => ?_)
    obtain ⟨rfl, hi6, hl6, v6, rfl, k⟩ := k
    refine ⟨rfl, ?_⟩
    show rx_aw 96 99 [.ref 1, .int x1] [] (rx_hp L t hi6 hl6 v6) Q
    refine rx_aw_s 8 (pc := 99) rfl ?_
    show rx_aw 96 113 [.ref 1, .int x1] [.int ((rx_u hi6 1 8 ((hi6 1 8) + (1 : Int32))) 1 8)] (rx_hp L t (rx_u hi6 1 8 ((hi6 1 8) + (1 : Int32))) hl6 v6) Q
    exact rx_aw_ret (pc := 113) rfl k
  · have k := k.2 c5
    show rx_aw 96 55 [.ref 1, .int x1] [] (rx_hp L t hi hl v) Q
    refine rx_aw_s 4 (pc := 55) rfl ?_
    show rx_aw 96 63 [.ref 1, .int x1] [.int x1, .ref 15] (rx_hp L t hi hl v) Q
    obtain ⟨j7, ej7, hj7, k⟩ := k
    refine rx_w_shelves (pc := 63) rfl ⟨j7, ej7, hj7, ?_⟩
    show rx_aw 96 64 [.ref 1, .int x1] [.ref (rx_sf j7)] (rx_hp L t hi hl v) Q
    refine rx_aw_s 4 (pc := 64) rfl ?_
    show rx_aw 96 72 [.ref 1, .int x1] [.int (402 : Int32), .int x1, .ref 13, .ref (rx_sf j7)] (rx_hp L t hi hl v) Q
    refine rx_w_callI (j := 38) (pc := 72) rfl rfl rfl rfl rfl ?_
    refine rx_aw.mono k (fun r h2 k => ?_)
    obtain ⟨z8, rfl, hi8, hl8, v8, rfl, k⟩ := k
    refine ⟨z8, rfl, ?_⟩
    show rx_aw 96 75 [.ref 1, .int x1] [.int z8, .ref (rx_sf j7)] (rx_hp L t hi8 hl8 v8) Q
    refine rx_w_sp hj7 (pc := 75) rfl ?_
    show rx_aw 96 78 [.ref 1, .int x1] [] (rx_hp L t (rx_u hi8 (rx_sf j7) 1 z8) hl8 v8) Q
    refine rx_aw_s 2 (pc := 78) rfl ?_
    show rx_aw 96 44 [.ref 1, .int (x1 + (1 : Int32))] [] (rx_hp L t (rx_u hi8 (rx_sf j7) 1 z8) hl8 v8) Q
    exact k
set_option maxRecDepth 100000 in
/-- CartFloor.tell(II)I -/
theorem w97_tell {L : Nat} {t : List (Nat × Nat)} {hi : Nat → Nat → Int32} {hl : Nat → Nat → Int64} {v : Nat → Nat → Option Nat} {Q : Option Value → rx_H → Prop} {a0 : Int32} {a1 : Int32} (k : ((a0 < 0 → Q (some (.int (-2 : Int32))) (rx_hp L t hi hl v)) ∧ (¬ (a0 < 0) → (((6 : Int32) < a0 → Q (some (.int (-2 : Int32))) (rx_hp L t hi hl v)) ∧ (¬ ((6 : Int32) < a0) → ((a1 < (1 : Int32) → Q (some (.int (-2 : Int32))) (rx_hp L t hi hl v)) ∧ (¬ (a1 < (1 : Int32)) → ((a1 ≤ ((400 : Int32) - (hi 84 5)) → rx_me 98 [.ref 84, .int a0, .int a1] (rx_hp L t hi hl v) (fun r h2 => ∃ z5 : Int32, r = some (.int z5) ∧ rx_ok2 L t h2 (fun hi5 hl5 v5 => Q (some (.int z5)) (rx_hp L t hi5 hl5 v5)))) ∧ (¬ (a1 ≤ ((400 : Int32) - (hi 84 5))) → Q (some (.int (-2 : Int32))) (rx_hp L t hi hl v)))))))))) : rx_me 97 [.ref 1, .int a0, .int a1] (rx_hp L t hi hl v) Q := by
  show rx_aw 97 0 [.ref 1, .int a0, .int a1] [] (rx_hp L t hi hl v) Q
  refine rx_aw_s 2 (pc := 0) rfl ?_
  refine rx_w_if (c := a0 < 0) ⟨fun c1 => ?_, fun c1 => ?_⟩
  · have k := k.1 c1
    show rx_aw 97 30 [.ref 1, .int a0, .int a1] [] (rx_hp L t hi hl v) Q
    refine rx_aw_s 1 (pc := 30) rfl ?_
    show rx_aw 97 32 [.ref 1, .int a0, .int a1] [.int (-2 : Int32)] (rx_hp L t hi hl v) Q
    exact rx_aw_ret (pc := 32) rfl k
  · have k := k.2 c1
    show rx_aw 97 4 [.ref 1, .int a0, .int a1] [] (rx_hp L t hi hl v) Q
    refine rx_aw_s 3 (pc := 4) rfl ?_
    refine rx_w_if (c := (6 : Int32) < a0) ⟨fun c2 => ?_, fun c2 => ?_⟩
    · have k := k.1 c2
      show rx_aw 97 30 [.ref 1, .int a0, .int a1] [] (rx_hp L t hi hl v) Q
      refine rx_aw_s 1 (pc := 30) rfl ?_
      show rx_aw 97 32 [.ref 1, .int a0, .int a1] [.int (-2 : Int32)] (rx_hp L t hi hl v) Q
      exact rx_aw_ret (pc := 32) rfl k
    · have k := k.2 c2
      show rx_aw 97 10 [.ref 1, .int a0, .int a1] [] (rx_hp L t hi hl v) Q
      refine rx_aw_s 3 (pc := 10) rfl ?_
      refine rx_w_if (c := a1 < (1 : Int32)) ⟨fun c3 => ?_, fun c3 => ?_⟩
      · have k := k.1 c3
        show rx_aw 97 30 [.ref 1, .int a0, .int a1] [] (rx_hp L t hi hl v) Q
        refine rx_aw_s 1 (pc := 30) rfl ?_
        show rx_aw 97 32 [.ref 1, .int a0, .int a1] [.int (-2 : Int32)] (rx_hp L t hi hl v) Q
        exact rx_aw_ret (pc := 32) rfl k
      · have k := k.2 c3
        show rx_aw 97 15 [.ref 1, .int a0, .int a1] [] (rx_hp L t hi hl v) Q
        refine rx_aw_s 7 (pc := 15) rfl ?_
        refine rx_w_if (c := a1 ≤ ((400 : Int32) - (hi 84 5))) ⟨fun c4 => ?_, fun c4 => ?_⟩
        · have k := k.1 c4
          show rx_aw 97 33 [.ref 1, .int a0, .int a1] [] (rx_hp L t hi hl v) Q
          refine rx_aw_s 4 (pc := 33) rfl ?_
          show rx_aw 97 39 [.ref 1, .int a0, .int a1] [.int a1, .int a0, .ref 84] (rx_hp L t hi hl v) Q
          refine rx_w_callI (j := 98) (pc := 39) rfl rfl rfl rfl rfl ?_
          refine rx_aw.mono k (fun r h2 k => ?_)
          obtain ⟨z5, rfl, hi5, hl5, v5, rfl, k⟩ := k
          refine ⟨z5, rfl, ?_⟩
          show rx_aw 97 42 [.ref 1, .int a0, .int a1] [.int z5] (rx_hp L t hi5 hl5 v5) Q
          exact rx_aw_ret (pc := 42) rfl k
        · have k := k.2 c4
          show rx_aw 97 30 [.ref 1, .int a0, .int a1] [] (rx_hp L t hi hl v) Q
          refine rx_aw_s 1 (pc := 30) rfl ?_
          show rx_aw 97 32 [.ref 1, .int a0, .int a1] [.int (-2 : Int32)] (rx_hp L t hi hl v) Q
          exact rx_aw_ret (pc := 32) rfl k
set_option maxRecDepth 100000 in
/-- CartFloor$Told.add(II)I -/
theorem w98_add {L : Nat} {t : List (Nat × Nat)} {hi : Nat → Nat → Int32} {hl : Nat → Nat → Int64} {v : Nat → Nat → Option Nat} {Q : Option Value → rx_H → Prop} {a0 : Int32} {a1 : Int32} (k : rx_me 32 [.ref 85, .int (hi 84 5), .int ((hi 84 5) + a1), .int ((Int32.toInt8 a0).toInt32)] (rx_hp L t hi hl v) (fun r h2 => r = none ∧ rx_ok2 L t h2 (fun hi1 hl1 v1 => Q (some (.int ((rx_u hi1 84 5 ((hi1 84 5) + a1)) 84 5))) (rx_hp L t (rx_u hi1 84 5 ((hi1 84 5) + a1)) hl1 v1)))) : rx_me 98 [.ref 84, .int a0, .int a1] (rx_hp L t hi hl v) Q := by
  show rx_aw 98 0 [.ref 84, .int a0, .int a1] [] (rx_hp L t hi hl v) Q
  refine rx_aw_s 10 (pc := 0) rfl ?_
  show rx_aw 98 16 [.ref 84, .int a0, .int a1] [.int ((Int32.toInt8 a0).toInt32), .int ((hi 84 5) + a1), .int (hi 84 5), .ref 85] (rx_hp L t hi hl v) Q
  refine rx_w_callV (j := 32) (pc := 16) rfl rfl rfl rfl rfl ?_
  refine rx_aw.mono k (fun r h2 k => ?_)
  obtain ⟨rfl, hi1, hl1, v1, rfl, k⟩ := k
  refine ⟨rfl, ?_⟩
  show rx_aw 98 19 [.ref 84, .int a0, .int a1] [] (rx_hp L t hi1 hl1 v1) Q
  refine rx_aw_s 8 (pc := 19) rfl ?_
  show rx_aw 98 33 [.ref 84, .int a0, .int a1] [.int ((rx_u hi1 84 5 ((hi1 84 5) + a1)) 84 5)] (rx_hp L t (rx_u hi1 84 5 ((hi1 84 5) + a1)) hl1 v1) Q
  exact rx_aw_ret (pc := 33) rfl k
set_option maxRecDepth 100000 in
/-- CartFloor.hush()I -/
theorem w99_hush {L : Nat} {t : List (Nat × Nat)} {hi : Nat → Nat → Int32} {hl : Nat → Nat → Int64} {v : Nat → Nat → Option Nat} {Q : Option Value → rx_H → Prop}  (k : Q (some (.int (hi 84 5))) (rx_hp L t (rx_u hi 84 5 (0 : Int32)) hl v)) : rx_me 99 [.ref 1] (rx_hp L t hi hl v) Q := by
  show rx_aw 99 0 [.ref 1, rx_no] [] (rx_hp L t hi hl v) Q
  refine rx_aw_s 9 (pc := 0) rfl ?_
  show rx_aw 99 17 [.ref 1, .int (hi 84 5)] [.int (hi 84 5)] (rx_hp L t (rx_u hi 84 5 (0 : Int32)) hl v) Q
  exact rx_aw_ret (pc := 17) rfl k
set_option maxRecDepth 100000 in
/-- CartFloor.check(I)I -/
theorem w100_check {L : Nat} {t : List (Nat × Nat)} {hi : Nat → Nat → Int32} {hl : Nat → Nat → Int64} {v : Nat → Nat → Option Nat} {Q : Option Value → rx_H → Prop} {a0 : Int32} (k : rx_me 59 [.ref 13, .int a0] (rx_hp L t hi hl v) (fun r h2 => ∃ z1 : Option Nat, r = some (va_rf z1) ∧ rx_ok2 L t h2 (fun hi1 hl1 v1 => (z1 = none ∧ Q (some (.int (-2 : Int32))) (rx_hp L t hi1 hl1 v1)) ∨ (∃ q1 : Nat, q1 < 6 ∧ z1 = some (rx_ct q1) ∧ rx_me 101 [.ref 84, .ref (rx_ct q1)] (rx_hp L t hi1 hl1 v1) (fun r h2 => ∃ z2 : Int32, r = some (.int z2) ∧ rx_ok2 L t h2 (fun hi2 hl2 v2 => Q (some (.int z2)) (rx_hp L t hi2 hl2 v2))))))) : rx_me 100 [.ref 1, .int a0] (rx_hp L t hi hl v) Q := by
  show rx_aw 100 0 [.ref 1, .int a0, rx_no] [] (rx_hp L t hi hl v) Q
  refine rx_aw_s 3 (pc := 0) rfl ?_
  show rx_aw 100 5 [.ref 1, .int a0, rx_no] [.int a0, .ref 13] (rx_hp L t hi hl v) Q
  refine rx_w_callR (j := 59) (pc := 5) rfl rfl rfl rfl rfl ?_
  refine rx_aw.mono k (fun r h2 k => ?_)
  obtain ⟨z1, rfl, hi1, hl1, v1, rfl, k⟩ := k
  refine ⟨z1, rfl, ?_⟩
  rcases k with ⟨rfl, k⟩ | ⟨q1, hq1, rfl, k⟩
  · show rx_aw 100 8 [.ref 1, .int a0, rx_no] [.null] (rx_hp L t hi1 hl1 v1) Q
    refine rx_aw_s 5 (pc := 8) rfl ?_
    show rx_aw 100 26 [.ref 1, .int a0, .null] [.int (-2 : Int32)] (rx_hp L t hi1 hl1 v1) Q
    exact rx_aw_ret (pc := 26) rfl k
  · show rx_aw 100 8 [.ref 1, .int a0, rx_no] [.ref (rx_ct q1)] (rx_hp L t hi1 hl1 v1) Q
    refine rx_aw_s 6 (pc := 8) rfl ?_
    show rx_aw 100 23 [.ref 1, .int a0, .ref (rx_ct q1)] [.ref (rx_ct q1), .ref 84] (rx_hp L t hi1 hl1 v1) Q
    refine rx_w_callI (j := 101) (pc := 23) rfl rfl rfl rfl rfl ?_
    refine rx_aw.mono k (fun r h2 k => ?_)
    obtain ⟨z2, rfl, hi2, hl2, v2, rfl, k⟩ := k
    refine ⟨z2, rfl, ?_⟩
    show rx_aw 100 26 [.ref 1, .int a0, .ref (rx_ct q1)] [.int z2] (rx_hp L t hi2 hl2 v2) Q
    exact rx_aw_ret (pc := 26) rfl k
set_option maxRecDepth 100000 in
/-- CartFloor$Told.judge(LCartFloor$Cart;)I -/
theorem w101_judge {L : Nat} {t : List (Nat × Nat)} {hi : Nat → Nat → Int32} {hl : Nat → Nat → Int64} {v : Nat → Nat → Option Nat} {Q : Option Value → rx_H → Prop} {c0 : Nat} (hc0 : c0 < 6) (k : rx_me 102 [.ref 84, .ref (rx_ct c0)] (rx_hp L t hi hl v) (fun r h2 => r = none ∧ rx_ok2 L t h2 (fun hi1 hl1 v1 => rx_aw 101 36 [.ref 84, .ref (rx_ct c0), .int (hi1 (rx_ct c0) 6), .long (0 : Int64), rx_no, .long (0 : Int64), rx_no, .int ((if (hi1 84 5) < (hi1 13 5) then (hi1 13 5) else (hi1 84 5)) + (1 : Int32)), .int (0 : Int32), rx_no, rx_no, rx_no, rx_no, rx_no, rx_no, rx_no, rx_no] [] (rx_hp L t hi1 hl1 v1) Q))) : rx_me 101 [.ref 84, .ref (rx_ct c0)] (rx_hp L t hi hl v) Q := by
  show rx_aw 101 0 [.ref 84, .ref (rx_ct c0), rx_no, rx_no, rx_no, rx_no, rx_no, rx_no, rx_no, rx_no, rx_no, rx_no, rx_no, rx_no, rx_no, rx_no, rx_no] [] (rx_hp L t hi hl v) Q
  refine rx_aw_s 2 (pc := 0) rfl ?_
  show rx_aw 101 2 [.ref 84, .ref (rx_ct c0), rx_no, rx_no, rx_no, rx_no, rx_no, rx_no, rx_no, rx_no, rx_no, rx_no, rx_no, rx_no, rx_no, rx_no, rx_no] [.ref (rx_ct c0), .ref 84] (rx_hp L t hi hl v) Q
  refine rx_w_callV (j := 102) (pc := 2) rfl rfl rfl rfl rfl ?_
  refine rx_aw.mono k (fun r h2 k => ?_)
  obtain ⟨rfl, hi1, hl1, v1, rfl, k⟩ := k
  refine ⟨rfl, ?_⟩
  show rx_aw 101 5 [.ref 84, .ref (rx_ct c0), rx_no, rx_no, rx_no, rx_no, rx_no, rx_no, rx_no, rx_no, rx_no, rx_no, rx_no, rx_no, rx_no, rx_no, rx_no] [] (rx_hp L t hi1 hl1 v1) Q
  refine rx_aw_s 1 (pc := 5) rfl ?_
  show rx_aw 101 6 [.ref 84, .ref (rx_ct c0), rx_no, rx_no, rx_no, rx_no, rx_no, rx_no, rx_no, rx_no, rx_no, rx_no, rx_no, rx_no, rx_no, rx_no, rx_no] [.ref (rx_ct c0)] (rx_hp L t hi1 hl1 v1) Q
  refine rx_w_cg hc0 (pc := 6) rfl (by decide) (by decide) ?_
  show rx_aw 101 9 [.ref 84, .ref (rx_ct c0), rx_no, rx_no, rx_no, rx_no, rx_no, rx_no, rx_no, rx_no, rx_no, rx_no, rx_no, rx_no, rx_no, rx_no, rx_no] [.int (hi1 (rx_ct c0) 6)] (rx_hp L t hi1 hl1 v1) Q
  refine rx_aw_s 16 (pc := 9) rfl ?_
  show rx_aw 101 36 [.ref 84, .ref (rx_ct c0), .int (hi1 (rx_ct c0) 6), .long (0 : Int64), rx_no, .long (0 : Int64), rx_no, .int ((if (hi1 84 5) < (hi1 13 5) then (hi1 13 5) else (hi1 84 5)) + (1 : Int32)), .int (0 : Int32), rx_no, rx_no, rx_no, rx_no, rx_no, rx_no, rx_no, rx_no] [] (rx_hp L t hi1 hl1 v1) Q
  exact k
set_option maxRecDepth 100000 in
theorem w101_judge_36 {L : Nat} {t : List (Nat × Nat)} {hi : Nat → Nat → Int32} {hl : Nat → Nat → Int64} {v : Nat → Nat → Option Nat} {Q : Option Value → rx_H → Prop} {c0 : Nat} (hc0 : c0 < 6) {x2 : Int32} {x3 : Int64} {x5 : Int64} {x7 : Int32} {x8 : Int32} (k : ((x7 < x8 → Q (some (.int (hi 84 5))) (rx_hp L t hi hl v)) ∧ (¬ (x7 < x8) → (((hi 84 5) ≤ x8 → rx_me 8 [.int x2] (rx_hp L t hi hl v) (fun r h2 => ∃ z4 : Int32, r = some (.int z4) ∧ rx_ok2 L t h2 (fun hi4 hl4 v4 => rx_me 103 [.ref 84, .int z4] (rx_hp L t hi4 hl4 v4) (fun r h2 => ∃ z5 : Int32, r = some (.int z5) ∧ rx_ok2 L t h2 (fun hi5 hl5 v5 => rx_me 49 [.ref 7, .int (hi (rx_ct c0) 5), .int x2, .int (0 : Int32), .int z5] (rx_hp L t hi5 hl5 v5) (fun r h2 => ∃ z6 : Int32, r = some (.int z6) ∧ rx_ok2 L t h2 (fun hi6 hl6 v6 => rx_me 53 [.ref 7, .int (hi6 (rx_ct c0) 5), .int x2, .int (0 : Int32)] (rx_hp L t hi6 hl6 v6) (fun r h2 => ∃ z7 : Int64, r = some (.long z7) ∧ rx_ok2 L t h2 (fun hi7 hl7 v7 => rx_me 42 [.ref 7, .int (hi7 (rx_ct c0) 5), .int x2] (rx_hp L t hi7 hl7 v7) (fun r h2 => ∃ z8 : Int64, r = some (.long z8) ∧ rx_ok2 L t h2 (fun hi8 hl8 v8 => rx_me 48 [.int x2] (rx_hp L t hi8 hl8 v8) (fun r h2 => ∃ z9 : Int32, r = some (.int z9) ∧ rx_ok2 L t h2 (fun hi9 hl9 v9 => rx_me 104 [.ref 84, .ref (rx_ct c0), .int z9, .long ((z8 ||| x5) ||| z7), .int x8] (rx_hp L t hi9 hl9 v9) (fun r h2 => ∃ z10 : Int32, r = some (.int z10) ∧ rx_ok2 L t h2 (fun hi10 hl10 v10 => ((z10 = 0 → Q (some (.int ((-10 : Int32) - x8))) (rx_hp L t hi10 hl10 v10)) ∧ (¬ (z10 = 0) → rx_me 92 [.ref 13, .ref (rx_ct c0), .long x3, .long z8, .long ((z8 ||| x5) ||| z7), .int x8] (rx_hp L t hi10 hl10 v10) (fun r h2 => ∃ z12 : Int32, r = some (.int z12) ∧ rx_ok2 L t h2 (fun hi12 hl12 v12 => ((z12 = 0 → ((0 ≤ z6 → rx_me 48 [.int z6] (rx_hp L t hi12 hl12 v12) (fun r h2 => ∃ z15 : Int32, r = some (.int z15) ∧ rx_ok2 L t h2 (fun hi15 hl15 v15 => rx_me 8 [.int z6] (rx_hp L t hi15 hl15 v15) (fun r h2 => ∃ z16 : Int32, r = some (.int z16) ∧ rx_ok2 L t h2 (fun hi16 hl16 v16 => rx_me 105 [.ref 84, .int z15, .int z16] (rx_hp L t hi16 hl16 v16) (fun r h2 => r = none ∧ rx_ok2 L t h2 (fun hi17 hl17 v17 => rx_aw 101 36 [.ref 84, .ref (rx_ct c0), .int z6, .long z8, rx_no, .long z7, rx_no, .int x7, .int (x8 + (1 : Int32)), rx_no, rx_no, rx_no, rx_no, rx_no, rx_no, rx_no, rx_no] [] (rx_hp L t hi17 hl17 v17) Q))))))) ∧ (¬ (0 ≤ z6) → Q (some (.int ((-10 : Int32) - (x8 + (1 : Int32))))) (rx_hp L t hi12 hl12 v12)))) ∧ (¬ (z12 = 0) → Q (some (.int ((-10 : Int32) - x8))) (rx_hp L t hi12 hl12 v12)))))))))))))))))))))) ∧ (¬ ((hi 84 5) ≤ x8) → (∃ j18 : Nat, x8 = nI j18 ∧ j18 < 400 ∧ rx_me 8 [.int x2] (rx_hp L t hi hl v) (fun r h2 => ∃ z19 : Int32, r = some (.int z19) ∧ rx_ok2 L t h2 (fun hi19 hl19 v19 => rx_me 103 [.ref 84, .int z19] (rx_hp L t hi19 hl19 v19) (fun r h2 => ∃ z20 : Int32, r = some (.int z20) ∧ rx_ok2 L t h2 (fun hi20 hl20 v20 => rx_me 49 [.ref 7, .int (hi (rx_ct c0) 5), .int x2, .int (hi 85 j18), .int z20] (rx_hp L t hi20 hl20 v20) (fun r h2 => ∃ z21 : Int32, r = some (.int z21) ∧ rx_ok2 L t h2 (fun hi21 hl21 v21 => rx_me 53 [.ref 7, .int (hi21 (rx_ct c0) 5), .int x2, .int (hi 85 j18)] (rx_hp L t hi21 hl21 v21) (fun r h2 => ∃ z22 : Int64, r = some (.long z22) ∧ rx_ok2 L t h2 (fun hi22 hl22 v22 => rx_me 42 [.ref 7, .int (hi22 (rx_ct c0) 5), .int x2] (rx_hp L t hi22 hl22 v22) (fun r h2 => ∃ z23 : Int64, r = some (.long z23) ∧ rx_ok2 L t h2 (fun hi23 hl23 v23 => rx_me 48 [.int x2] (rx_hp L t hi23 hl23 v23) (fun r h2 => ∃ z24 : Int32, r = some (.int z24) ∧ rx_ok2 L t h2 (fun hi24 hl24 v24 => rx_me 104 [.ref 84, .ref (rx_ct c0), .int z24, .long ((z23 ||| x5) ||| z22), .int x8] (rx_hp L t hi24 hl24 v24) (fun r h2 => ∃ z25 : Int32, r = some (.int z25) ∧ rx_ok2 L t h2 (fun hi25 hl25 v25 => ((z25 = 0 → Q (some (.int ((-10 : Int32) - x8))) (rx_hp L t hi25 hl25 v25)) ∧ (¬ (z25 = 0) → rx_me 92 [.ref 13, .ref (rx_ct c0), .long x3, .long z23, .long ((z23 ||| x5) ||| z22), .int x8] (rx_hp L t hi25 hl25 v25) (fun r h2 => ∃ z27 : Int32, r = some (.int z27) ∧ rx_ok2 L t h2 (fun hi27 hl27 v27 => ((z27 = 0 → ((0 ≤ z21 → rx_me 48 [.int z21] (rx_hp L t hi27 hl27 v27) (fun r h2 => ∃ z30 : Int32, r = some (.int z30) ∧ rx_ok2 L t h2 (fun hi30 hl30 v30 => rx_me 8 [.int z21] (rx_hp L t hi30 hl30 v30) (fun r h2 => ∃ z31 : Int32, r = some (.int z31) ∧ rx_ok2 L t h2 (fun hi31 hl31 v31 => rx_me 105 [.ref 84, .int z30, .int z31] (rx_hp L t hi31 hl31 v31) (fun r h2 => r = none ∧ rx_ok2 L t h2 (fun hi32 hl32 v32 => rx_aw 101 36 [.ref 84, .ref (rx_ct c0), .int z21, .long z23, rx_no, .long z22, rx_no, .int x7, .int (x8 + (1 : Int32)), rx_no, rx_no, rx_no, rx_no, rx_no, rx_no, rx_no, rx_no] [] (rx_hp L t hi32 hl32 v32) Q))))))) ∧ (¬ (0 ≤ z21) → Q (some (.int ((-10 : Int32) - (x8 + (1 : Int32))))) (rx_hp L t hi27 hl27 v27)))) ∧ (¬ (z27 = 0) → Q (some (.int ((-10 : Int32) - x8))) (rx_hp L t hi27 hl27 v27))))))))))))))))))))))))))) : rx_aw 101 36 [.ref 84, .ref (rx_ct c0), .int x2, .long x3, rx_no, .long x5, rx_no, .int x7, .int x8, rx_no, rx_no, rx_no, rx_no, rx_no, rx_no, rx_no, rx_no] [] (rx_hp L t hi hl v) Q := by
  refine rx_aw_s 3 (pc := 36) rfl ?_
  refine rx_w_if (c := x7 < x8) ⟨fun c2 => ?_, fun c2 => ?_⟩
  · have k := k.1 c2
    show rx_aw 101 210 [.ref 84, .ref (rx_ct c0), .int x2, .long x3, rx_no, .long x5, rx_no, .int x7, .int x8, rx_no, rx_no, rx_no, rx_no, rx_no, rx_no, rx_no, rx_no] [] (rx_hp L t hi hl v) Q
    refine rx_aw_s 2 (pc := 210) rfl ?_
    show rx_aw 101 214 [.ref 84, .ref (rx_ct c0), .int x2, .long x3, rx_no, .long x5, rx_no, .int x7, .int x8, rx_no, rx_no, rx_no, rx_no, rx_no, rx_no, rx_no, rx_no] [.int (hi 84 5)] (rx_hp L t hi hl v) Q
    exact rx_aw_ret (pc := 214) rfl k
  · have k := k.2 c2
    show rx_aw 101 43 [.ref 84, .ref (rx_ct c0), .int x2, .long x3, rx_no, .long x5, rx_no, .int x7, .int x8, rx_no, rx_no, rx_no, rx_no, rx_no, rx_no, rx_no, rx_no] [] (rx_hp L t hi hl v) Q
    refine rx_aw_s 4 (pc := 43) rfl ?_
    refine rx_w_if (c := (hi 84 5) ≤ x8) ⟨fun c3 => ?_, fun c3 => ?_⟩
    · have k := k.1 c3
      show rx_aw 101 62 [.ref 84, .ref (rx_ct c0), .int x2, .long x3, rx_no, .long x5, rx_no, .int x7, .int x8, rx_no, rx_no, rx_no, rx_no, rx_no, rx_no, rx_no, rx_no] [] (rx_hp L t hi hl v) Q
      refine rx_aw_s 5 (pc := 62) rfl ?_
      show rx_aw 101 70 [.ref 84, .ref (rx_ct c0), .int x2, .long x3, rx_no, .long x5, rx_no, .int x7, .int x8, .int (0 : Int32), rx_no, rx_no, rx_no, rx_no, rx_no, rx_no, rx_no] [.ref (rx_ct c0), .ref 7] (rx_hp L t hi hl v) Q
      refine rx_w_cg hc0 (pc := 70) rfl (by decide) (by decide) ?_
      show rx_aw 101 73 [.ref 84, .ref (rx_ct c0), .int x2, .long x3, rx_no, .long x5, rx_no, .int x7, .int x8, .int (0 : Int32), rx_no, rx_no, rx_no, rx_no, rx_no, rx_no, rx_no] [.int (hi (rx_ct c0) 5), .ref 7] (rx_hp L t hi hl v) Q
      refine rx_aw_s 4 (pc := 73) rfl ?_
      show rx_aw 101 78 [.ref 84, .ref (rx_ct c0), .int x2, .long x3, rx_no, .long x5, rx_no, .int x7, .int x8, .int (0 : Int32), rx_no, rx_no, rx_no, rx_no, rx_no, rx_no, rx_no] [.int x2, .ref 84, .int (0 : Int32), .int x2, .int (hi (rx_ct c0) 5), .ref 7] (rx_hp L t hi hl v) Q
      refine rx_w_callI (j := 8) (pc := 78) rfl rfl rfl rfl rfl ?_
      refine rx_aw.mono k (fun r h2 k => ?_)
      obtain ⟨z4, rfl, hi4, hl4, v4, rfl, k⟩ := k
      refine ⟨z4, rfl, ?_⟩
      show rx_aw 101 81 [.ref 84, .ref (rx_ct c0), .int x2, .long x3, rx_no, .long x5, rx_no, .int x7, .int x8, .int (0 : Int32), rx_no, rx_no, rx_no, rx_no, rx_no, rx_no, rx_no] [.int z4, .ref 84, .int (0 : Int32), .int x2, .int (hi (rx_ct c0) 5), .ref 7] (rx_hp L t hi4 hl4 v4) Q
      refine rx_w_callI (j := 103) (pc := 81) rfl rfl rfl rfl rfl ?_
      refine rx_aw.mono k (fun r h2 k => ?_)
      obtain ⟨z5, rfl, hi5, hl5, v5, rfl, k⟩ := k
      refine ⟨z5, rfl, ?_⟩
      show rx_aw 101 84 [.ref 84, .ref (rx_ct c0), .int x2, .long x3, rx_no, .long x5, rx_no, .int x7, .int x8, .int (0 : Int32), rx_no, rx_no, rx_no, rx_no, rx_no, rx_no, rx_no] [.int z5, .int (0 : Int32), .int x2, .int (hi (rx_ct c0) 5), .ref 7] (rx_hp L t hi5 hl5 v5) Q
      refine rx_w_callI (j := 49) (pc := 84) rfl rfl rfl rfl rfl ?_
      refine rx_aw.mono k (fun r h2 k => ?_)
      obtain ⟨z6, rfl, hi6, hl6, v6, rfl, k⟩ := k
      refine ⟨z6, rfl, ?_⟩
      show rx_aw 101 87 [.ref 84, .ref (rx_ct c0), .int x2, .long x3, rx_no, .long x5, rx_no, .int x7, .int x8, .int (0 : Int32), rx_no, rx_no, rx_no, rx_no, rx_no, rx_no, rx_no] [.int z6] (rx_hp L t hi6 hl6 v6) Q
      refine rx_aw_s 4 (pc := 87) rfl ?_
      show rx_aw 101 94 [.ref 84, .ref (rx_ct c0), .int x2, .long x3, rx_no, .long x5, rx_no, .int x7, .int x8, .int (0 : Int32), .int z6, rx_no, rx_no, rx_no, rx_no, rx_no, rx_no] [.ref (rx_ct c0), .ref 7] (rx_hp L t hi6 hl6 v6) Q
      refine rx_w_cg hc0 (pc := 94) rfl (by decide) (by decide) ?_
      show rx_aw 101 97 [.ref 84, .ref (rx_ct c0), .int x2, .long x3, rx_no, .long x5, rx_no, .int x7, .int x8, .int (0 : Int32), .int z6, rx_no, rx_no, rx_no, rx_no, rx_no, rx_no] [.int (hi6 (rx_ct c0) 5), .ref 7] (rx_hp L t hi6 hl6 v6) Q
      refine rx_aw_s 2 (pc := 97) rfl ?_
      show rx_aw 101 100 [.ref 84, .ref (rx_ct c0), .int x2, .long x3, rx_no, .long x5, rx_no, .int x7, .int x8, .int (0 : Int32), .int z6, rx_no, rx_no, rx_no, rx_no, rx_no, rx_no] [.int (0 : Int32), .int x2, .int (hi6 (rx_ct c0) 5), .ref 7] (rx_hp L t hi6 hl6 v6) Q
      refine rx_w_callL (j := 53) (pc := 100) rfl rfl rfl rfl rfl ?_
      refine rx_aw.mono k (fun r h2 k => ?_)
      obtain ⟨z7, rfl, hi7, hl7, v7, rfl, k⟩ := k
      refine ⟨z7, rfl, ?_⟩
      show rx_aw 101 103 [.ref 84, .ref (rx_ct c0), .int x2, .long x3, rx_no, .long x5, rx_no, .int x7, .int x8, .int (0 : Int32), .int z6, rx_no, rx_no, rx_no, rx_no, rx_no, rx_no] [.long z7] (rx_hp L t hi7 hl7 v7) Q
      refine rx_aw_s 4 (pc := 103) rfl ?_
      show rx_aw 101 110 [.ref 84, .ref (rx_ct c0), .int x2, .long x3, rx_no, .long x5, rx_no, .int x7, .int x8, .int (0 : Int32), .int z6, .long z7, rx_no, rx_no, rx_no, rx_no, rx_no] [.ref (rx_ct c0), .ref 7] (rx_hp L t hi7 hl7 v7) Q
      refine rx_w_cg hc0 (pc := 110) rfl (by decide) (by decide) ?_
      show rx_aw 101 113 [.ref 84, .ref (rx_ct c0), .int x2, .long x3, rx_no, .long x5, rx_no, .int x7, .int x8, .int (0 : Int32), .int z6, .long z7, rx_no, rx_no, rx_no, rx_no, rx_no] [.int (hi7 (rx_ct c0) 5), .ref 7] (rx_hp L t hi7 hl7 v7) Q
      refine rx_aw_s 1 (pc := 113) rfl ?_
      show rx_aw 101 114 [.ref 84, .ref (rx_ct c0), .int x2, .long x3, rx_no, .long x5, rx_no, .int x7, .int x8, .int (0 : Int32), .int z6, .long z7, rx_no, rx_no, rx_no, rx_no, rx_no] [.int x2, .int (hi7 (rx_ct c0) 5), .ref 7] (rx_hp L t hi7 hl7 v7) Q
      refine rx_w_callL (j := 42) (pc := 114) rfl rfl rfl rfl rfl ?_
      refine rx_aw.mono k (fun r h2 k => ?_)
      obtain ⟨z8, rfl, hi8, hl8, v8, rfl, k⟩ := k
      refine ⟨z8, rfl, ?_⟩
      show rx_aw 101 117 [.ref 84, .ref (rx_ct c0), .int x2, .long x3, rx_no, .long x5, rx_no, .int x7, .int x8, .int (0 : Int32), .int z6, .long z7, rx_no, rx_no, rx_no, rx_no, rx_no] [.long z8] (rx_hp L t hi8 hl8 v8) Q
      refine rx_aw_s 10 (pc := 117) rfl ?_
      show rx_aw 101 132 [.ref 84, .ref (rx_ct c0), .int x2, .long x3, rx_no, .long x5, rx_no, .int x7, .int x8, .int (0 : Int32), .int z6, .long z7, rx_no, .long z8, rx_no, .long ((z8 ||| x5) ||| z7), rx_no] [.int x2, .ref (rx_ct c0), .ref 84] (rx_hp L t hi8 hl8 v8) Q
      refine rx_w_callI (j := 48) (pc := 132) rfl rfl rfl rfl rfl ?_
      refine rx_aw.mono k (fun r h2 k => ?_)
      obtain ⟨z9, rfl, hi9, hl9, v9, rfl, k⟩ := k
      refine ⟨z9, rfl, ?_⟩
      show rx_aw 101 135 [.ref 84, .ref (rx_ct c0), .int x2, .long x3, rx_no, .long x5, rx_no, .int x7, .int x8, .int (0 : Int32), .int z6, .long z7, rx_no, .long z8, rx_no, .long ((z8 ||| x5) ||| z7), rx_no] [.int z9, .ref (rx_ct c0), .ref 84] (rx_hp L t hi9 hl9 v9) Q
      refine rx_aw_s 2 (pc := 135) rfl ?_
      show rx_aw 101 139 [.ref 84, .ref (rx_ct c0), .int x2, .long x3, rx_no, .long x5, rx_no, .int x7, .int x8, .int (0 : Int32), .int z6, .long z7, rx_no, .long z8, rx_no, .long ((z8 ||| x5) ||| z7), rx_no] [.int x8, .long ((z8 ||| x5) ||| z7), .int z9, .ref (rx_ct c0), .ref 84] (rx_hp L t hi9 hl9 v9) Q
      refine rx_w_callI (j := 104) (pc := 139) rfl rfl rfl rfl rfl ?_
      refine rx_aw.mono k (fun r h2 k => ?_)
      obtain ⟨z10, rfl, hi10, hl10, v10, rfl, k⟩ := k
      refine ⟨z10, rfl, ?_⟩
      show rx_aw 101 142 [.ref 84, .ref (rx_ct c0), .int x2, .long x3, rx_no, .long x5, rx_no, .int x7, .int x8, .int (0 : Int32), .int z6, .long z7, rx_no, .long z8, rx_no, .long ((z8 ||| x5) ||| z7), rx_no] [.int z10] (rx_hp L t hi10 hl10 v10) Q
      refine rx_aw_s 1 (pc := 142) rfl ?_
      refine rx_w_if (c := z10 = 0) ⟨fun c11 => ?_, fun c11 => ?_⟩
      · have k := k.1 c11
        show rx_aw 101 163 [.ref 84, .ref (rx_ct c0), .int x2, .long x3, rx_no, .long x5, rx_no, .int x7, .int x8, .int (0 : Int32), .int z6, .long z7, rx_no, .long z8, rx_no, .long ((z8 ||| x5) ||| z7), rx_no] [] (rx_hp L t hi10 hl10 v10) Q
        refine rx_aw_s 3 (pc := 163) rfl ?_
        show rx_aw 101 168 [.ref 84, .ref (rx_ct c0), .int x2, .long x3, rx_no, .long x5, rx_no, .int x7, .int x8, .int (0 : Int32), .int z6, .long z7, rx_no, .long z8, rx_no, .long ((z8 ||| x5) ||| z7), rx_no] [.int ((-10 : Int32) - x8)] (rx_hp L t hi10 hl10 v10) Q
        exact rx_aw_ret (pc := 168) rfl k
      · have k := k.2 c11
        show rx_aw 101 145 [.ref 84, .ref (rx_ct c0), .int x2, .long x3, rx_no, .long x5, rx_no, .int x7, .int x8, .int (0 : Int32), .int z6, .long z7, rx_no, .long z8, rx_no, .long ((z8 ||| x5) ||| z7), rx_no] [] (rx_hp L t hi10 hl10 v10) Q
        refine rx_aw_s 7 (pc := 145) rfl ?_
        show rx_aw 101 157 [.ref 84, .ref (rx_ct c0), .int x2, .long x3, rx_no, .long x5, rx_no, .int x7, .int x8, .int (0 : Int32), .int z6, .long z7, rx_no, .long z8, rx_no, .long ((z8 ||| x5) ||| z7), rx_no] [.int x8, .long ((z8 ||| x5) ||| z7), .long z8, .long x3, .ref (rx_ct c0), .ref 13] (rx_hp L t hi10 hl10 v10) Q
        refine rx_w_callI (j := 92) (pc := 157) rfl rfl rfl rfl rfl ?_
        refine rx_aw.mono k (fun r h2 k => ?_)
        obtain ⟨z12, rfl, hi12, hl12, v12, rfl, k⟩ := k
        refine ⟨z12, rfl, ?_⟩
        show rx_aw 101 160 [.ref 84, .ref (rx_ct c0), .int x2, .long x3, rx_no, .long x5, rx_no, .int x7, .int x8, .int (0 : Int32), .int z6, .long z7, rx_no, .long z8, rx_no, .long ((z8 ||| x5) ||| z7), rx_no] [.int z12] (rx_hp L t hi12 hl12 v12) Q
        refine rx_aw_s 1 (pc := 160) rfl ?_
        refine rx_w_if (c := z12 = 0) ⟨fun c13 => ?_, fun c13 => ?_⟩
        · have k := k.1 c13
          show rx_aw 101 169 [.ref 84, .ref (rx_ct c0), .int x2, .long x3, rx_no, .long x5, rx_no, .int x7, .int x8, .int (0 : Int32), .int z6, .long z7, rx_no, .long z8, rx_no, .long ((z8 ||| x5) ||| z7), rx_no] [] (rx_hp L t hi12 hl12 v12) Q
          refine rx_aw_s 2 (pc := 169) rfl ?_
          refine rx_w_if (c := 0 ≤ z6) ⟨fun c14 => ?_, fun c14 => ?_⟩
          · have k := k.1 c14
            show rx_aw 101 182 [.ref 84, .ref (rx_ct c0), .int x2, .long x3, rx_no, .long x5, rx_no, .int x7, .int x8, .int (0 : Int32), .int z6, .long z7, rx_no, .long z8, rx_no, .long ((z8 ||| x5) ||| z7), rx_no] [] (rx_hp L t hi12 hl12 v12) Q
            refine rx_aw_s 8 (pc := 182) rfl ?_
            show rx_aw 101 194 [.ref 84, .ref (rx_ct c0), .int z6, .long z8, rx_no, .long z7, rx_no, .int x7, .int x8, .int (0 : Int32), .int z6, .long z7, rx_no, .long z8, rx_no, .long ((z8 ||| x5) ||| z7), rx_no] [.int z6, .ref 84] (rx_hp L t hi12 hl12 v12) Q
            refine rx_w_callI (j := 48) (pc := 194) rfl rfl rfl rfl rfl ?_
            refine rx_aw.mono k (fun r h2 k => ?_)
            obtain ⟨z15, rfl, hi15, hl15, v15, rfl, k⟩ := k
            refine ⟨z15, rfl, ?_⟩
            show rx_aw 101 197 [.ref 84, .ref (rx_ct c0), .int z6, .long z8, rx_no, .long z7, rx_no, .int x7, .int x8, .int (0 : Int32), .int z6, .long z7, rx_no, .long z8, rx_no, .long ((z8 ||| x5) ||| z7), rx_no] [.int z15, .ref 84] (rx_hp L t hi15 hl15 v15) Q
            refine rx_aw_s 1 (pc := 197) rfl ?_
            show rx_aw 101 198 [.ref 84, .ref (rx_ct c0), .int z6, .long z8, rx_no, .long z7, rx_no, .int x7, .int x8, .int (0 : Int32), .int z6, .long z7, rx_no, .long z8, rx_no, .long ((z8 ||| x5) ||| z7), rx_no] [.int z6, .int z15, .ref 84] (rx_hp L t hi15 hl15 v15) Q
            refine rx_w_callI (j := 8) (pc := 198) rfl rfl rfl rfl rfl ?_
            refine rx_aw.mono k (fun r h2 k => ?_)
            obtain ⟨z16, rfl, hi16, hl16, v16, rfl, k⟩ := k
            refine ⟨z16, rfl, ?_⟩
            show rx_aw 101 201 [.ref 84, .ref (rx_ct c0), .int z6, .long z8, rx_no, .long z7, rx_no, .int x7, .int x8, .int (0 : Int32), .int z6, .long z7, rx_no, .long z8, rx_no, .long ((z8 ||| x5) ||| z7), rx_no] [.int z16, .int z15, .ref 84] (rx_hp L t hi16 hl16 v16) Q
            refine rx_w_callV (j := 105) (pc := 201) rfl rfl rfl rfl rfl ?_
            refine rx_aw.mono k (fun r h2 k => ?_)
            obtain ⟨rfl, hi17, hl17, v17, rfl, k⟩ := k
            refine ⟨rfl, ?_⟩
            show rx_aw 101 204 [.ref 84, .ref (rx_ct c0), .int z6, .long z8, rx_no, .long z7, rx_no, .int x7, .int x8, .int (0 : Int32), .int z6, .long z7, rx_no, .long z8, rx_no, .long ((z8 ||| x5) ||| z7), rx_no] [] (rx_hp L t hi17 hl17 v17) Q
            refine rx_aw_s 2 (pc := 204) rfl ?_
            show rx_aw 101 36 [.ref 84, .ref (rx_ct c0), .int z6, .long z8, rx_no, .long z7, rx_no, .int x7, .int (x8 + (1 : Int32)), .int (0 : Int32), .int z6, .long z7, rx_no, .long z8, rx_no, .long ((z8 ||| x5) ||| z7), rx_no] [] (rx_hp L t hi17 hl17 v17) Q
            exact rx_aw_le (ls := [.ref 84, .ref (rx_ct c0), .int z6, .long z8, rx_no, .long z7, rx_no, .int x7, .int (x8 + (1 : Int32)), rx_no, rx_no, rx_no, rx_no, rx_no, rx_no, rx_no, rx_no]) ⟨Or.inr rfl, ⟨Or.inr rfl, ⟨Or.inr rfl, ⟨Or.inr rfl, ⟨Or.inl rfl, ⟨Or.inr rfl, ⟨Or.inl rfl, ⟨Or.inr rfl, ⟨Or.inr rfl, ⟨Or.inl rfl, ⟨Or.inl rfl, ⟨Or.inl rfl, ⟨Or.inl rfl, ⟨Or.inl rfl, ⟨Or.inl rfl, ⟨Or.inl rfl, ⟨Or.inl rfl, trivial⟩⟩⟩⟩⟩⟩⟩⟩⟩⟩⟩⟩⟩⟩⟩⟩⟩ k
          · have k := k.2 c14
            show rx_aw 101 174 [.ref 84, .ref (rx_ct c0), .int x2, .long x3, rx_no, .long x5, rx_no, .int x7, .int x8, .int (0 : Int32), .int z6, .long z7, rx_no, .long z8, rx_no, .long ((z8 ||| x5) ||| z7), rx_no] [] (rx_hp L t hi12 hl12 v12) Q
            refine rx_aw_s 5 (pc := 174) rfl ?_
            show rx_aw 101 181 [.ref 84, .ref (rx_ct c0), .int x2, .long x3, rx_no, .long x5, rx_no, .int x7, .int x8, .int (0 : Int32), .int z6, .long z7, rx_no, .long z8, rx_no, .long ((z8 ||| x5) ||| z7), rx_no] [.int ((-10 : Int32) - (x8 + (1 : Int32)))] (rx_hp L t hi12 hl12 v12) Q
            exact rx_aw_ret (pc := 181) rfl k
        · have k := k.2 c13
          show rx_aw 101 163 [.ref 84, .ref (rx_ct c0), .int x2, .long x3, rx_no, .long x5, rx_no, .int x7, .int x8, .int (0 : Int32), .int z6, .long z7, rx_no, .long z8, rx_no, .long ((z8 ||| x5) ||| z7), rx_no] [] (rx_hp L t hi12 hl12 v12) Q
          refine rx_aw_s 3 (pc := 163) rfl ?_
          show rx_aw 101 168 [.ref 84, .ref (rx_ct c0), .int x2, .long x3, rx_no, .long x5, rx_no, .int x7, .int x8, .int (0 : Int32), .int z6, .long z7, rx_no, .long z8, rx_no, .long ((z8 ||| x5) ||| z7), rx_no] [.int ((-10 : Int32) - x8)] (rx_hp L t hi12 hl12 v12) Q
          exact rx_aw_ret (pc := 168) rfl k
    · have k := k.2 c3
      show rx_aw 101 52 [.ref 84, .ref (rx_ct c0), .int x2, .long x3, rx_no, .long x5, rx_no, .int x7, .int x8, rx_no, rx_no, rx_no, rx_no, rx_no, rx_no, rx_no, rx_no] [] (rx_hp L t hi hl v) Q
      refine rx_aw_s 3 (pc := 52) rfl ?_
      show rx_aw 101 58 [.ref 84, .ref (rx_ct c0), .int x2, .long x3, rx_no, .long x5, rx_no, .int x7, .int x8, rx_no, rx_no, rx_no, rx_no, rx_no, rx_no, rx_no, rx_no] [.int x8, .ref 85] (rx_hp L t hi hl v) Q
      obtain ⟨j18, ej18, hj18, k⟩ := k
      refine rx_aw_bald (pc := 58) (n := 400) j18 ej18 rfl (Or.inl rfl) (by decide) rfl hj18 (by decide) ?_
      show rx_aw 101 59 [.ref 84, .ref (rx_ct c0), .int x2, .long x3, rx_no, .long x5, rx_no, .int x7, .int x8, rx_no, rx_no, rx_no, rx_no, rx_no, rx_no, rx_no, rx_no] [.int (hi 85 j18)] (rx_hp L t hi hl v) Q
      refine rx_aw_s 5 (pc := 59) rfl ?_
      show rx_aw 101 70 [.ref 84, .ref (rx_ct c0), .int x2, .long x3, rx_no, .long x5, rx_no, .int x7, .int x8, .int (hi 85 j18), rx_no, rx_no, rx_no, rx_no, rx_no, rx_no, rx_no] [.ref (rx_ct c0), .ref 7] (rx_hp L t hi hl v) Q
      refine rx_w_cg hc0 (pc := 70) rfl (by decide) (by decide) ?_
      show rx_aw 101 73 [.ref 84, .ref (rx_ct c0), .int x2, .long x3, rx_no, .long x5, rx_no, .int x7, .int x8, .int (hi 85 j18), rx_no, rx_no, rx_no, rx_no, rx_no, rx_no, rx_no] [.int (hi (rx_ct c0) 5), .ref 7] (rx_hp L t hi hl v) Q
      refine rx_aw_s 4 (pc := 73) rfl ?_
      show rx_aw 101 78 [.ref 84, .ref (rx_ct c0), .int x2, .long x3, rx_no, .long x5, rx_no, .int x7, .int x8, .int (hi 85 j18), rx_no, rx_no, rx_no, rx_no, rx_no, rx_no, rx_no] [.int x2, .ref 84, .int (hi 85 j18), .int x2, .int (hi (rx_ct c0) 5), .ref 7] (rx_hp L t hi hl v) Q
      refine rx_w_callI (j := 8) (pc := 78) rfl rfl rfl rfl rfl ?_
      refine rx_aw.mono k (fun r h2 k => ?_)
      obtain ⟨z19, rfl, hi19, hl19, v19, rfl, k⟩ := k
      refine ⟨z19, rfl, ?_⟩
      show rx_aw 101 81 [.ref 84, .ref (rx_ct c0), .int x2, .long x3, rx_no, .long x5, rx_no, .int x7, .int x8, .int (hi 85 j18), rx_no, rx_no, rx_no, rx_no, rx_no, rx_no, rx_no] [.int z19, .ref 84, .int (hi 85 j18), .int x2, .int (hi (rx_ct c0) 5), .ref 7] (rx_hp L t hi19 hl19 v19) Q
      refine rx_w_callI (j := 103) (pc := 81) rfl rfl rfl rfl rfl ?_
      refine rx_aw.mono k (fun r h2 k => ?_)
      obtain ⟨z20, rfl, hi20, hl20, v20, rfl, k⟩ := k
      refine ⟨z20, rfl, ?_⟩
      show rx_aw 101 84 [.ref 84, .ref (rx_ct c0), .int x2, .long x3, rx_no, .long x5, rx_no, .int x7, .int x8, .int (hi 85 j18), rx_no, rx_no, rx_no, rx_no, rx_no, rx_no, rx_no] [.int z20, .int (hi 85 j18), .int x2, .int (hi (rx_ct c0) 5), .ref 7] (rx_hp L t hi20 hl20 v20) Q
      refine rx_w_callI (j := 49) (pc := 84) rfl rfl rfl rfl rfl ?_
      refine rx_aw.mono k (fun r h2 k => ?_)
      obtain ⟨z21, rfl, hi21, hl21, v21, rfl, k⟩ := k
      refine ⟨z21, rfl, ?_⟩
      show rx_aw 101 87 [.ref 84, .ref (rx_ct c0), .int x2, .long x3, rx_no, .long x5, rx_no, .int x7, .int x8, .int (hi 85 j18), rx_no, rx_no, rx_no, rx_no, rx_no, rx_no, rx_no] [.int z21] (rx_hp L t hi21 hl21 v21) Q
      refine rx_aw_s 4 (pc := 87) rfl ?_
      show rx_aw 101 94 [.ref 84, .ref (rx_ct c0), .int x2, .long x3, rx_no, .long x5, rx_no, .int x7, .int x8, .int (hi 85 j18), .int z21, rx_no, rx_no, rx_no, rx_no, rx_no, rx_no] [.ref (rx_ct c0), .ref 7] (rx_hp L t hi21 hl21 v21) Q
      refine rx_w_cg hc0 (pc := 94) rfl (by decide) (by decide) ?_
      show rx_aw 101 97 [.ref 84, .ref (rx_ct c0), .int x2, .long x3, rx_no, .long x5, rx_no, .int x7, .int x8, .int (hi 85 j18), .int z21, rx_no, rx_no, rx_no, rx_no, rx_no, rx_no] [.int (hi21 (rx_ct c0) 5), .ref 7] (rx_hp L t hi21 hl21 v21) Q
      refine rx_aw_s 2 (pc := 97) rfl ?_
      show rx_aw 101 100 [.ref 84, .ref (rx_ct c0), .int x2, .long x3, rx_no, .long x5, rx_no, .int x7, .int x8, .int (hi 85 j18), .int z21, rx_no, rx_no, rx_no, rx_no, rx_no, rx_no] [.int (hi 85 j18), .int x2, .int (hi21 (rx_ct c0) 5), .ref 7] (rx_hp L t hi21 hl21 v21) Q
      refine rx_w_callL (j := 53) (pc := 100) rfl rfl rfl rfl rfl ?_
      refine rx_aw.mono k (fun r h2 k => ?_)
      obtain ⟨z22, rfl, hi22, hl22, v22, rfl, k⟩ := k
      refine ⟨z22, rfl, ?_⟩
      show rx_aw 101 103 [.ref 84, .ref (rx_ct c0), .int x2, .long x3, rx_no, .long x5, rx_no, .int x7, .int x8, .int (hi 85 j18), .int z21, rx_no, rx_no, rx_no, rx_no, rx_no, rx_no] [.long z22] (rx_hp L t hi22 hl22 v22) Q
      refine rx_aw_s 4 (pc := 103) rfl ?_
      show rx_aw 101 110 [.ref 84, .ref (rx_ct c0), .int x2, .long x3, rx_no, .long x5, rx_no, .int x7, .int x8, .int (hi 85 j18), .int z21, .long z22, rx_no, rx_no, rx_no, rx_no, rx_no] [.ref (rx_ct c0), .ref 7] (rx_hp L t hi22 hl22 v22) Q
      refine rx_w_cg hc0 (pc := 110) rfl (by decide) (by decide) ?_
      show rx_aw 101 113 [.ref 84, .ref (rx_ct c0), .int x2, .long x3, rx_no, .long x5, rx_no, .int x7, .int x8, .int (hi 85 j18), .int z21, .long z22, rx_no, rx_no, rx_no, rx_no, rx_no] [.int (hi22 (rx_ct c0) 5), .ref 7] (rx_hp L t hi22 hl22 v22) Q
      refine rx_aw_s 1 (pc := 113) rfl ?_
      show rx_aw 101 114 [.ref 84, .ref (rx_ct c0), .int x2, .long x3, rx_no, .long x5, rx_no, .int x7, .int x8, .int (hi 85 j18), .int z21, .long z22, rx_no, rx_no, rx_no, rx_no, rx_no] [.int x2, .int (hi22 (rx_ct c0) 5), .ref 7] (rx_hp L t hi22 hl22 v22) Q
      refine rx_w_callL (j := 42) (pc := 114) rfl rfl rfl rfl rfl ?_
      refine rx_aw.mono k (fun r h2 k => ?_)
      obtain ⟨z23, rfl, hi23, hl23, v23, rfl, k⟩ := k
      refine ⟨z23, rfl, ?_⟩
      show rx_aw 101 117 [.ref 84, .ref (rx_ct c0), .int x2, .long x3, rx_no, .long x5, rx_no, .int x7, .int x8, .int (hi 85 j18), .int z21, .long z22, rx_no, rx_no, rx_no, rx_no, rx_no] [.long z23] (rx_hp L t hi23 hl23 v23) Q
      refine rx_aw_s 10 (pc := 117) rfl ?_
      show rx_aw 101 132 [.ref 84, .ref (rx_ct c0), .int x2, .long x3, rx_no, .long x5, rx_no, .int x7, .int x8, .int (hi 85 j18), .int z21, .long z22, rx_no, .long z23, rx_no, .long ((z23 ||| x5) ||| z22), rx_no] [.int x2, .ref (rx_ct c0), .ref 84] (rx_hp L t hi23 hl23 v23) Q
      refine rx_w_callI (j := 48) (pc := 132) rfl rfl rfl rfl rfl ?_
      refine rx_aw.mono k (fun r h2 k => ?_)
      obtain ⟨z24, rfl, hi24, hl24, v24, rfl, k⟩ := k
      refine ⟨z24, rfl, ?_⟩
      show rx_aw 101 135 [.ref 84, .ref (rx_ct c0), .int x2, .long x3, rx_no, .long x5, rx_no, .int x7, .int x8, .int (hi 85 j18), .int z21, .long z22, rx_no, .long z23, rx_no, .long ((z23 ||| x5) ||| z22), rx_no] [.int z24, .ref (rx_ct c0), .ref 84] (rx_hp L t hi24 hl24 v24) Q
      refine rx_aw_s 2 (pc := 135) rfl ?_
      show rx_aw 101 139 [.ref 84, .ref (rx_ct c0), .int x2, .long x3, rx_no, .long x5, rx_no, .int x7, .int x8, .int (hi 85 j18), .int z21, .long z22, rx_no, .long z23, rx_no, .long ((z23 ||| x5) ||| z22), rx_no] [.int x8, .long ((z23 ||| x5) ||| z22), .int z24, .ref (rx_ct c0), .ref 84] (rx_hp L t hi24 hl24 v24) Q
      refine rx_w_callI (j := 104) (pc := 139) rfl rfl rfl rfl rfl ?_
      refine rx_aw.mono k (fun r h2 k => ?_)
      obtain ⟨z25, rfl, hi25, hl25, v25, rfl, k⟩ := k
      refine ⟨z25, rfl, ?_⟩
      show rx_aw 101 142 [.ref 84, .ref (rx_ct c0), .int x2, .long x3, rx_no, .long x5, rx_no, .int x7, .int x8, .int (hi 85 j18), .int z21, .long z22, rx_no, .long z23, rx_no, .long ((z23 ||| x5) ||| z22), rx_no] [.int z25] (rx_hp L t hi25 hl25 v25) Q
      refine rx_aw_s 1 (pc := 142) rfl ?_
      refine rx_w_if (c := z25 = 0) ⟨fun c26 => ?_, fun c26 => ?_⟩
      · have k := k.1 c26
        show rx_aw 101 163 [.ref 84, .ref (rx_ct c0), .int x2, .long x3, rx_no, .long x5, rx_no, .int x7, .int x8, .int (hi 85 j18), .int z21, .long z22, rx_no, .long z23, rx_no, .long ((z23 ||| x5) ||| z22), rx_no] [] (rx_hp L t hi25 hl25 v25) Q
        refine rx_aw_s 3 (pc := 163) rfl ?_
        show rx_aw 101 168 [.ref 84, .ref (rx_ct c0), .int x2, .long x3, rx_no, .long x5, rx_no, .int x7, .int x8, .int (hi 85 j18), .int z21, .long z22, rx_no, .long z23, rx_no, .long ((z23 ||| x5) ||| z22), rx_no] [.int ((-10 : Int32) - x8)] (rx_hp L t hi25 hl25 v25) Q
        exact rx_aw_ret (pc := 168) rfl k
      · have k := k.2 c26
        show rx_aw 101 145 [.ref 84, .ref (rx_ct c0), .int x2, .long x3, rx_no, .long x5, rx_no, .int x7, .int x8, .int (hi 85 j18), .int z21, .long z22, rx_no, .long z23, rx_no, .long ((z23 ||| x5) ||| z22), rx_no] [] (rx_hp L t hi25 hl25 v25) Q
        refine rx_aw_s 7 (pc := 145) rfl ?_
        show rx_aw 101 157 [.ref 84, .ref (rx_ct c0), .int x2, .long x3, rx_no, .long x5, rx_no, .int x7, .int x8, .int (hi 85 j18), .int z21, .long z22, rx_no, .long z23, rx_no, .long ((z23 ||| x5) ||| z22), rx_no] [.int x8, .long ((z23 ||| x5) ||| z22), .long z23, .long x3, .ref (rx_ct c0), .ref 13] (rx_hp L t hi25 hl25 v25) Q
        refine rx_w_callI (j := 92) (pc := 157) rfl rfl rfl rfl rfl ?_
        refine rx_aw.mono k (fun r h2 k => ?_)
        obtain ⟨z27, rfl, hi27, hl27, v27, rfl, k⟩ := k
        refine ⟨z27, rfl, ?_⟩
        show rx_aw 101 160 [.ref 84, .ref (rx_ct c0), .int x2, .long x3, rx_no, .long x5, rx_no, .int x7, .int x8, .int (hi 85 j18), .int z21, .long z22, rx_no, .long z23, rx_no, .long ((z23 ||| x5) ||| z22), rx_no] [.int z27] (rx_hp L t hi27 hl27 v27) Q
        refine rx_aw_s 1 (pc := 160) rfl ?_
        refine rx_w_if (c := z27 = 0) ⟨fun c28 => ?_, fun c28 => ?_⟩
        · have k := k.1 c28
          show rx_aw 101 169 [.ref 84, .ref (rx_ct c0), .int x2, .long x3, rx_no, .long x5, rx_no, .int x7, .int x8, .int (hi 85 j18), .int z21, .long z22, rx_no, .long z23, rx_no, .long ((z23 ||| x5) ||| z22), rx_no] [] (rx_hp L t hi27 hl27 v27) Q
          refine rx_aw_s 2 (pc := 169) rfl ?_
          refine rx_w_if (c := 0 ≤ z21) ⟨fun c29 => ?_, fun c29 => ?_⟩
          · have k := k.1 c29
            show rx_aw 101 182 [.ref 84, .ref (rx_ct c0), .int x2, .long x3, rx_no, .long x5, rx_no, .int x7, .int x8, .int (hi 85 j18), .int z21, .long z22, rx_no, .long z23, rx_no, .long ((z23 ||| x5) ||| z22), rx_no] [] (rx_hp L t hi27 hl27 v27) Q
            refine rx_aw_s 8 (pc := 182) rfl ?_
            show rx_aw 101 194 [.ref 84, .ref (rx_ct c0), .int z21, .long z23, rx_no, .long z22, rx_no, .int x7, .int x8, .int (hi 85 j18), .int z21, .long z22, rx_no, .long z23, rx_no, .long ((z23 ||| x5) ||| z22), rx_no] [.int z21, .ref 84] (rx_hp L t hi27 hl27 v27) Q
            refine rx_w_callI (j := 48) (pc := 194) rfl rfl rfl rfl rfl ?_
            refine rx_aw.mono k (fun r h2 k => ?_)
            obtain ⟨z30, rfl, hi30, hl30, v30, rfl, k⟩ := k
            refine ⟨z30, rfl, ?_⟩
            show rx_aw 101 197 [.ref 84, .ref (rx_ct c0), .int z21, .long z23, rx_no, .long z22, rx_no, .int x7, .int x8, .int (hi 85 j18), .int z21, .long z22, rx_no, .long z23, rx_no, .long ((z23 ||| x5) ||| z22), rx_no] [.int z30, .ref 84] (rx_hp L t hi30 hl30 v30) Q
            refine rx_aw_s 1 (pc := 197) rfl ?_
            show rx_aw 101 198 [.ref 84, .ref (rx_ct c0), .int z21, .long z23, rx_no, .long z22, rx_no, .int x7, .int x8, .int (hi 85 j18), .int z21, .long z22, rx_no, .long z23, rx_no, .long ((z23 ||| x5) ||| z22), rx_no] [.int z21, .int z30, .ref 84] (rx_hp L t hi30 hl30 v30) Q
            refine rx_w_callI (j := 8) (pc := 198) rfl rfl rfl rfl rfl ?_
            refine rx_aw.mono k (fun r h2 k => ?_)
            obtain ⟨z31, rfl, hi31, hl31, v31, rfl, k⟩ := k
            refine ⟨z31, rfl, ?_⟩
            show rx_aw 101 201 [.ref 84, .ref (rx_ct c0), .int z21, .long z23, rx_no, .long z22, rx_no, .int x7, .int x8, .int (hi 85 j18), .int z21, .long z22, rx_no, .long z23, rx_no, .long ((z23 ||| x5) ||| z22), rx_no] [.int z31, .int z30, .ref 84] (rx_hp L t hi31 hl31 v31) Q
            refine rx_w_callV (j := 105) (pc := 201) rfl rfl rfl rfl rfl ?_
            refine rx_aw.mono k (fun r h2 k => ?_)
            obtain ⟨rfl, hi32, hl32, v32, rfl, k⟩ := k
            refine ⟨rfl, ?_⟩
            show rx_aw 101 204 [.ref 84, .ref (rx_ct c0), .int z21, .long z23, rx_no, .long z22, rx_no, .int x7, .int x8, .int (hi 85 j18), .int z21, .long z22, rx_no, .long z23, rx_no, .long ((z23 ||| x5) ||| z22), rx_no] [] (rx_hp L t hi32 hl32 v32) Q
            refine rx_aw_s 2 (pc := 204) rfl ?_
            show rx_aw 101 36 [.ref 84, .ref (rx_ct c0), .int z21, .long z23, rx_no, .long z22, rx_no, .int x7, .int (x8 + (1 : Int32)), .int (hi 85 j18), .int z21, .long z22, rx_no, .long z23, rx_no, .long ((z23 ||| x5) ||| z22), rx_no] [] (rx_hp L t hi32 hl32 v32) Q
            exact rx_aw_le (ls := [.ref 84, .ref (rx_ct c0), .int z21, .long z23, rx_no, .long z22, rx_no, .int x7, .int (x8 + (1 : Int32)), rx_no, rx_no, rx_no, rx_no, rx_no, rx_no, rx_no, rx_no]) ⟨Or.inr rfl, ⟨Or.inr rfl, ⟨Or.inr rfl, ⟨Or.inr rfl, ⟨Or.inl rfl, ⟨Or.inr rfl, ⟨Or.inl rfl, ⟨Or.inr rfl, ⟨Or.inr rfl, ⟨Or.inl rfl, ⟨Or.inl rfl, ⟨Or.inl rfl, ⟨Or.inl rfl, ⟨Or.inl rfl, ⟨Or.inl rfl, ⟨Or.inl rfl, ⟨Or.inl rfl, trivial⟩⟩⟩⟩⟩⟩⟩⟩⟩⟩⟩⟩⟩⟩⟩⟩⟩ k
          · have k := k.2 c29
            show rx_aw 101 174 [.ref 84, .ref (rx_ct c0), .int x2, .long x3, rx_no, .long x5, rx_no, .int x7, .int x8, .int (hi 85 j18), .int z21, .long z22, rx_no, .long z23, rx_no, .long ((z23 ||| x5) ||| z22), rx_no] [] (rx_hp L t hi27 hl27 v27) Q
            refine rx_aw_s 5 (pc := 174) rfl ?_
            show rx_aw 101 181 [.ref 84, .ref (rx_ct c0), .int x2, .long x3, rx_no, .long x5, rx_no, .int x7, .int x8, .int (hi 85 j18), .int z21, .long z22, rx_no, .long z23, rx_no, .long ((z23 ||| x5) ||| z22), rx_no] [.int ((-10 : Int32) - (x8 + (1 : Int32)))] (rx_hp L t hi27 hl27 v27) Q
            exact rx_aw_ret (pc := 181) rfl k
        · have k := k.2 c28
          show rx_aw 101 163 [.ref 84, .ref (rx_ct c0), .int x2, .long x3, rx_no, .long x5, rx_no, .int x7, .int x8, .int (hi 85 j18), .int z21, .long z22, rx_no, .long z23, rx_no, .long ((z23 ||| x5) ||| z22), rx_no] [] (rx_hp L t hi27 hl27 v27) Q
          refine rx_aw_s 3 (pc := 163) rfl ?_
          show rx_aw 101 168 [.ref 84, .ref (rx_ct c0), .int x2, .long x3, rx_no, .long x5, rx_no, .int x7, .int x8, .int (hi 85 j18), .int z21, .long z22, rx_no, .long z23, rx_no, .long ((z23 ||| x5) ||| z22), rx_no] [.int ((-10 : Int32) - x8)] (rx_hp L t hi27 hl27 v27) Q
          exact rx_aw_ret (pc := 168) rfl k
set_option maxRecDepth 100000 in
/-- CartFloor$Told.findForeign(LCartFloor$Cart;)V -/
theorem w102_findForeign {L : Nat} {t : List (Nat × Nat)} {hi : Nat → Nat → Int32} {hl : Nat → Nat → Int64} {v : Nat → Nat → Option Nat} {Q : Option Value → rx_H → Prop} {c0 : Nat} (hc0 : c0 < 6) (k : rx_aw 102 2 [.ref 84, .ref (rx_ct c0), .int (0 : Int32), rx_no, rx_no] [] (rx_hp L t hi hl v) Q) : rx_me 102 [.ref 84, .ref (rx_ct c0)] (rx_hp L t hi hl v) Q := by
  show rx_aw 102 0 [.ref 84, .ref (rx_ct c0), rx_no, rx_no, rx_no] [] (rx_hp L t hi hl v) Q
  refine rx_aw_s 2 (pc := 0) rfl ?_
  show rx_aw 102 2 [.ref 84, .ref (rx_ct c0), .int (0 : Int32), rx_no, rx_no] [] (rx_hp L t hi hl v) Q
  exact k
set_option maxRecDepth 100000 in
theorem w102_findForeign_2 {L : Nat} {t : List (Nat × Nat)} {hi : Nat → Nat → Int32} {hl : Nat → Nat → Int64} {v : Nat → Nat → Option Nat} {Q : Option Value → rx_H → Prop} {c0 : Nat} (hc0 : c0 < 6) {x2 : Int32} (k : (((hi 13 4) ≤ x2 → rx_aw 102 43 [.ref 84, .ref (rx_ct c0), .int (0 : Int32), rx_no, rx_no] [] (rx_hp L t hi hl v) Q) ∧ (¬ ((hi 13 4) ≤ x2) → rx_me 38 [.ref 13, .int x2, .int (0 : Int32)] (rx_hp L t hi hl v) (fun r h2 => ∃ z2 : Int32, r = some (.int z2) ∧ rx_ok2 L t h2 (fun hi2 hl2 v2 => (∃ j3 : Nat, x2 = nI j3 ∧ j3 < 12 ∧ (∃ j4 : Nat, x2 = nI j4 ∧ j4 < 12 ∧ rx_aw 102 2 [.ref 84, .ref (rx_ct c0), .int (x2 + (1 : Int32)), rx_no, rx_no] [] (rx_hp L t (rx_u (rx_u hi2 86 j3 z2) 87 j4 (vp_nar .boolean (0 : Int32))) hl2 v2) Q))))))) : rx_aw 102 2 [.ref 84, .ref (rx_ct c0), .int x2, rx_no, rx_no] [] (rx_hp L t hi hl v) Q := by
  refine rx_aw_s 5 (pc := 2) rfl ?_
  refine rx_w_if (c := (hi 13 4) ≤ x2) ⟨fun c1 => ?_, fun c1 => ?_⟩
  · have k := k.1 c1
    show rx_aw 102 41 [.ref 84, .ref (rx_ct c0), .int x2, rx_no, rx_no] [] (rx_hp L t hi hl v) Q
    refine rx_aw_s 2 (pc := 41) rfl ?_
    show rx_aw 102 43 [.ref 84, .ref (rx_ct c0), .int (0 : Int32), rx_no, rx_no] [] (rx_hp L t hi hl v) Q
    exact k
  · have k := k.2 c1
    show rx_aw 102 13 [.ref 84, .ref (rx_ct c0), .int x2, rx_no, rx_no] [] (rx_hp L t hi hl v) Q
    refine rx_aw_s 7 (pc := 13) rfl ?_
    show rx_aw 102 24 [.ref 84, .ref (rx_ct c0), .int x2, rx_no, rx_no] [.int (0 : Int32), .int x2, .ref 13, .int x2, .ref 86] (rx_hp L t hi hl v) Q
    refine rx_w_callI (j := 38) (pc := 24) rfl rfl rfl rfl rfl ?_
    refine rx_aw.mono k (fun r h2 k => ?_)
    obtain ⟨z2, rfl, hi2, hl2, v2, rfl, k⟩ := k
    refine ⟨z2, rfl, ?_⟩
    show rx_aw 102 27 [.ref 84, .ref (rx_ct c0), .int x2, rx_no, rx_no] [.int z2, .int x2, .ref 86] (rx_hp L t hi2 hl2 v2) Q
    obtain ⟨j3, ej3, hj3, k⟩ := k
    refine rx_aw_iast (pc := 27) (n := 12) j3 ej3 rfl rfl (by decide) rfl hj3 (by decide) ?_
    show rx_aw 102 28 [.ref 84, .ref (rx_ct c0), .int x2, rx_no, rx_no] [] (rx_hp L t (rx_u hi2 86 j3 z2) hl2 v2) Q
    refine rx_aw_s 4 (pc := 28) rfl ?_
    show rx_aw 102 34 [.ref 84, .ref (rx_ct c0), .int x2, rx_no, rx_no] [.int (0 : Int32), .int x2, .ref 87] (rx_hp L t (rx_u hi2 86 j3 z2) hl2 v2) Q
    obtain ⟨j4, ej4, hj4, k⟩ := k
    refine rx_aw_zast (pc := 34) (n := 12) j4 ej4 rfl rfl (by decide) rfl hj4 (by decide) ?_
    show rx_aw 102 35 [.ref 84, .ref (rx_ct c0), .int x2, rx_no, rx_no] [] (rx_hp L t (rx_u (rx_u hi2 86 j3 z2) 87 j4 (vp_nar .boolean (0 : Int32))) hl2 v2) Q
    refine rx_aw_s 2 (pc := 35) rfl ?_
    show rx_aw 102 2 [.ref 84, .ref (rx_ct c0), .int (x2 + (1 : Int32)), rx_no, rx_no] [] (rx_hp L t (rx_u (rx_u hi2 86 j3 z2) 87 j4 (vp_nar .boolean (0 : Int32))) hl2 v2) Q
    exact k
set_option maxRecDepth 100000 in
theorem w102_findForeign_43 {L : Nat} {t : List (Nat × Nat)} {hi : Nat → Nat → Int32} {hl : Nat → Nat → Int64} {v : Nat → Nat → Option Nat} {Q : Option Value → rx_H → Prop} {c0 : Nat} (hc0 : c0 < 6) {x2 : Int32} (k : (((hi 13 3) ≤ x2 → Q none (rx_hp L t hi hl v)) ∧ (¬ ((hi 13 3) ≤ x2) → rx_aw 102 56 [.ref 84, .ref (rx_ct c0), .int x2, .int (0 : Int32), rx_no] [] (rx_hp L t hi hl v) Q))) : rx_aw 102 43 [.ref 84, .ref (rx_ct c0), .int x2, rx_no, rx_no] [] (rx_hp L t hi hl v) Q := by
  refine rx_aw_s 5 (pc := 43) rfl ?_
  refine rx_w_if (c := (hi 13 3) ≤ x2) ⟨fun c5 => ?_, fun c5 => ?_⟩
  · have k := k.1 c5
    show rx_aw 102 136 [.ref 84, .ref (rx_ct c0), .int x2, rx_no, rx_no] [] (rx_hp L t hi hl v) Q
    exact rx_aw_ret (pc := 136) rfl k
  · have k := k.2 c5
    show rx_aw 102 54 [.ref 84, .ref (rx_ct c0), .int x2, rx_no, rx_no] [] (rx_hp L t hi hl v) Q
    refine rx_aw_s 2 (pc := 54) rfl ?_
    show rx_aw 102 56 [.ref 84, .ref (rx_ct c0), .int x2, .int (0 : Int32), rx_no] [] (rx_hp L t hi hl v) Q
    exact k
set_option maxRecDepth 100000 in
theorem w102_findForeign_56 {L : Nat} {t : List (Nat × Nat)} {hi : Nat → Nat → Int32} {hl : Nat → Nat → Int64} {v : Nat → Nat → Option Nat} {Q : Option Value → rx_H → Prop} {c0 : Nat} (hc0 : c0 < 6) {x2 : Int32} {x3 : Int32} (k : (((hi 13 5) < x3 → rx_aw 102 43 [.ref 84, .ref (rx_ct c0), .int (x2 + (1 : Int32)), rx_no, rx_no] [] (rx_hp L t hi hl v) Q) ∧ (¬ ((hi 13 5) < x3) → (∃ j7 : Nat, x2 = nI j7 ∧ j7 < 6 ∧ (((some (rx_ct j7) : Option Nat) = (some (rx_ct c0) : Option Nat) → rx_aw 102 43 [.ref 84, .ref (rx_ct c0), .int (x2 + (1 : Int32)), rx_no, rx_no] [] (rx_hp L t hi hl v) Q) ∧ (¬ ((some (rx_ct j7) : Option Nat) = (some (rx_ct c0) : Option Nat)) → (∃ j9 : Nat, x2 = nI j9 ∧ j9 < 6 ∧ (∃ j10 : Nat, x3 = nI j10 ∧ j10 < 402 ∧ rx_me 48 [.int (hi (rx_ct j9 + 3) j10)] (rx_hp L t hi hl v) (fun r h2 => ∃ z11 : Int32, r = some (.int z11) ∧ rx_ok2 L t h2 (fun hi11 hl11 v11 => ((z11 < 0 → rx_aw 102 56 [.ref 84, .ref (rx_ct c0), .int x2, .int (x3 + (1 : Int32)), rx_no] [] (rx_hp L t hi11 hl11 v11) Q) ∧ (¬ (z11 < 0) → (((hi11 13 4) ≤ z11 → rx_aw 102 56 [.ref 84, .ref (rx_ct c0), .int x2, .int (x3 + (1 : Int32)), rx_no] [] (rx_hp L t hi11 hl11 v11) Q) ∧ (¬ ((hi11 13 4) ≤ z11) → (∃ j14 : Nat, z11 = nI j14 ∧ j14 < 12 ∧ rx_aw 102 56 [.ref 84, .ref (rx_ct c0), .int x2, .int (x3 + (1 : Int32)), rx_no] [] (rx_hp L t (rx_u hi11 87 j14 (vp_nar .boolean (1 : Int32))) hl11 v11) Q))))))))))))))) : rx_aw 102 56 [.ref 84, .ref (rx_ct c0), .int x2, .int x3, rx_no] [] (rx_hp L t hi hl v) Q := by
  refine rx_aw_s 5 (pc := 56) rfl ?_
  refine rx_w_if (c := (hi 13 5) < x3) ⟨fun c6 => ?_, fun c6 => ?_⟩
  · have k := k.1 c6
    show rx_aw 102 130 [.ref 84, .ref (rx_ct c0), .int x2, .int x3, rx_no] [] (rx_hp L t hi hl v) Q
    refine rx_aw_s 2 (pc := 130) rfl ?_
    show rx_aw 102 43 [.ref 84, .ref (rx_ct c0), .int (x2 + (1 : Int32)), .int x3, rx_no] [] (rx_hp L t hi hl v) Q
    exact rx_aw_le (ls := [.ref 84, .ref (rx_ct c0), .int (x2 + (1 : Int32)), rx_no, rx_no]) ⟨Or.inr rfl, ⟨Or.inr rfl, ⟨Or.inr rfl, ⟨Or.inl rfl, ⟨Or.inl rfl, trivial⟩⟩⟩⟩⟩ k
  · have k := k.2 c6
    show rx_aw 102 67 [.ref 84, .ref (rx_ct c0), .int x2, .int x3, rx_no] [] (rx_hp L t hi hl v) Q
    refine rx_aw_s 4 (pc := 67) rfl ?_
    show rx_aw 102 75 [.ref 84, .ref (rx_ct c0), .int x2, .int x3, rx_no] [.int x2, .ref 14] (rx_hp L t hi hl v) Q
    obtain ⟨j7, ej7, hj7, k⟩ := k
    refine rx_w_carts (pc := 75) rfl ⟨j7, ej7, hj7, ?_⟩
    show rx_aw 102 76 [.ref 84, .ref (rx_ct c0), .int x2, .int x3, rx_no] [.ref (rx_ct j7)] (rx_hp L t hi hl v) Q
    refine rx_aw_s 2 (pc := 76) rfl ?_
    refine rx_w_if (c := (some (rx_ct j7) : Option Nat) = (some (rx_ct c0) : Option Nat)) ⟨fun c8 => ?_, fun c8 => ?_⟩
    · have k := k.1 c8
      show rx_aw 102 130 [.ref 84, .ref (rx_ct c0), .int x2, .int x3, rx_no] [] (rx_hp L t hi hl v) Q
      refine rx_aw_s 2 (pc := 130) rfl ?_
      show rx_aw 102 43 [.ref 84, .ref (rx_ct c0), .int (x2 + (1 : Int32)), .int x3, rx_no] [] (rx_hp L t hi hl v) Q
      exact rx_aw_le (ls := [.ref 84, .ref (rx_ct c0), .int (x2 + (1 : Int32)), rx_no, rx_no]) ⟨Or.inr rfl, ⟨Or.inr rfl, ⟨Or.inr rfl, ⟨Or.inl rfl, ⟨Or.inl rfl, trivial⟩⟩⟩⟩⟩ k
    · have k := k.2 c8
      show rx_aw 102 80 [.ref 84, .ref (rx_ct c0), .int x2, .int x3, rx_no] [] (rx_hp L t hi hl v) Q
      refine rx_aw_s 4 (pc := 80) rfl ?_
      show rx_aw 102 88 [.ref 84, .ref (rx_ct c0), .int x2, .int x3, rx_no] [.int x2, .ref 14] (rx_hp L t hi hl v) Q
      obtain ⟨j9, ej9, hj9, k⟩ := k
      refine rx_w_carts (pc := 88) rfl ⟨j9, ej9, hj9, ?_⟩
      show rx_aw 102 89 [.ref 84, .ref (rx_ct c0), .int x2, .int x3, rx_no] [.ref (rx_ct j9)] (rx_hp L t hi hl v) Q
      refine rx_w_cr hj9 (pc := 89) rfl (by decide) ?_
      show rx_aw 102 92 [.ref 84, .ref (rx_ct c0), .int x2, .int x3, rx_no] [.ref (rx_ct j9 + 3)] (rx_hp L t hi hl v) Q
      refine rx_aw_s 1 (pc := 92) rfl ?_
      show rx_aw 102 93 [.ref 84, .ref (rx_ct c0), .int x2, .int x3, rx_no] [.int x3, .ref (rx_ct j9 + 3)] (rx_hp L t hi hl v) Q
      obtain ⟨j10, ej10, hj10, k⟩ := k
      refine rx_aw_iald (pc := 93) (n := 402) j10 ej10 rfl (rx_ck (rx_cart_s hj9).2.2.2.1) (rx_cle (rx_cart_s hj9).2.2.2.1) hj10 (by decide) ?_
      show rx_aw 102 94 [.ref 84, .ref (rx_ct c0), .int x2, .int x3, rx_no] [.int (hi (rx_ct j9 + 3) j10)] (rx_hp L t hi hl v) Q
      refine rx_w_callI (j := 48) (pc := 94) rfl rfl rfl rfl rfl ?_
      refine rx_aw.mono k (fun r h2 k => ?_)
      obtain ⟨z11, rfl, hi11, hl11, v11, rfl, k⟩ := k
      refine ⟨z11, rfl, ?_⟩
      show rx_aw 102 97 [.ref 84, .ref (rx_ct c0), .int x2, .int x3, rx_no] [.int z11] (rx_hp L t hi11 hl11 v11) Q
      refine rx_aw_s 3 (pc := 97) rfl ?_
      refine rx_w_if (c := z11 < 0) ⟨fun c12 => ?_, fun c12 => ?_⟩
      · have k := k.1 c12
        show rx_aw 102 124 [.ref 84, .ref (rx_ct c0), .int x2, .int x3, .int z11] [] (rx_hp L t hi11 hl11 v11) Q
        refine rx_aw_s 2 (pc := 124) rfl ?_
        show rx_aw 102 56 [.ref 84, .ref (rx_ct c0), .int x2, .int (x3 + (1 : Int32)), .int z11] [] (rx_hp L t hi11 hl11 v11) Q
        exact rx_aw_le (ls := [.ref 84, .ref (rx_ct c0), .int x2, .int (x3 + (1 : Int32)), rx_no]) ⟨Or.inr rfl, ⟨Or.inr rfl, ⟨Or.inr rfl, ⟨Or.inr rfl, ⟨Or.inl rfl, trivial⟩⟩⟩⟩⟩ k
      · have k := k.2 c12
        show rx_aw 102 104 [.ref 84, .ref (rx_ct c0), .int x2, .int x3, .int z11] [] (rx_hp L t hi11 hl11 v11) Q
        refine rx_aw_s 5 (pc := 104) rfl ?_
        refine rx_w_if (c := (hi11 13 4) ≤ z11) ⟨fun c13 => ?_, fun c13 => ?_⟩
        · have k := k.1 c13
          show rx_aw 102 124 [.ref 84, .ref (rx_ct c0), .int x2, .int x3, .int z11] [] (rx_hp L t hi11 hl11 v11) Q
          refine rx_aw_s 2 (pc := 124) rfl ?_
          show rx_aw 102 56 [.ref 84, .ref (rx_ct c0), .int x2, .int (x3 + (1 : Int32)), .int z11] [] (rx_hp L t hi11 hl11 v11) Q
          exact rx_aw_le (ls := [.ref 84, .ref (rx_ct c0), .int x2, .int (x3 + (1 : Int32)), rx_no]) ⟨Or.inr rfl, ⟨Or.inr rfl, ⟨Or.inr rfl, ⟨Or.inr rfl, ⟨Or.inl rfl, trivial⟩⟩⟩⟩⟩ k
        · have k := k.2 c13
          show rx_aw 102 116 [.ref 84, .ref (rx_ct c0), .int x2, .int x3, .int z11] [] (rx_hp L t hi11 hl11 v11) Q
          refine rx_aw_s 4 (pc := 116) rfl ?_
          show rx_aw 102 123 [.ref 84, .ref (rx_ct c0), .int x2, .int x3, .int z11] [.int (1 : Int32), .int z11, .ref 87] (rx_hp L t hi11 hl11 v11) Q
          obtain ⟨j14, ej14, hj14, k⟩ := k
          refine rx_aw_zast (pc := 123) (n := 12) j14 ej14 rfl rfl (by decide) rfl hj14 (by decide) ?_
          show rx_aw 102 124 [.ref 84, .ref (rx_ct c0), .int x2, .int x3, .int z11] [] (rx_hp L t (rx_u hi11 87 j14 (vp_nar .boolean (1 : Int32))) hl11 v11) Q
          refine rx_aw_s 2 (pc := 124) rfl ?_
          show rx_aw 102 56 [.ref 84, .ref (rx_ct c0), .int x2, .int (x3 + (1 : Int32)), .int z11] [] (rx_hp L t (rx_u hi11 87 j14 (vp_nar .boolean (1 : Int32))) hl11 v11) Q
          exact rx_aw_le (ls := [.ref 84, .ref (rx_ct c0), .int x2, .int (x3 + (1 : Int32)), rx_no]) ⟨Or.inr rfl, ⟨Or.inr rfl, ⟨Or.inr rfl, ⟨Or.inr rfl, ⟨Or.inl rfl, trivial⟩⟩⟩⟩⟩ k
set_option maxRecDepth 100000 in
/-- CartFloor$Told.liftable(I)I -/
theorem w103_liftable {L : Nat} {t : List (Nat × Nat)} {hi : Nat → Nat → Int32} {hl : Nat → Nat → Int64} {v : Nat → Nat → Option Nat} {Q : Option Value → rx_H → Prop} {a0 : Int32} (k : rx_aw 103 2 [.ref 84, .int a0, .int (0 : Int32)] [] (rx_hp L t hi hl v) Q) : rx_me 103 [.ref 84, .int a0] (rx_hp L t hi hl v) Q := by
  show rx_aw 103 0 [.ref 84, .int a0, rx_no] [] (rx_hp L t hi hl v) Q
  refine rx_aw_s 2 (pc := 0) rfl ?_
  show rx_aw 103 2 [.ref 84, .int a0, .int (0 : Int32)] [] (rx_hp L t hi hl v) Q
  exact k
set_option maxRecDepth 100000 in
theorem w103_liftable_2 {L : Nat} {t : List (Nat × Nat)} {hi : Nat → Nat → Int32} {hl : Nat → Nat → Int64} {v : Nat → Nat → Option Nat} {Q : Option Value → rx_H → Prop} {x1 : Int32} {x2 : Int32} (k : (((hi 13 4) ≤ x2 → Q (some (.int (-1 : Int32))) (rx_hp L t hi hl v)) ∧ (¬ ((hi 13 4) ≤ x2) → (∃ j2 : Nat, x2 = nI j2 ∧ j2 < 12 ∧ (((hi 87 j2) = 0 → (∃ j4 : Nat, x2 = nI j4 ∧ j4 < 12 ∧ (((hi 86 j4) = x1 → Q (some (.int x2)) (rx_hp L t hi hl v)) ∧ (¬ ((hi 86 j4) = x1) → rx_aw 103 2 [.ref 84, .int x1, .int (x2 + (1 : Int32))] [] (rx_hp L t hi hl v) Q)))) ∧ (¬ ((hi 87 j2) = 0) → rx_aw 103 2 [.ref 84, .int x1, .int (x2 + (1 : Int32))] [] (rx_hp L t hi hl v) Q)))))) : rx_aw 103 2 [.ref 84, .int x1, .int x2] [] (rx_hp L t hi hl v) Q := by
  refine rx_aw_s 5 (pc := 2) rfl ?_
  refine rx_w_if (c := (hi 13 4) ≤ x2) ⟨fun c1 => ?_, fun c1 => ?_⟩
  · have k := k.1 c1
    show rx_aw 103 40 [.ref 84, .int x1, .int x2] [] (rx_hp L t hi hl v) Q
    refine rx_aw_s 1 (pc := 40) rfl ?_
    show rx_aw 103 41 [.ref 84, .int x1, .int x2] [.int (-1 : Int32)] (rx_hp L t hi hl v) Q
    exact rx_aw_ret (pc := 41) rfl k
  · have k := k.2 c1
    show rx_aw 103 13 [.ref 84, .int x1, .int x2] [] (rx_hp L t hi hl v) Q
    refine rx_aw_s 3 (pc := 13) rfl ?_
    show rx_aw 103 18 [.ref 84, .int x1, .int x2] [.int x2, .ref 87] (rx_hp L t hi hl v) Q
    obtain ⟨j2, ej2, hj2, k⟩ := k
    refine rx_aw_bald (pc := 18) (n := 12) j2 ej2 rfl (Or.inr rfl) (by decide) rfl hj2 (by decide) ?_
    show rx_aw 103 19 [.ref 84, .int x1, .int x2] [.int (hi 87 j2)] (rx_hp L t hi hl v) Q
    refine rx_aw_s 1 (pc := 19) rfl ?_
    refine rx_w_ifn (c := (hi 87 j2) = 0) ⟨fun c3 => ?_, fun c3 => ?_⟩
    · have k := k.1 c3
      show rx_aw 103 22 [.ref 84, .int x1, .int x2] [] (rx_hp L t hi hl v) Q
      refine rx_aw_s 3 (pc := 22) rfl ?_
      show rx_aw 103 27 [.ref 84, .int x1, .int x2] [.int x2, .ref 86] (rx_hp L t hi hl v) Q
      obtain ⟨j4, ej4, hj4, k⟩ := k
      refine rx_aw_iald (pc := 27) (n := 12) j4 ej4 rfl rfl rfl hj4 (by decide) ?_
      show rx_aw 103 28 [.ref 84, .int x1, .int x2] [.int (hi 86 j4)] (rx_hp L t hi hl v) Q
      refine rx_aw_s 2 (pc := 28) rfl ?_
      refine rx_w_ifn (c := (hi 86 j4) = x1) ⟨fun c5 => ?_, fun c5 => ?_⟩
      · have k := k.1 c5
        show rx_aw 103 32 [.ref 84, .int x1, .int x2] [] (rx_hp L t hi hl v) Q
        refine rx_aw_s 1 (pc := 32) rfl ?_
        show rx_aw 103 33 [.ref 84, .int x1, .int x2] [.int x2] (rx_hp L t hi hl v) Q
        exact rx_aw_ret (pc := 33) rfl k
      · have k := k.2 c5
        show rx_aw 103 34 [.ref 84, .int x1, .int x2] [] (rx_hp L t hi hl v) Q
        refine rx_aw_s 2 (pc := 34) rfl ?_
        show rx_aw 103 2 [.ref 84, .int x1, .int (x2 + (1 : Int32))] [] (rx_hp L t hi hl v) Q
        exact k
    · have k := k.2 c3
      show rx_aw 103 34 [.ref 84, .int x1, .int x2] [] (rx_hp L t hi hl v) Q
      refine rx_aw_s 2 (pc := 34) rfl ?_
      show rx_aw 103 2 [.ref 84, .int x1, .int (x2 + (1 : Int32))] [] (rx_hp L t hi hl v) Q
      exact k
set_option maxRecDepth 100000 in
/-- CartFloor$Told.fits(LCartFloor$Cart;IJI)Z -/
theorem w104_fits {L : Nat} {t : List (Nat × Nat)} {hi : Nat → Nat → Int32} {hl : Nat → Nat → Int64} {v : Nat → Nat → Option Nat} {Q : Option Value → rx_H → Prop} {c0 : Nat} (hc0 : c0 < 6) {a1 : Int32} {a2 : Int64} {a3 : Int32} (k : (((lg_cmp (a2 &&& (hl 7 10)) (0 : Int64)) = 0 → (((hi (rx_ct c0) 5) = (1 : Int32) → ((0 ≤ a1 → rx_aw 104 38 [.ref 84, .ref (rx_ct c0), .int a1, .long a2, rx_no, .int a3, .int (0 : Int32), .int (0 : Int32), rx_no] [] (rx_hp L t hi hl v) Q) ∧ (¬ (0 ≤ a1) → rx_aw 104 38 [.ref 84, .ref (rx_ct c0), .int a1, .long a2, rx_no, .int a3, .int (1 : Int32), .int (0 : Int32), rx_no] [] (rx_hp L t hi hl v) Q))) ∧ (¬ ((hi (rx_ct c0) 5) = (1 : Int32)) → rx_aw 104 38 [.ref 84, .ref (rx_ct c0), .int a1, .long a2, rx_no, .int a3, .int (0 : Int32), .int (0 : Int32), rx_no] [] (rx_hp L t hi hl v) Q))) ∧ (¬ ((lg_cmp (a2 &&& (hl 7 10)) (0 : Int64)) = 0) → Q (some (.int (0 : Int32))) (rx_hp L t hi hl v)))) : rx_me 104 [.ref 84, .ref (rx_ct c0), .int a1, .long a2, .int a3] (rx_hp L t hi hl v) Q := by
  show rx_aw 104 0 [.ref 84, .ref (rx_ct c0), .int a1, .long a2, rx_no, .int a3, rx_no, rx_no, rx_no] [] (rx_hp L t hi hl v) Q
  refine rx_aw_s 8 (pc := 0) rfl ?_
  refine rx_w_if (c := (lg_cmp (a2 &&& (hl 7 10)) (0 : Int64)) = 0) ⟨fun c1 => ?_, fun c1 => ?_⟩
  · have k := k.1 c1
    show rx_aw 104 16 [.ref 84, .ref (rx_ct c0), .int a1, .long a2, rx_no, .int a3, rx_no, rx_no, rx_no] [] (rx_hp L t hi hl v) Q
    refine rx_aw_s 1 (pc := 16) rfl ?_
    show rx_aw 104 17 [.ref 84, .ref (rx_ct c0), .int a1, .long a2, rx_no, .int a3, rx_no, rx_no, rx_no] [.ref (rx_ct c0)] (rx_hp L t hi hl v) Q
    refine rx_w_cg hc0 (pc := 17) rfl (by decide) (by decide) ?_
    show rx_aw 104 20 [.ref 84, .ref (rx_ct c0), .int a1, .long a2, rx_no, .int a3, rx_no, rx_no, rx_no] [.int (hi (rx_ct c0) 5)] (rx_hp L t hi hl v) Q
    refine rx_aw_s 2 (pc := 20) rfl ?_
    refine rx_w_ifn (c := (hi (rx_ct c0) 5) = (1 : Int32)) ⟨fun c2 => ?_, fun c2 => ?_⟩
    · have k := k.1 c2
      show rx_aw 104 24 [.ref 84, .ref (rx_ct c0), .int a1, .long a2, rx_no, .int a3, rx_no, rx_no, rx_no] [] (rx_hp L t hi hl v) Q
      refine rx_aw_s 2 (pc := 24) rfl ?_
      refine rx_w_if (c := 0 ≤ a1) ⟨fun c3 => ?_, fun c3 => ?_⟩
      · have k := k.1 c3
        show rx_aw 104 32 [.ref 84, .ref (rx_ct c0), .int a1, .long a2, rx_no, .int a3, rx_no, rx_no, rx_no] [] (rx_hp L t hi hl v) Q
        refine rx_aw_s 4 (pc := 32) rfl ?_
        show rx_aw 104 38 [.ref 84, .ref (rx_ct c0), .int a1, .long a2, rx_no, .int a3, .int (0 : Int32), .int (0 : Int32), rx_no] [] (rx_hp L t hi hl v) Q
        exact k
      · have k := k.2 c3
        show rx_aw 104 28 [.ref 84, .ref (rx_ct c0), .int a1, .long a2, rx_no, .int a3, rx_no, rx_no, rx_no] [] (rx_hp L t hi hl v) Q
        refine rx_aw_s 5 (pc := 28) rfl ?_
        show rx_aw 104 38 [.ref 84, .ref (rx_ct c0), .int a1, .long a2, rx_no, .int a3, .int (1 : Int32), .int (0 : Int32), rx_no] [] (rx_hp L t hi hl v) Q
        exact k
    · have k := k.2 c2
      show rx_aw 104 32 [.ref 84, .ref (rx_ct c0), .int a1, .long a2, rx_no, .int a3, rx_no, rx_no, rx_no] [] (rx_hp L t hi hl v) Q
      refine rx_aw_s 4 (pc := 32) rfl ?_
      show rx_aw 104 38 [.ref 84, .ref (rx_ct c0), .int a1, .long a2, rx_no, .int a3, .int (0 : Int32), .int (0 : Int32), rx_no] [] (rx_hp L t hi hl v) Q
      exact k
  · have k := k.2 c1
    show rx_aw 104 14 [.ref 84, .ref (rx_ct c0), .int a1, .long a2, rx_no, .int a3, rx_no, rx_no, rx_no] [] (rx_hp L t hi hl v) Q
    refine rx_aw_s 1 (pc := 14) rfl ?_
    show rx_aw 104 15 [.ref 84, .ref (rx_ct c0), .int a1, .long a2, rx_no, .int a3, rx_no, rx_no, rx_no] [.int (0 : Int32)] (rx_hp L t hi hl v) Q
    exact rx_aw_ret (pc := 15) rfl k
set_option maxRecDepth 100000 in
theorem w104_fits_38 {L : Nat} {t : List (Nat × Nat)} {hi : Nat → Nat → Int32} {hl : Nat → Nat → Int64} {v : Nat → Nat → Option Nat} {Q : Option Value → rx_H → Prop} {c0 : Nat} (hc0 : c0 < 6) {x2 : Int32} {x3 : Int64} {x5 : Int32} {x6 : Int32} {x7 : Int32} (k : (((hi 13 4) ≤ x7 → Q (some (.int (1 : Int32))) (rx_hp L t hi hl v)) ∧ (¬ ((hi 13 4) ≤ x7) → ((x6 = 0 → (∃ j6 : Nat, x7 = nI j6 ∧ j6 < 12 ∧ (((hi 87 j6) = 0 → (∃ j8 : Nat, x7 = nI j8 ∧ j8 < 12 ∧ ((x7 = x2 → rx_aw 104 38 [.ref 84, .ref (rx_ct c0), .int x2, .long x3, rx_no, .int x5, .int x6, .int (x7 + (1 : Int32)), rx_no] [] (rx_hp L t hi hl v) Q) ∧ (¬ (x7 = x2) → rx_me 9 [.int (hi 86 j8)] (rx_hp L t hi hl v) (fun r h2 => ∃ z10 : Int64, r = some (.long z10) ∧ rx_ok2 L t h2 (fun hi10 hl10 v10 => (((lg_cmp (x3 &&& z10) (0 : Int64)) = 0 → rx_aw 104 38 [.ref 84, .ref (rx_ct c0), .int x2, .long x3, rx_no, .int x5, .int x6, .int (x7 + (1 : Int32)), rx_no] [] (rx_hp L t hi10 hl10 v10) Q) ∧ (¬ ((lg_cmp (x3 &&& z10) (0 : Int64)) = 0) → Q (some (.int (0 : Int32))) (rx_hp L t hi10 hl10 v10))))))))) ∧ (¬ ((hi 87 j6) = 0) → rx_me 38 [.ref 13, .int x7, .int x5] (rx_hp L t hi hl v) (fun r h2 => ∃ z12 : Int32, r = some (.int z12) ∧ rx_ok2 L t h2 (fun hi12 hl12 v12 => ((x7 = x2 → rx_aw 104 38 [.ref 84, .ref (rx_ct c0), .int x2, .long x3, rx_no, .int x5, .int x6, .int (x7 + (1 : Int32)), rx_no] [] (rx_hp L t hi12 hl12 v12) Q) ∧ (¬ (x7 = x2) → rx_me 9 [.int z12] (rx_hp L t hi12 hl12 v12) (fun r h2 => ∃ z14 : Int64, r = some (.long z14) ∧ rx_ok2 L t h2 (fun hi14 hl14 v14 => (((lg_cmp (x3 &&& z14) (0 : Int64)) = 0 → rx_aw 104 38 [.ref 84, .ref (rx_ct c0), .int x2, .long x3, rx_no, .int x5, .int x6, .int (x7 + (1 : Int32)), rx_no] [] (rx_hp L t hi14 hl14 v14) Q) ∧ (¬ ((lg_cmp (x3 &&& z14) (0 : Int64)) = 0) → Q (some (.int (0 : Int32))) (rx_hp L t hi14 hl14 v14))))))))))))) ∧ (¬ (x6 = 0) → Q (some (.int (1 : Int32))) (rx_hp L t hi hl v)))))) : rx_aw 104 38 [.ref 84, .ref (rx_ct c0), .int x2, .long x3, rx_no, .int x5, .int x6, .int x7, rx_no] [] (rx_hp L t hi hl v) Q := by
  refine rx_aw_s 5 (pc := 38) rfl ?_
  refine rx_w_if (c := (hi 13 4) ≤ x7) ⟨fun c4 => ?_, fun c4 => ?_⟩
  · have k := k.1 c4
    show rx_aw 104 114 [.ref 84, .ref (rx_ct c0), .int x2, .long x3, rx_no, .int x5, .int x6, .int x7, rx_no] [] (rx_hp L t hi hl v) Q
    refine rx_aw_s 1 (pc := 114) rfl ?_
    show rx_aw 104 115 [.ref 84, .ref (rx_ct c0), .int x2, .long x3, rx_no, .int x5, .int x6, .int x7, rx_no] [.int (1 : Int32)] (rx_hp L t hi hl v) Q
    exact rx_aw_ret (pc := 115) rfl k
  · have k := k.2 c4
    show rx_aw 104 50 [.ref 84, .ref (rx_ct c0), .int x2, .long x3, rx_no, .int x5, .int x6, .int x7, rx_no] [] (rx_hp L t hi hl v) Q
    refine rx_aw_s 2 (pc := 50) rfl ?_
    refine rx_w_ifn (c := x6 = 0) ⟨fun c5 => ?_, fun c5 => ?_⟩
    · have k := k.1 c5
      show rx_aw 104 55 [.ref 84, .ref (rx_ct c0), .int x2, .long x3, rx_no, .int x5, .int x6, .int x7, rx_no] [] (rx_hp L t hi hl v) Q
      refine rx_aw_s 3 (pc := 55) rfl ?_
      show rx_aw 104 61 [.ref 84, .ref (rx_ct c0), .int x2, .long x3, rx_no, .int x5, .int x6, .int x7, rx_no] [.int x7, .ref 87] (rx_hp L t hi hl v) Q
      obtain ⟨j6, ej6, hj6, k⟩ := k
      refine rx_aw_bald (pc := 61) (n := 12) j6 ej6 rfl (Or.inr rfl) (by decide) rfl hj6 (by decide) ?_
      show rx_aw 104 62 [.ref 84, .ref (rx_ct c0), .int x2, .long x3, rx_no, .int x5, .int x6, .int x7, rx_no] [.int (hi 87 j6)] (rx_hp L t hi hl v) Q
      refine rx_aw_s 1 (pc := 62) rfl ?_
      refine rx_w_if (c := (hi 87 j6) = 0) ⟨fun c7 => ?_, fun c7 => ?_⟩
      · have k := k.1 c7
        show rx_aw 104 79 [.ref 84, .ref (rx_ct c0), .int x2, .long x3, rx_no, .int x5, .int x6, .int x7, rx_no] [] (rx_hp L t hi hl v) Q
        refine rx_aw_s 3 (pc := 79) rfl ?_
        show rx_aw 104 85 [.ref 84, .ref (rx_ct c0), .int x2, .long x3, rx_no, .int x5, .int x6, .int x7, rx_no] [.int x7, .ref 86] (rx_hp L t hi hl v) Q
        obtain ⟨j8, ej8, hj8, k⟩ := k
        refine rx_aw_iald (pc := 85) (n := 12) j8 ej8 rfl rfl rfl hj8 (by decide) ?_
        show rx_aw 104 86 [.ref 84, .ref (rx_ct c0), .int x2, .long x3, rx_no, .int x5, .int x6, .int x7, rx_no] [.int (hi 86 j8)] (rx_hp L t hi hl v) Q
        refine rx_aw_s 4 (pc := 86) rfl ?_
        refine rx_w_if (c := x7 = x2) ⟨fun c9 => ?_, fun c9 => ?_⟩
        · have k := k.1 c9
          show rx_aw 104 108 [.ref 84, .ref (rx_ct c0), .int x2, .long x3, rx_no, .int x5, .int x6, .int x7, .int (hi 86 j8)] [] (rx_hp L t hi hl v) Q
          refine rx_aw_s 2 (pc := 108) rfl ?_
          show rx_aw 104 38 [.ref 84, .ref (rx_ct c0), .int x2, .long x3, rx_no, .int x5, .int x6, .int (x7 + (1 : Int32)), .int (hi 86 j8)] [] (rx_hp L t hi hl v) Q
          exact rx_aw_le (ls := [.ref 84, .ref (rx_ct c0), .int x2, .long x3, rx_no, .int x5, .int x6, .int (x7 + (1 : Int32)), rx_no]) ⟨Or.inr rfl, ⟨Or.inr rfl, ⟨Or.inr rfl, ⟨Or.inr rfl, ⟨Or.inl rfl, ⟨Or.inr rfl, ⟨Or.inr rfl, ⟨Or.inr rfl, ⟨Or.inl rfl, trivial⟩⟩⟩⟩⟩⟩⟩⟩⟩ k
        · have k := k.2 c9
          show rx_aw 104 94 [.ref 84, .ref (rx_ct c0), .int x2, .long x3, rx_no, .int x5, .int x6, .int x7, .int (hi 86 j8)] [] (rx_hp L t hi hl v) Q
          refine rx_aw_s 2 (pc := 94) rfl ?_
          show rx_aw 104 97 [.ref 84, .ref (rx_ct c0), .int x2, .long x3, rx_no, .int x5, .int x6, .int x7, .int (hi 86 j8)] [.int (hi 86 j8), .long x3] (rx_hp L t hi hl v) Q
          refine rx_w_callL (j := 9) (pc := 97) rfl rfl rfl rfl rfl ?_
          refine rx_aw.mono k (fun r h2 k => ?_)
          obtain ⟨z10, rfl, hi10, hl10, v10, rfl, k⟩ := k
          refine ⟨z10, rfl, ?_⟩
          show rx_aw 104 100 [.ref 84, .ref (rx_ct c0), .int x2, .long x3, rx_no, .int x5, .int x6, .int x7, .int (hi 86 j8)] [.long z10, .long x3] (rx_hp L t hi10 hl10 v10) Q
          refine rx_aw_s 4 (pc := 100) rfl ?_
          refine rx_w_if (c := (lg_cmp (x3 &&& z10) (0 : Int64)) = 0) ⟨fun c11 => ?_, fun c11 => ?_⟩
          · have k := k.1 c11
            show rx_aw 104 108 [.ref 84, .ref (rx_ct c0), .int x2, .long x3, rx_no, .int x5, .int x6, .int x7, .int (hi 86 j8)] [] (rx_hp L t hi10 hl10 v10) Q
            refine rx_aw_s 2 (pc := 108) rfl ?_
            show rx_aw 104 38 [.ref 84, .ref (rx_ct c0), .int x2, .long x3, rx_no, .int x5, .int x6, .int (x7 + (1 : Int32)), .int (hi 86 j8)] [] (rx_hp L t hi10 hl10 v10) Q
            exact rx_aw_le (ls := [.ref 84, .ref (rx_ct c0), .int x2, .long x3, rx_no, .int x5, .int x6, .int (x7 + (1 : Int32)), rx_no]) ⟨Or.inr rfl, ⟨Or.inr rfl, ⟨Or.inr rfl, ⟨Or.inr rfl, ⟨Or.inl rfl, ⟨Or.inr rfl, ⟨Or.inr rfl, ⟨Or.inr rfl, ⟨Or.inl rfl, trivial⟩⟩⟩⟩⟩⟩⟩⟩⟩ k
          · have k := k.2 c11
            show rx_aw 104 106 [.ref 84, .ref (rx_ct c0), .int x2, .long x3, rx_no, .int x5, .int x6, .int x7, .int (hi 86 j8)] [] (rx_hp L t hi10 hl10 v10) Q
            refine rx_aw_s 1 (pc := 106) rfl ?_
            show rx_aw 104 107 [.ref 84, .ref (rx_ct c0), .int x2, .long x3, rx_no, .int x5, .int x6, .int x7, .int (hi 86 j8)] [.int (0 : Int32)] (rx_hp L t hi10 hl10 v10) Q
            exact rx_aw_ret (pc := 107) rfl k
      · have k := k.2 c7
        show rx_aw 104 65 [.ref 84, .ref (rx_ct c0), .int x2, .long x3, rx_no, .int x5, .int x6, .int x7, rx_no] [] (rx_hp L t hi hl v) Q
        refine rx_aw_s 4 (pc := 65) rfl ?_
        show rx_aw 104 73 [.ref 84, .ref (rx_ct c0), .int x2, .long x3, rx_no, .int x5, .int x6, .int x7, rx_no] [.int x5, .int x7, .ref 13] (rx_hp L t hi hl v) Q
        refine rx_w_callI (j := 38) (pc := 73) rfl rfl rfl rfl rfl ?_
        refine rx_aw.mono k (fun r h2 k => ?_)
        obtain ⟨z12, rfl, hi12, hl12, v12, rfl, k⟩ := k
        refine ⟨z12, rfl, ?_⟩
        show rx_aw 104 76 [.ref 84, .ref (rx_ct c0), .int x2, .long x3, rx_no, .int x5, .int x6, .int x7, rx_no] [.int z12] (rx_hp L t hi12 hl12 v12) Q
        refine rx_aw_s 5 (pc := 76) rfl ?_
        refine rx_w_if (c := x7 = x2) ⟨fun c13 => ?_, fun c13 => ?_⟩
        · have k := k.1 c13
          show rx_aw 104 108 [.ref 84, .ref (rx_ct c0), .int x2, .long x3, rx_no, .int x5, .int x6, .int x7, .int z12] [] (rx_hp L t hi12 hl12 v12) Q
          refine rx_aw_s 2 (pc := 108) rfl ?_
          show rx_aw 104 38 [.ref 84, .ref (rx_ct c0), .int x2, .long x3, rx_no, .int x5, .int x6, .int (x7 + (1 : Int32)), .int z12] [] (rx_hp L t hi12 hl12 v12) Q
          exact rx_aw_le (ls := [.ref 84, .ref (rx_ct c0), .int x2, .long x3, rx_no, .int x5, .int x6, .int (x7 + (1 : Int32)), rx_no]) ⟨Or.inr rfl, ⟨Or.inr rfl, ⟨Or.inr rfl, ⟨Or.inr rfl, ⟨Or.inl rfl, ⟨Or.inr rfl, ⟨Or.inr rfl, ⟨Or.inr rfl, ⟨Or.inl rfl, trivial⟩⟩⟩⟩⟩⟩⟩⟩⟩ k
        · have k := k.2 c13
          show rx_aw 104 94 [.ref 84, .ref (rx_ct c0), .int x2, .long x3, rx_no, .int x5, .int x6, .int x7, .int z12] [] (rx_hp L t hi12 hl12 v12) Q
          refine rx_aw_s 2 (pc := 94) rfl ?_
          show rx_aw 104 97 [.ref 84, .ref (rx_ct c0), .int x2, .long x3, rx_no, .int x5, .int x6, .int x7, .int z12] [.int z12, .long x3] (rx_hp L t hi12 hl12 v12) Q
          refine rx_w_callL (j := 9) (pc := 97) rfl rfl rfl rfl rfl ?_
          refine rx_aw.mono k (fun r h2 k => ?_)
          obtain ⟨z14, rfl, hi14, hl14, v14, rfl, k⟩ := k
          refine ⟨z14, rfl, ?_⟩
          show rx_aw 104 100 [.ref 84, .ref (rx_ct c0), .int x2, .long x3, rx_no, .int x5, .int x6, .int x7, .int z12] [.long z14, .long x3] (rx_hp L t hi14 hl14 v14) Q
          refine rx_aw_s 4 (pc := 100) rfl ?_
          refine rx_w_if (c := (lg_cmp (x3 &&& z14) (0 : Int64)) = 0) ⟨fun c15 => ?_, fun c15 => ?_⟩
          · have k := k.1 c15
            show rx_aw 104 108 [.ref 84, .ref (rx_ct c0), .int x2, .long x3, rx_no, .int x5, .int x6, .int x7, .int z12] [] (rx_hp L t hi14 hl14 v14) Q
            refine rx_aw_s 2 (pc := 108) rfl ?_
            show rx_aw 104 38 [.ref 84, .ref (rx_ct c0), .int x2, .long x3, rx_no, .int x5, .int x6, .int (x7 + (1 : Int32)), .int z12] [] (rx_hp L t hi14 hl14 v14) Q
            exact rx_aw_le (ls := [.ref 84, .ref (rx_ct c0), .int x2, .long x3, rx_no, .int x5, .int x6, .int (x7 + (1 : Int32)), rx_no]) ⟨Or.inr rfl, ⟨Or.inr rfl, ⟨Or.inr rfl, ⟨Or.inr rfl, ⟨Or.inl rfl, ⟨Or.inr rfl, ⟨Or.inr rfl, ⟨Or.inr rfl, ⟨Or.inl rfl, trivial⟩⟩⟩⟩⟩⟩⟩⟩⟩ k
          · have k := k.2 c15
            show rx_aw 104 106 [.ref 84, .ref (rx_ct c0), .int x2, .long x3, rx_no, .int x5, .int x6, .int x7, .int z12] [] (rx_hp L t hi14 hl14 v14) Q
            refine rx_aw_s 1 (pc := 106) rfl ?_
            show rx_aw 104 107 [.ref 84, .ref (rx_ct c0), .int x2, .long x3, rx_no, .int x5, .int x6, .int x7, .int z12] [.int (0 : Int32)] (rx_hp L t hi14 hl14 v14) Q
            exact rx_aw_ret (pc := 107) rfl k
    · have k := k.2 c5
      show rx_aw 104 114 [.ref 84, .ref (rx_ct c0), .int x2, .long x3, rx_no, .int x5, .int x6, .int x7, rx_no] [] (rx_hp L t hi hl v) Q
      refine rx_aw_s 1 (pc := 114) rfl ?_
      show rx_aw 104 115 [.ref 84, .ref (rx_ct c0), .int x2, .long x3, rx_no, .int x5, .int x6, .int x7, rx_no] [.int (1 : Int32)] (rx_hp L t hi hl v) Q
      exact rx_aw_ret (pc := 115) rfl k
set_option maxRecDepth 100000 in
/-- CartFloor$Told.carry(II)V -/
theorem w105_carry {L : Nat} {t : List (Nat × Nat)} {hi : Nat → Nat → Int32} {hl : Nat → Nat → Int64} {v : Nat → Nat → Option Nat} {Q : Option Value → rx_H → Prop} {a0 : Int32} {a1 : Int32} (k : ((a0 < 0 → Q none (rx_hp L t hi hl v)) ∧ (¬ (a0 < 0) → (((hi 13 4) ≤ a0 → Q none (rx_hp L t hi hl v)) ∧ (¬ ((hi 13 4) ≤ a0) → (∃ j3 : Nat, a0 = nI j3 ∧ j3 < 12 ∧ Q none (rx_hp L t (rx_u hi 86 j3 a1) hl v))))))) : rx_me 105 [.ref 84, .int a0, .int a1] (rx_hp L t hi hl v) Q := by
  show rx_aw 105 0 [.ref 84, .int a0, .int a1] [] (rx_hp L t hi hl v) Q
  refine rx_aw_s 2 (pc := 0) rfl ?_
  refine rx_w_if (c := a0 < 0) ⟨fun c1 => ?_, fun c1 => ?_⟩
  · have k := k.1 c1
    show rx_aw 105 22 [.ref 84, .int a0, .int a1] [] (rx_hp L t hi hl v) Q
    exact rx_aw_ret (pc := 22) rfl k
  · have k := k.2 c1
    show rx_aw 105 4 [.ref 84, .int a0, .int a1] [] (rx_hp L t hi hl v) Q
    refine rx_aw_s 5 (pc := 4) rfl ?_
    refine rx_w_if (c := (hi 13 4) ≤ a0) ⟨fun c2 => ?_, fun c2 => ?_⟩
    · have k := k.1 c2
      show rx_aw 105 22 [.ref 84, .int a0, .int a1] [] (rx_hp L t hi hl v) Q
      exact rx_aw_ret (pc := 22) rfl k
    · have k := k.2 c2
      show rx_aw 105 15 [.ref 84, .int a0, .int a1] [] (rx_hp L t hi hl v) Q
      refine rx_aw_s 4 (pc := 15) rfl ?_
      show rx_aw 105 21 [.ref 84, .int a0, .int a1] [.int a1, .int a0, .ref 86] (rx_hp L t hi hl v) Q
      obtain ⟨j3, ej3, hj3, k⟩ := k
      refine rx_aw_iast (pc := 21) (n := 12) j3 ej3 rfl rfl (by decide) rfl hj3 (by decide) ?_
      show rx_aw 105 22 [.ref 84, .int a0, .int a1] [] (rx_hp L t (rx_u hi 86 j3 a1) hl v) Q
      exact rx_aw_ret (pc := 22) rfl k
set_option maxRecDepth 100000 in
/-- CartFloor$Traffic.anyMoveButGuests()Z -/
theorem w107_anyMoveButGuests {L : Nat} {t : List (Nat × Nat)} {hi : Nat → Nat → Int32} {hl : Nat → Nat → Int64} {v : Nat → Nat → Option Nat} {Q : Option Value → rx_H → Prop}  (k : rx_aw 107 2 [.ref 13, .int (0 : Int32)] [] (rx_hp L t hi hl v) Q) : rx_me 107 [.ref 13] (rx_hp L t hi hl v) Q := by
  show rx_aw 107 0 [.ref 13, rx_no] [] (rx_hp L t hi hl v) Q
  refine rx_aw_s 2 (pc := 0) rfl ?_
  show rx_aw 107 2 [.ref 13, .int (0 : Int32)] [] (rx_hp L t hi hl v) Q
  exact k
set_option maxRecDepth 100000 in
theorem w107_anyMoveButGuests_2 {L : Nat} {t : List (Nat × Nat)} {hi : Nat → Nat → Int32} {hl : Nat → Nat → Int64} {v : Nat → Nat → Option Nat} {Q : Option Value → rx_H → Prop} {x1 : Int32} (k : (((hi 13 3) ≤ x1 → Q (some (.int (0 : Int32))) (rx_hp L t hi hl v)) ∧ (¬ ((hi 13 3) ≤ x1) → (∃ j2 : Nat, x1 = nI j2 ∧ j2 < 6 ∧ (((hi (rx_ct j2) 5) = (3 : Int32) → rx_aw 107 2 [.ref 13, .int (x1 + (1 : Int32))] [] (rx_hp L t hi hl v) Q) ∧ (¬ ((hi (rx_ct j2) 5) = (3 : Int32)) → (∃ j4 : Nat, x1 = nI j4 ∧ j4 < 6 ∧ (((hi (rx_ct j4) 7) ≤ 0 → rx_aw 107 2 [.ref 13, .int (x1 + (1 : Int32))] [] (rx_hp L t hi hl v) Q) ∧ (¬ ((hi (rx_ct j4) 7) ≤ 0) → Q (some (.int (1 : Int32))) (rx_hp L t hi hl v)))))))))) : rx_aw 107 2 [.ref 13, .int x1] [] (rx_hp L t hi hl v) Q := by
  refine rx_aw_s 4 (pc := 2) rfl ?_
  refine rx_w_if (c := (hi 13 3) ≤ x1) ⟨fun c1 => ?_, fun c1 => ?_⟩
  · have k := k.1 c1
    show rx_aw 107 43 [.ref 13, .int x1] [] (rx_hp L t hi hl v) Q
    refine rx_aw_s 1 (pc := 43) rfl ?_
    show rx_aw 107 44 [.ref 13, .int x1] [.int (0 : Int32)] (rx_hp L t hi hl v) Q
    exact rx_aw_ret (pc := 44) rfl k
  · have k := k.2 c1
    show rx_aw 107 10 [.ref 13, .int x1] [] (rx_hp L t hi hl v) Q
    refine rx_aw_s 3 (pc := 10) rfl ?_
    show rx_aw 107 15 [.ref 13, .int x1] [.int x1, .ref 14] (rx_hp L t hi hl v) Q
    obtain ⟨j2, ej2, hj2, k⟩ := k
    refine rx_w_carts (pc := 15) rfl ⟨j2, ej2, hj2, ?_⟩
    show rx_aw 107 16 [.ref 13, .int x1] [.ref (rx_ct j2)] (rx_hp L t hi hl v) Q
    refine rx_w_cg hj2 (pc := 16) rfl (by decide) (by decide) ?_
    show rx_aw 107 19 [.ref 13, .int x1] [.int (hi (rx_ct j2) 5)] (rx_hp L t hi hl v) Q
    refine rx_aw_s 2 (pc := 19) rfl ?_
    refine rx_w_if (c := (hi (rx_ct j2) 5) = (3 : Int32)) ⟨fun c3 => ?_, fun c3 => ?_⟩
    · have k := k.1 c3
      show rx_aw 107 37 [.ref 13, .int x1] [] (rx_hp L t hi hl v) Q
      refine rx_aw_s 2 (pc := 37) rfl ?_
      show rx_aw 107 2 [.ref 13, .int (x1 + (1 : Int32))] [] (rx_hp L t hi hl v) Q
      exact k
    · have k := k.2 c3
      show rx_aw 107 23 [.ref 13, .int x1] [] (rx_hp L t hi hl v) Q
      refine rx_aw_s 3 (pc := 23) rfl ?_
      show rx_aw 107 28 [.ref 13, .int x1] [.int x1, .ref 14] (rx_hp L t hi hl v) Q
      obtain ⟨j4, ej4, hj4, k⟩ := k
      refine rx_w_carts (pc := 28) rfl ⟨j4, ej4, hj4, ?_⟩
      show rx_aw 107 29 [.ref 13, .int x1] [.ref (rx_ct j4)] (rx_hp L t hi hl v) Q
      refine rx_w_cg hj4 (pc := 29) rfl (by decide) (by decide) ?_
      show rx_aw 107 32 [.ref 13, .int x1] [.int (hi (rx_ct j4) 7)] (rx_hp L t hi hl v) Q
      refine rx_aw_s 1 (pc := 32) rfl ?_
      refine rx_w_if (c := (hi (rx_ct j4) 7) ≤ 0) ⟨fun c5 => ?_, fun c5 => ?_⟩
      · have k := k.1 c5
        show rx_aw 107 37 [.ref 13, .int x1] [] (rx_hp L t hi hl v) Q
        refine rx_aw_s 2 (pc := 37) rfl ?_
        show rx_aw 107 2 [.ref 13, .int (x1 + (1 : Int32))] [] (rx_hp L t hi hl v) Q
        exact k
      · have k := k.2 c5
        show rx_aw 107 35 [.ref 13, .int x1] [] (rx_hp L t hi hl v) Q
        refine rx_aw_s 1 (pc := 35) rfl ?_
        show rx_aw 107 36 [.ref 13, .int x1] [.int (1 : Int32)] (rx_hp L t hi hl v) Q
        exact rx_aw_ret (pc := 36) rfl k
set_option maxRecDepth 100000 in
/-- CartFloor.shelved(II)I -/
theorem w109_shelved {L : Nat} {t : List (Nat × Nat)} {hi : Nat → Nat → Int32} {hl : Nat → Nat → Int64} {v : Nat → Nat → Option Nat} {Q : Option Value → rx_H → Prop} {a0 : Int32} {a1 : Int32} (k : ((a0 < 0 → Q (some (.int (-2 : Int32))) (rx_hp L t hi hl v)) ∧ (¬ (a0 < 0) → (((hi 13 4) ≤ a0 → Q (some (.int (-2 : Int32))) (rx_hp L t hi hl v)) ∧ (¬ ((hi 13 4) ≤ a0) → ((0 ≤ a1 → rx_me 38 [.ref 13, .int a0, .int a1] (rx_hp L t hi hl v) (fun r h2 => ∃ z4 : Int32, r = some (.int z4) ∧ rx_ok2 L t h2 (fun hi4 hl4 v4 => Q (some (.int z4)) (rx_hp L t hi4 hl4 v4)))) ∧ (¬ (0 ≤ a1) → Q (some (.int (-2 : Int32))) (rx_hp L t hi hl v)))))))) : rx_me 109 [.ref 1, .int a0, .int a1] (rx_hp L t hi hl v) Q := by
  show rx_aw 109 0 [.ref 1, .int a0, .int a1] [] (rx_hp L t hi hl v) Q
  refine rx_aw_s 2 (pc := 0) rfl ?_
  refine rx_w_if (c := a0 < 0) ⟨fun c1 => ?_, fun c1 => ?_⟩
  · have k := k.1 c1
    show rx_aw 109 19 [.ref 1, .int a0, .int a1] [] (rx_hp L t hi hl v) Q
    refine rx_aw_s 1 (pc := 19) rfl ?_
    show rx_aw 109 21 [.ref 1, .int a0, .int a1] [.int (-2 : Int32)] (rx_hp L t hi hl v) Q
    exact rx_aw_ret (pc := 21) rfl k
  · have k := k.2 c1
    show rx_aw 109 4 [.ref 1, .int a0, .int a1] [] (rx_hp L t hi hl v) Q
    refine rx_aw_s 5 (pc := 4) rfl ?_
    refine rx_w_if (c := (hi 13 4) ≤ a0) ⟨fun c2 => ?_, fun c2 => ?_⟩
    · have k := k.1 c2
      show rx_aw 109 19 [.ref 1, .int a0, .int a1] [] (rx_hp L t hi hl v) Q
      refine rx_aw_s 1 (pc := 19) rfl ?_
      show rx_aw 109 21 [.ref 1, .int a0, .int a1] [.int (-2 : Int32)] (rx_hp L t hi hl v) Q
      exact rx_aw_ret (pc := 21) rfl k
    · have k := k.2 c2
      show rx_aw 109 15 [.ref 1, .int a0, .int a1] [] (rx_hp L t hi hl v) Q
      refine rx_aw_s 2 (pc := 15) rfl ?_
      refine rx_w_if (c := 0 ≤ a1) ⟨fun c3 => ?_, fun c3 => ?_⟩
      · have k := k.1 c3
        show rx_aw 109 22 [.ref 1, .int a0, .int a1] [] (rx_hp L t hi hl v) Q
        refine rx_aw_s 4 (pc := 22) rfl ?_
        show rx_aw 109 28 [.ref 1, .int a0, .int a1] [.int a1, .int a0, .ref 13] (rx_hp L t hi hl v) Q
        refine rx_w_callI (j := 38) (pc := 28) rfl rfl rfl rfl rfl ?_
        refine rx_aw.mono k (fun r h2 k => ?_)
        obtain ⟨z4, rfl, hi4, hl4, v4, rfl, k⟩ := k
        refine ⟨z4, rfl, ?_⟩
        show rx_aw 109 31 [.ref 1, .int a0, .int a1] [.int z4] (rx_hp L t hi4 hl4 v4) Q
        exact rx_aw_ret (pc := 31) rfl k
      · have k := k.2 c3
        show rx_aw 109 19 [.ref 1, .int a0, .int a1] [] (rx_hp L t hi hl v) Q
        refine rx_aw_s 1 (pc := 19) rfl ?_
        show rx_aw 109 21 [.ref 1, .int a0, .int a1] [.int (-2 : Int32)] (rx_hp L t hi hl v) Q
        exact rx_aw_ret (pc := 21) rfl k
set_option maxRecDepth 100000 in
/-- CartFloor$Cart.turns()I -/
theorem w111_turns {L : Nat} {t : List (Nat × Nat)} {hi : Nat → Nat → Int32} {hl : Nat → Nat → Int64} {v : Nat → Nat → Option Nat} {Q : Option Value → rx_H → Prop} {c : Nat} (hc : c < 6) (k : rx_aw 111 4 [.ref (rx_ct c), .int (0 : Int32), .int (0 : Int32)] [] (rx_hp L t hi hl v) Q) : rx_me 111 [.ref (rx_ct c)] (rx_hp L t hi hl v) Q := by
  show rx_aw 111 0 [.ref (rx_ct c), rx_no, rx_no] [] (rx_hp L t hi hl v) Q
  refine rx_aw_s 4 (pc := 0) rfl ?_
  show rx_aw 111 4 [.ref (rx_ct c), .int (0 : Int32), .int (0 : Int32)] [] (rx_hp L t hi hl v) Q
  exact k
set_option maxRecDepth 100000 in
theorem w111_turns_4 {L : Nat} {t : List (Nat × Nat)} {hi : Nat → Nat → Int32} {hl : Nat → Nat → Int64} {v : Nat → Nat → Option Nat} {Q : Option Value → rx_H → Prop} {c : Nat} (hc : c < 6) {x1 : Int32} {x2 : Int32} (k : (((hi (rx_ct c) 7) ≤ x2 → Q (some (.int x1)) (rx_hp L t hi hl v)) ∧ (¬ ((hi (rx_ct c) 7) ≤ x2) → (∃ j2 : Nat, x2 = nI j2 ∧ j2 < 402 ∧ rx_me 16 [.int (hi (rx_ct c + 3) j2)] (rx_hp L t hi hl v) (fun r h2 => ∃ z3 : Int32, r = some (.int z3) ∧ rx_ok2 L t h2 (fun hi3 hl3 v3 => (∃ j4 : Nat, x2 = nI j4 ∧ j4 < 400 ∧ rx_me 81 [.int (hi (rx_ct c) 5), .int z3, .int (hi3 (rx_ct c + 1) j4)] (rx_hp L t hi3 hl3 v3) (fun r h2 => ∃ z5 : Int32, r = some (.int z5) ∧ rx_ok2 L t h2 (fun hi5 hl5 v5 => ((z5 = 0 → rx_aw 111 4 [.ref (rx_ct c), .int x1, .int (x2 + (1 : Int32))] [] (rx_hp L t hi5 hl5 v5) Q) ∧ (¬ (z5 = 0) → rx_aw 111 4 [.ref (rx_ct c), .int (x1 + (1 : Int32)), .int (x2 + (1 : Int32))] [] (rx_hp L t hi5 hl5 v5) Q))))))))))) : rx_aw 111 4 [.ref (rx_ct c), .int x1, .int x2] [] (rx_hp L t hi hl v) Q := by
  refine rx_aw_s 2 (pc := 4) rfl ?_
  show rx_aw 111 6 [.ref (rx_ct c), .int x1, .int x2] [.ref (rx_ct c), .int x2] (rx_hp L t hi hl v) Q
  refine rx_w_cg hc (pc := 6) rfl (by decide) (by decide) ?_
  show rx_aw 111 9 [.ref (rx_ct c), .int x1, .int x2] [.int (hi (rx_ct c) 7), .int x2] (rx_hp L t hi hl v) Q
  refine rx_aw_s 1 (pc := 9) rfl ?_
  refine rx_w_if (c := (hi (rx_ct c) 7) ≤ x2) ⟨fun c1 => ?_, fun c1 => ?_⟩
  · have k := k.1 c1
    show rx_aw 111 46 [.ref (rx_ct c), .int x1, .int x2] [] (rx_hp L t hi hl v) Q
    refine rx_aw_s 1 (pc := 46) rfl ?_
    show rx_aw 111 47 [.ref (rx_ct c), .int x1, .int x2] [.int x1] (rx_hp L t hi hl v) Q
    exact rx_aw_ret (pc := 47) rfl k
  · have k := k.2 c1
    show rx_aw 111 12 [.ref (rx_ct c), .int x1, .int x2] [] (rx_hp L t hi hl v) Q
    refine rx_aw_s 1 (pc := 12) rfl ?_
    show rx_aw 111 13 [.ref (rx_ct c), .int x1, .int x2] [.ref (rx_ct c)] (rx_hp L t hi hl v) Q
    refine rx_w_cg hc (pc := 13) rfl (by decide) (by decide) ?_
    show rx_aw 111 16 [.ref (rx_ct c), .int x1, .int x2] [.int (hi (rx_ct c) 5)] (rx_hp L t hi hl v) Q
    refine rx_aw_s 1 (pc := 16) rfl ?_
    show rx_aw 111 17 [.ref (rx_ct c), .int x1, .int x2] [.ref (rx_ct c), .int (hi (rx_ct c) 5)] (rx_hp L t hi hl v) Q
    refine rx_w_cr hc (pc := 17) rfl (by decide) ?_
    show rx_aw 111 20 [.ref (rx_ct c), .int x1, .int x2] [.ref (rx_ct c + 3), .int (hi (rx_ct c) 5)] (rx_hp L t hi hl v) Q
    refine rx_aw_s 1 (pc := 20) rfl ?_
    show rx_aw 111 21 [.ref (rx_ct c), .int x1, .int x2] [.int x2, .ref (rx_ct c + 3), .int (hi (rx_ct c) 5)] (rx_hp L t hi hl v) Q
    obtain ⟨j2, ej2, hj2, k⟩ := k
    refine rx_aw_iald (pc := 21) (n := 402) j2 ej2 rfl (rx_ck (rx_cart_s hc).2.2.2.1) (rx_cle (rx_cart_s hc).2.2.2.1) hj2 (by decide) ?_
    show rx_aw 111 22 [.ref (rx_ct c), .int x1, .int x2] [.int (hi (rx_ct c + 3) j2), .int (hi (rx_ct c) 5)] (rx_hp L t hi hl v) Q
    refine rx_w_callI (j := 16) (pc := 22) rfl rfl rfl rfl rfl ?_
    refine rx_aw.mono k (fun r h2 k => ?_)
    obtain ⟨z3, rfl, hi3, hl3, v3, rfl, k⟩ := k
    refine ⟨z3, rfl, ?_⟩
    show rx_aw 111 25 [.ref (rx_ct c), .int x1, .int x2] [.int z3, .int (hi (rx_ct c) 5)] (rx_hp L t hi3 hl3 v3) Q
    refine rx_aw_s 1 (pc := 25) rfl ?_
    show rx_aw 111 26 [.ref (rx_ct c), .int x1, .int x2] [.ref (rx_ct c), .int z3, .int (hi (rx_ct c) 5)] (rx_hp L t hi3 hl3 v3) Q
    refine rx_w_cr hc (pc := 26) rfl (by decide) ?_
    show rx_aw 111 29 [.ref (rx_ct c), .int x1, .int x2] [.ref (rx_ct c + 1), .int z3, .int (hi (rx_ct c) 5)] (rx_hp L t hi3 hl3 v3) Q
    refine rx_aw_s 1 (pc := 29) rfl ?_
    show rx_aw 111 30 [.ref (rx_ct c), .int x1, .int x2] [.int x2, .ref (rx_ct c + 1), .int z3, .int (hi (rx_ct c) 5)] (rx_hp L t hi3 hl3 v3) Q
    obtain ⟨j4, ej4, hj4, k⟩ := k
    refine rx_aw_bald (pc := 30) (n := 400) j4 ej4 rfl (Or.inl (rx_ck (rx_cart_s hc).2.1)) (Nat.lt_of_lt_of_le (rx_ct_pos _) (Nat.le_add_right _ _)) (rx_cle (rx_cart_s hc).2.1) hj4 (by decide) ?_
    show rx_aw 111 31 [.ref (rx_ct c), .int x1, .int x2] [.int (hi3 (rx_ct c + 1) j4), .int z3, .int (hi (rx_ct c) 5)] (rx_hp L t hi3 hl3 v3) Q
    refine rx_w_callI (j := 81) (pc := 31) rfl rfl rfl rfl rfl ?_
    refine rx_aw.mono k (fun r h2 k => ?_)
    obtain ⟨z5, rfl, hi5, hl5, v5, rfl, k⟩ := k
    refine ⟨z5, rfl, ?_⟩
    show rx_aw 111 34 [.ref (rx_ct c), .int x1, .int x2] [.int z5] (rx_hp L t hi5 hl5 v5) Q
    refine rx_aw_s 1 (pc := 34) rfl ?_
    refine rx_w_if (c := z5 = 0) ⟨fun c6 => ?_, fun c6 => ?_⟩
    · have k := k.1 c6
      show rx_aw 111 40 [.ref (rx_ct c), .int x1, .int x2] [] (rx_hp L t hi5 hl5 v5) Q
      refine rx_aw_s 2 (pc := 40) rfl ?_
      show rx_aw 111 4 [.ref (rx_ct c), .int x1, .int (x2 + (1 : Int32))] [] (rx_hp L t hi5 hl5 v5) Q
      exact k
    · have k := k.2 c6
      show rx_aw 111 37 [.ref (rx_ct c), .int x1, .int x2] [] (rx_hp L t hi5 hl5 v5) Q
      refine rx_aw_s 3 (pc := 37) rfl ?_
      show rx_aw 111 4 [.ref (rx_ct c), .int (x1 + (1 : Int32)), .int (x2 + (1 : Int32))] [] (rx_hp L t hi5 hl5 v5) Q
      exact k
set_option maxRecDepth 100000 in
/-- CartFloor$Traffic.errands()I -/
theorem w113_errands {L : Nat} {t : List (Nat × Nat)} {hi : Nat → Nat → Int32} {hl : Nat → Nat → Int64} {v : Nat → Nat → Option Nat} {Q : Option Value → rx_H → Prop}  (k : rx_aw 113 4 [.ref 13, .int (0 : Int32), .int (0 : Int32)] [] (rx_hp L t hi hl v) Q) : rx_me 113 [.ref 13] (rx_hp L t hi hl v) Q := by
  show rx_aw 113 0 [.ref 13, rx_no, rx_no] [] (rx_hp L t hi hl v) Q
  refine rx_aw_s 4 (pc := 0) rfl ?_
  show rx_aw 113 4 [.ref 13, .int (0 : Int32), .int (0 : Int32)] [] (rx_hp L t hi hl v) Q
  exact k
set_option maxRecDepth 100000 in
theorem w113_errands_4 {L : Nat} {t : List (Nat × Nat)} {hi : Nat → Nat → Int32} {hl : Nat → Nat → Int64} {v : Nat → Nat → Option Nat} {Q : Option Value → rx_H → Prop} {x1 : Int32} {x2 : Int32} (k : (((hi 13 3) ≤ x2 → Q (some (.int x1)) (rx_hp L t hi hl v)) ∧ (¬ ((hi 13 3) ≤ x2) → (∃ j2 : Nat, x2 = nI j2 ∧ j2 < 6 ∧ (((hi (rx_ct j2) 8) < 0 → rx_aw 113 4 [.ref 13, .int (x1 + (0 : Int32)), .int (x2 + (1 : Int32))] [] (rx_hp L t hi hl v) Q) ∧ (¬ ((hi (rx_ct j2) 8) < 0) → rx_aw 113 4 [.ref 13, .int (x1 + (1 : Int32)), .int (x2 + (1 : Int32))] [] (rx_hp L t hi hl v) Q)))))) : rx_aw 113 4 [.ref 13, .int x1, .int x2] [] (rx_hp L t hi hl v) Q := by
  refine rx_aw_s 4 (pc := 4) rfl ?_
  refine rx_w_if (c := (hi 13 3) ≤ x2) ⟨fun c1 => ?_, fun c1 => ?_⟩
  · have k := k.1 c1
    show rx_aw 113 38 [.ref 13, .int x1, .int x2] [] (rx_hp L t hi hl v) Q
    refine rx_aw_s 1 (pc := 38) rfl ?_
    show rx_aw 113 39 [.ref 13, .int x1, .int x2] [.int x1] (rx_hp L t hi hl v) Q
    exact rx_aw_ret (pc := 39) rfl k
  · have k := k.2 c1
    show rx_aw 113 12 [.ref 13, .int x1, .int x2] [] (rx_hp L t hi hl v) Q
    refine rx_aw_s 4 (pc := 12) rfl ?_
    show rx_aw 113 18 [.ref 13, .int x1, .int x2] [.int x2, .ref 14, .int x1] (rx_hp L t hi hl v) Q
    obtain ⟨j2, ej2, hj2, k⟩ := k
    refine rx_w_carts (pc := 18) rfl ⟨j2, ej2, hj2, ?_⟩
    show rx_aw 113 19 [.ref 13, .int x1, .int x2] [.ref (rx_ct j2), .int x1] (rx_hp L t hi hl v) Q
    refine rx_w_cg hj2 (pc := 19) rfl (by decide) (by decide) ?_
    show rx_aw 113 22 [.ref 13, .int x1, .int x2] [.int (hi (rx_ct j2) 8), .int x1] (rx_hp L t hi hl v) Q
    refine rx_aw_s 1 (pc := 22) rfl ?_
    refine rx_w_if (c := (hi (rx_ct j2) 8) < 0) ⟨fun c3 => ?_, fun c3 => ?_⟩
    · have k := k.1 c3
      show rx_aw 113 29 [.ref 13, .int x1, .int x2] [.int x1] (rx_hp L t hi hl v) Q
      refine rx_aw_s 5 (pc := 29) rfl ?_
      show rx_aw 113 4 [.ref 13, .int (x1 + (0 : Int32)), .int (x2 + (1 : Int32))] [] (rx_hp L t hi hl v) Q
      exact k
    · have k := k.2 c3
      show rx_aw 113 25 [.ref 13, .int x1, .int x2] [.int x1] (rx_hp L t hi hl v) Q
      refine rx_aw_s 6 (pc := 25) rfl ?_
      show rx_aw 113 4 [.ref 13, .int (x1 + (1 : Int32)), .int (x2 + (1 : Int32))] [] (rx_hp L t hi hl v) Q
      exact k
set_option maxRecDepth 100000 in
/-- CartFloor$Traffic.openCarts()I -/
theorem w114_openCarts {L : Nat} {t : List (Nat × Nat)} {hi : Nat → Nat → Int32} {hl : Nat → Nat → Int64} {v : Nat → Nat → Option Nat} {Q : Option Value → rx_H → Prop}  (k : rx_aw 114 4 [.ref 13, .int (0 : Int32), .int (0 : Int32)] [] (rx_hp L t hi hl v) Q) : rx_me 114 [.ref 13] (rx_hp L t hi hl v) Q := by
  show rx_aw 114 0 [.ref 13, rx_no, rx_no] [] (rx_hp L t hi hl v) Q
  refine rx_aw_s 4 (pc := 0) rfl ?_
  show rx_aw 114 4 [.ref 13, .int (0 : Int32), .int (0 : Int32)] [] (rx_hp L t hi hl v) Q
  exact k
set_option maxRecDepth 100000 in
theorem w114_openCarts_4 {L : Nat} {t : List (Nat × Nat)} {hi : Nat → Nat → Int32} {hl : Nat → Nat → Int64} {v : Nat → Nat → Option Nat} {Q : Option Value → rx_H → Prop} {x1 : Int32} {x2 : Int32} (k : (((hi 13 3) ≤ x2 → Q (some (.int x1)) (rx_hp L t hi hl v)) ∧ (¬ ((hi 13 3) ≤ x2) → (∃ j2 : Nat, x2 = nI j2 ∧ j2 < 6 ∧ rx_me 62 [.ref (rx_ct j2)] (rx_hp L t hi hl v) (fun r h2 => ∃ z3 : Int32, r = some (.int z3) ∧ rx_ok2 L t h2 (fun hi3 hl3 v3 => ((z3 = 0 → rx_aw 114 4 [.ref 13, .int (x1 + (0 : Int32)), .int (x2 + (1 : Int32))] [] (rx_hp L t hi3 hl3 v3) Q) ∧ (¬ (z3 = 0) → rx_aw 114 4 [.ref 13, .int (x1 + (1 : Int32)), .int (x2 + (1 : Int32))] [] (rx_hp L t hi3 hl3 v3) Q)))))))) : rx_aw 114 4 [.ref 13, .int x1, .int x2] [] (rx_hp L t hi hl v) Q := by
  refine rx_aw_s 4 (pc := 4) rfl ?_
  refine rx_w_if (c := (hi 13 3) ≤ x2) ⟨fun c1 => ?_, fun c1 => ?_⟩
  · have k := k.1 c1
    show rx_aw 114 38 [.ref 13, .int x1, .int x2] [] (rx_hp L t hi hl v) Q
    refine rx_aw_s 1 (pc := 38) rfl ?_
    show rx_aw 114 39 [.ref 13, .int x1, .int x2] [.int x1] (rx_hp L t hi hl v) Q
    exact rx_aw_ret (pc := 39) rfl k
  · have k := k.2 c1
    show rx_aw 114 12 [.ref 13, .int x1, .int x2] [] (rx_hp L t hi hl v) Q
    refine rx_aw_s 4 (pc := 12) rfl ?_
    show rx_aw 114 18 [.ref 13, .int x1, .int x2] [.int x2, .ref 14, .int x1] (rx_hp L t hi hl v) Q
    obtain ⟨j2, ej2, hj2, k⟩ := k
    refine rx_w_carts (pc := 18) rfl ⟨j2, ej2, hj2, ?_⟩
    show rx_aw 114 19 [.ref 13, .int x1, .int x2] [.ref (rx_ct j2), .int x1] (rx_hp L t hi hl v) Q
    refine rx_w_callI (j := 62) (pc := 19) rfl rfl rfl rfl (rx_mayc rfl rfl rfl rfl (rx_ck (rx_cart_s hj2).1) (rx_ct_pos _)) ?_
    refine rx_aw.mono k (fun r h2 k => ?_)
    obtain ⟨z3, rfl, hi3, hl3, v3, rfl, k⟩ := k
    refine ⟨z3, rfl, ?_⟩
    show rx_aw 114 22 [.ref 13, .int x1, .int x2] [.int z3, .int x1] (rx_hp L t hi3 hl3 v3) Q
    refine rx_aw_s 1 (pc := 22) rfl ?_
    refine rx_w_if (c := z3 = 0) ⟨fun c4 => ?_, fun c4 => ?_⟩
    · have k := k.1 c4
      show rx_aw 114 29 [.ref 13, .int x1, .int x2] [.int x1] (rx_hp L t hi3 hl3 v3) Q
      refine rx_aw_s 5 (pc := 29) rfl ?_
      show rx_aw 114 4 [.ref 13, .int (x1 + (0 : Int32)), .int (x2 + (1 : Int32))] [] (rx_hp L t hi3 hl3 v3) Q
      exact k
    · have k := k.2 c4
      show rx_aw 114 25 [.ref 13, .int x1, .int x2] [.int x1] (rx_hp L t hi3 hl3 v3) Q
      refine rx_aw_s 6 (pc := 25) rfl ?_
      show rx_aw 114 4 [.ref 13, .int (x1 + (1 : Int32)), .int (x2 + (1 : Int32))] [] (rx_hp L t hi3 hl3 v3) Q
      exact k
set_option maxRecDepth 100000 in
/-- CartFloor$Traffic.fated(I)I -/
theorem w115_fated {L : Nat} {t : List (Nat × Nat)} {hi : Nat → Nat → Int32} {hl : Nat → Nat → Int64} {v : Nat → Nat → Option Nat} {Q : Option Value → rx_H → Prop} {a0 : Int32} (k : rx_aw 115 4 [.ref 13, .int a0, .int (0 : Int32), .int (0 : Int32)] [] (rx_hp L t hi hl v) Q) : rx_me 115 [.ref 13, .int a0] (rx_hp L t hi hl v) Q := by
  show rx_aw 115 0 [.ref 13, .int a0, rx_no, rx_no] [] (rx_hp L t hi hl v) Q
  refine rx_aw_s 4 (pc := 0) rfl ?_
  show rx_aw 115 4 [.ref 13, .int a0, .int (0 : Int32), .int (0 : Int32)] [] (rx_hp L t hi hl v) Q
  exact k
set_option maxRecDepth 100000 in
theorem w115_fated_4 {L : Nat} {t : List (Nat × Nat)} {hi : Nat → Nat → Int32} {hl : Nat → Nat → Int64} {v : Nat → Nat → Option Nat} {Q : Option Value → rx_H → Prop} {x1 : Int32} {x2 : Int32} {x3 : Int32} (k : (((hi 13 3) ≤ x3 → Q (some (.int x2)) (rx_hp L t hi hl v)) ∧ (¬ ((hi 13 3) ≤ x3) → (∃ j2 : Nat, x3 = nI j2 ∧ j2 < 6 ∧ (((hi (rx_ct j2) 10) = x1 → rx_aw 115 4 [.ref 13, .int x1, .int (x2 + (1 : Int32)), .int (x3 + (1 : Int32))] [] (rx_hp L t hi hl v) Q) ∧ (¬ ((hi (rx_ct j2) 10) = x1) → rx_aw 115 4 [.ref 13, .int x1, .int (x2 + (0 : Int32)), .int (x3 + (1 : Int32))] [] (rx_hp L t hi hl v) Q)))))) : rx_aw 115 4 [.ref 13, .int x1, .int x2, .int x3] [] (rx_hp L t hi hl v) Q := by
  refine rx_aw_s 4 (pc := 4) rfl ?_
  refine rx_w_if (c := (hi 13 3) ≤ x3) ⟨fun c1 => ?_, fun c1 => ?_⟩
  · have k := k.1 c1
    show rx_aw 115 39 [.ref 13, .int x1, .int x2, .int x3] [] (rx_hp L t hi hl v) Q
    refine rx_aw_s 1 (pc := 39) rfl ?_
    show rx_aw 115 40 [.ref 13, .int x1, .int x2, .int x3] [.int x2] (rx_hp L t hi hl v) Q
    exact rx_aw_ret (pc := 40) rfl k
  · have k := k.2 c1
    show rx_aw 115 12 [.ref 13, .int x1, .int x2, .int x3] [] (rx_hp L t hi hl v) Q
    refine rx_aw_s 4 (pc := 12) rfl ?_
    show rx_aw 115 18 [.ref 13, .int x1, .int x2, .int x3] [.int x3, .ref 14, .int x2] (rx_hp L t hi hl v) Q
    obtain ⟨j2, ej2, hj2, k⟩ := k
    refine rx_w_carts (pc := 18) rfl ⟨j2, ej2, hj2, ?_⟩
    show rx_aw 115 19 [.ref 13, .int x1, .int x2, .int x3] [.ref (rx_ct j2), .int x2] (rx_hp L t hi hl v) Q
    refine rx_w_cg hj2 (pc := 19) rfl (by decide) (by decide) ?_
    show rx_aw 115 22 [.ref 13, .int x1, .int x2, .int x3] [.int (hi (rx_ct j2) 10), .int x2] (rx_hp L t hi hl v) Q
    refine rx_aw_s 2 (pc := 22) rfl ?_
    refine rx_w_ifn (c := (hi (rx_ct j2) 10) = x1) ⟨fun c3 => ?_, fun c3 => ?_⟩
    · have k := k.1 c3
      show rx_aw 115 26 [.ref 13, .int x1, .int x2, .int x3] [.int x2] (rx_hp L t hi hl v) Q
      refine rx_aw_s 6 (pc := 26) rfl ?_
      show rx_aw 115 4 [.ref 13, .int x1, .int (x2 + (1 : Int32)), .int (x3 + (1 : Int32))] [] (rx_hp L t hi hl v) Q
      exact k
    · have k := k.2 c3
      show rx_aw 115 30 [.ref 13, .int x1, .int x2, .int x3] [.int x2] (rx_hp L t hi hl v) Q
      refine rx_aw_s 5 (pc := 30) rfl ?_
      show rx_aw 115 4 [.ref 13, .int x1, .int (x2 + (0 : Int32)), .int (x3 + (1 : Int32))] [] (rx_hp L t hi hl v) Q
      exact k
set_option maxRecDepth 100000 in
/-- CartFloor$Traffic.sumOfEnds()I -/
theorem w116_sumOfEnds {L : Nat} {t : List (Nat × Nat)} {hi : Nat → Nat → Int32} {hl : Nat → Nat → Int64} {v : Nat → Nat → Option Nat} {Q : Option Value → rx_H → Prop}  (k : rx_aw 116 4 [.ref 13, .int (0 : Int32), .int (0 : Int32)] [] (rx_hp L t hi hl v) Q) : rx_me 116 [.ref 13] (rx_hp L t hi hl v) Q := by
  show rx_aw 116 0 [.ref 13, rx_no, rx_no] [] (rx_hp L t hi hl v) Q
  refine rx_aw_s 4 (pc := 0) rfl ?_
  show rx_aw 116 4 [.ref 13, .int (0 : Int32), .int (0 : Int32)] [] (rx_hp L t hi hl v) Q
  exact k
set_option maxRecDepth 100000 in
theorem w116_sumOfEnds_4 {L : Nat} {t : List (Nat × Nat)} {hi : Nat → Nat → Int32} {hl : Nat → Nat → Int64} {v : Nat → Nat → Option Nat} {Q : Option Value → rx_H → Prop} {x1 : Int32} {x2 : Int32} (k : (((hi 13 3) ≤ x2 → Q (some (.int x1)) (rx_hp L t hi hl v)) ∧ (¬ ((hi 13 3) ≤ x2) → (∃ j2 : Nat, x2 = nI j2 ∧ j2 < 6 ∧ rx_aw 116 4 [.ref 13, .int (x1 + (hi (rx_ct j2) 7)), .int (x2 + (1 : Int32))] [] (rx_hp L t hi hl v) Q)))) : rx_aw 116 4 [.ref 13, .int x1, .int x2] [] (rx_hp L t hi hl v) Q := by
  refine rx_aw_s 4 (pc := 4) rfl ?_
  refine rx_w_if (c := (hi 13 3) ≤ x2) ⟨fun c1 => ?_, fun c1 => ?_⟩
  · have k := k.1 c1
    show rx_aw 116 30 [.ref 13, .int x1, .int x2] [] (rx_hp L t hi hl v) Q
    refine rx_aw_s 1 (pc := 30) rfl ?_
    show rx_aw 116 31 [.ref 13, .int x1, .int x2] [.int x1] (rx_hp L t hi hl v) Q
    exact rx_aw_ret (pc := 31) rfl k
  · have k := k.2 c1
    show rx_aw 116 12 [.ref 13, .int x1, .int x2] [] (rx_hp L t hi hl v) Q
    refine rx_aw_s 4 (pc := 12) rfl ?_
    show rx_aw 116 18 [.ref 13, .int x1, .int x2] [.int x2, .ref 14, .int x1] (rx_hp L t hi hl v) Q
    obtain ⟨j2, ej2, hj2, k⟩ := k
    refine rx_w_carts (pc := 18) rfl ⟨j2, ej2, hj2, ?_⟩
    show rx_aw 116 19 [.ref 13, .int x1, .int x2] [.ref (rx_ct j2), .int x1] (rx_hp L t hi hl v) Q
    refine rx_w_cg hj2 (pc := 19) rfl (by decide) (by decide) ?_
    show rx_aw 116 22 [.ref 13, .int x1, .int x2] [.int (hi (rx_ct j2) 7), .int x1] (rx_hp L t hi hl v) Q
    refine rx_aw_s 4 (pc := 22) rfl ?_
    show rx_aw 116 4 [.ref 13, .int (x1 + (hi (rx_ct j2) 7)), .int (x2 + (1 : Int32))] [] (rx_hp L t hi hl v) Q
    exact k
set_option maxRecDepth 100000 in
/-- CartFloor.digest()J -/
theorem w117_digest {L : Nat} {t : List (Nat × Nat)} {hi : Nat → Nat → Int32} {hl : Nat → Nat → Int64} {v : Nat → Nat → Option Nat} {Q : Option Value → rx_H → Prop}  (k : rx_aw 117 4 [.ref 1, .long (0 : Int64), rx_no, .int (0 : Int32), rx_no, rx_no] [] (rx_hp L t hi hl v) Q) : rx_me 117 [.ref 1] (rx_hp L t hi hl v) Q := by
  show rx_aw 117 0 [.ref 1, rx_no, rx_no, rx_no, rx_no, rx_no] [] (rx_hp L t hi hl v) Q
  refine rx_aw_s 4 (pc := 0) rfl ?_
  show rx_aw 117 4 [.ref 1, .long (0 : Int64), rx_no, .int (0 : Int32), rx_no, rx_no] [] (rx_hp L t hi hl v) Q
  exact k
set_option maxRecDepth 100000 in
theorem w117_digest_4 {L : Nat} {t : List (Nat × Nat)} {hi : Nat → Nat → Int32} {hl : Nat → Nat → Int64} {v : Nat → Nat → Option Nat} {Q : Option Value → rx_H → Prop} {x1 : Int64} {x3 : Int32} (k : (((hi 13 3) ≤ x3 → Q (some (.long x1)) (rx_hp L t hi hl v)) ∧ (¬ ((hi 13 3) ≤ x3) → (∃ j2 : Nat, x3 = nI j2 ∧ j2 < 6 ∧ rx_aw 117 29 [.ref 1, .long x1, rx_no, .int x3, .ref (rx_ct j2), .int (0 : Int32)] [] (rx_hp L t hi hl v) Q)))) : rx_aw 117 4 [.ref 1, .long x1, rx_no, .int x3, rx_no, rx_no] [] (rx_hp L t hi hl v) Q := by
  refine rx_aw_s 5 (pc := 4) rfl ?_
  refine rx_w_if (c := (hi 13 3) ≤ x3) ⟨fun c1 => ?_, fun c1 => ?_⟩
  · have k := k.1 c1
    show rx_aw 117 69 [.ref 1, .long x1, rx_no, .int x3, rx_no, rx_no] [] (rx_hp L t hi hl v) Q
    refine rx_aw_s 1 (pc := 69) rfl ?_
    show rx_aw 117 70 [.ref 1, .long x1, rx_no, .int x3, rx_no, rx_no] [.long x1] (rx_hp L t hi hl v) Q
    exact rx_aw_ret (pc := 70) rfl k
  · have k := k.2 c1
    show rx_aw 117 15 [.ref 1, .long x1, rx_no, .int x3, rx_no, rx_no] [] (rx_hp L t hi hl v) Q
    refine rx_aw_s 4 (pc := 15) rfl ?_
    show rx_aw 117 23 [.ref 1, .long x1, rx_no, .int x3, rx_no, rx_no] [.int x3, .ref 14] (rx_hp L t hi hl v) Q
    obtain ⟨j2, ej2, hj2, k⟩ := k
    refine rx_w_carts (pc := 23) rfl ⟨j2, ej2, hj2, ?_⟩
    show rx_aw 117 24 [.ref 1, .long x1, rx_no, .int x3, rx_no, rx_no] [.ref (rx_ct j2)] (rx_hp L t hi hl v) Q
    refine rx_aw_s 3 (pc := 24) rfl ?_
    show rx_aw 117 29 [.ref 1, .long x1, rx_no, .int x3, .ref (rx_ct j2), .int (0 : Int32)] [] (rx_hp L t hi hl v) Q
    exact k
set_option maxRecDepth 100000 in
theorem w117_digest_29 {L : Nat} {t : List (Nat × Nat)} {hi : Nat → Nat → Int32} {hl : Nat → Nat → Int64} {v : Nat → Nat → Option Nat} {Q : Option Value → rx_H → Prop} {x1 : Int64} {x3 : Int32} {j2 : Nat} (hj2 : j2 < 6) {x5 : Int32} (k : (((hi (rx_ct j2) 7) ≤ x5 → rx_aw 117 4 [.ref 1, .long x1, rx_no, .int (x3 + (1 : Int32)), rx_no, rx_no] [] (rx_hp L t hi hl v) Q) ∧ (¬ ((hi (rx_ct j2) 7) ≤ x5) → (∃ j4 : Nat, x5 = nI j4 ∧ j4 < 400 ∧ rx_aw 117 29 [.ref 1, .long (((x1 * (31 : Int64)) + (Int32.toInt64 (hi (rx_ct j2 + 1) j4))) + (1 : Int64)), rx_no, .int x3, .ref (rx_ct j2), .int (x5 + (1 : Int32))] [] (rx_hp L t hi hl v) Q)))) : rx_aw 117 29 [.ref 1, .long x1, rx_no, .int x3, .ref (rx_ct j2), .int x5] [] (rx_hp L t hi hl v) Q := by
  refine rx_aw_s 2 (pc := 29) rfl ?_
  show rx_aw 117 33 [.ref 1, .long x1, rx_no, .int x3, .ref (rx_ct j2), .int x5] [.ref (rx_ct j2), .int x5] (rx_hp L t hi hl v) Q
  refine rx_w_cg hj2 (pc := 33) rfl (by decide) (by decide) ?_
  show rx_aw 117 36 [.ref 1, .long x1, rx_no, .int x3, .ref (rx_ct j2), .int x5] [.int (hi (rx_ct j2) 7), .int x5] (rx_hp L t hi hl v) Q
  refine rx_aw_s 1 (pc := 36) rfl ?_
  refine rx_w_if (c := (hi (rx_ct j2) 7) ≤ x5) ⟨fun c3 => ?_, fun c3 => ?_⟩
  · have k := k.1 c3
    show rx_aw 117 63 [.ref 1, .long x1, rx_no, .int x3, .ref (rx_ct j2), .int x5] [] (rx_hp L t hi hl v) Q
    refine rx_aw_s 2 (pc := 63) rfl ?_
    show rx_aw 117 4 [.ref 1, .long x1, rx_no, .int (x3 + (1 : Int32)), .ref (rx_ct j2), .int x5] [] (rx_hp L t hi hl v) Q
    exact rx_aw_le (ls := [.ref 1, .long x1, rx_no, .int (x3 + (1 : Int32)), rx_no, rx_no]) ⟨Or.inr rfl, ⟨Or.inr rfl, ⟨Or.inl rfl, ⟨Or.inr rfl, ⟨Or.inl rfl, ⟨Or.inl rfl, trivial⟩⟩⟩⟩⟩⟩ k
  · have k := k.2 c3
    show rx_aw 117 39 [.ref 1, .long x1, rx_no, .int x3, .ref (rx_ct j2), .int x5] [] (rx_hp L t hi hl v) Q
    refine rx_aw_s 4 (pc := 39) rfl ?_
    show rx_aw 117 46 [.ref 1, .long x1, rx_no, .int x3, .ref (rx_ct j2), .int x5] [.ref (rx_ct j2), .long (x1 * (31 : Int64))] (rx_hp L t hi hl v) Q
    refine rx_w_cr hj2 (pc := 46) rfl (by decide) ?_
    show rx_aw 117 49 [.ref 1, .long x1, rx_no, .int x3, .ref (rx_ct j2), .int x5] [.ref (rx_ct j2 + 1), .long (x1 * (31 : Int64))] (rx_hp L t hi hl v) Q
    refine rx_aw_s 1 (pc := 49) rfl ?_
    show rx_aw 117 51 [.ref 1, .long x1, rx_no, .int x3, .ref (rx_ct j2), .int x5] [.int x5, .ref (rx_ct j2 + 1), .long (x1 * (31 : Int64))] (rx_hp L t hi hl v) Q
    obtain ⟨j4, ej4, hj4, k⟩ := k
    refine rx_aw_bald (pc := 51) (n := 400) j4 ej4 rfl (Or.inl (rx_ck (rx_cart_s hj2).2.1)) (Nat.lt_of_lt_of_le (rx_ct_pos _) (Nat.le_add_right _ _)) (rx_cle (rx_cart_s hj2).2.1) hj4 (by decide) ?_
    show rx_aw 117 52 [.ref 1, .long x1, rx_no, .int x3, .ref (rx_ct j2), .int x5] [.int (hi (rx_ct j2 + 1) j4), .long (x1 * (31 : Int64))] (rx_hp L t hi hl v) Q
    refine rx_aw_s 7 (pc := 52) rfl ?_
    show rx_aw 117 29 [.ref 1, .long (((x1 * (31 : Int64)) + (Int32.toInt64 (hi (rx_ct j2 + 1) j4))) + (1 : Int64)), rx_no, .int x3, .ref (rx_ct j2), .int (x5 + (1 : Int32))] [] (rx_hp L t hi hl v) Q
    exact k
set_option maxRecDepth 100000 in
/-- CartFloor.safe()Z -/
theorem w118_safe {L : Nat} {t : List (Nat × Nat)} {hi : Nat → Nat → Int32} {hl : Nat → Nat → Int64} {v : Nat → Nat → Option Nat} {Q : Option Value → rx_H → Prop}  (k : rx_aw 118 2 [.ref 1, .int (0 : Int32), rx_no] [] (rx_hp L t hi hl v) Q) : rx_me 118 [.ref 1] (rx_hp L t hi hl v) Q := by
  show rx_aw 118 0 [.ref 1, rx_no, rx_no] [] (rx_hp L t hi hl v) Q
  refine rx_aw_s 2 (pc := 0) rfl ?_
  show rx_aw 118 2 [.ref 1, .int (0 : Int32), rx_no] [] (rx_hp L t hi hl v) Q
  exact k
set_option maxRecDepth 100000 in
theorem w118_safe_2 {L : Nat} {t : List (Nat × Nat)} {hi : Nat → Nat → Int32} {hl : Nat → Nat → Int64} {v : Nat → Nat → Option Nat} {Q : Option Value → rx_H → Prop} {x1 : Int32} (k : (((hi 13 3) ≤ x1 → rx_aw 118 48 [.ref 1, .int (0 : Int32), rx_no] [] (rx_hp L t hi hl v) Q) ∧ (¬ ((hi 13 3) ≤ x1) → (∃ j2 : Nat, x1 = nI j2 ∧ j2 < 6 ∧ (((1 : Int32) < (hi (rx_ct j2) 5) → Q (some (.int (0 : Int32))) (rx_hp L t hi hl v)) ∧ (¬ ((1 : Int32) < (hi (rx_ct j2) 5)) → (((hi (rx_ct j2) 9) < 0 → rx_aw 118 2 [.ref 1, .int (x1 + (1 : Int32)), rx_no] [] (rx_hp L t hi hl v) Q) ∧ (¬ ((hi (rx_ct j2) 9) < 0) → Q (some (.int (0 : Int32))) (rx_hp L t hi hl v))))))))) : rx_aw 118 2 [.ref 1, .int x1, rx_no] [] (rx_hp L t hi hl v) Q := by
  refine rx_aw_s 5 (pc := 2) rfl ?_
  refine rx_w_if (c := (hi 13 3) ≤ x1) ⟨fun c1 => ?_, fun c1 => ?_⟩
  · have k := k.1 c1
    show rx_aw 118 46 [.ref 1, .int x1, rx_no] [] (rx_hp L t hi hl v) Q
    refine rx_aw_s 2 (pc := 46) rfl ?_
    show rx_aw 118 48 [.ref 1, .int (0 : Int32), rx_no] [] (rx_hp L t hi hl v) Q
    exact k
  · have k := k.2 c1
    show rx_aw 118 13 [.ref 1, .int x1, rx_no] [] (rx_hp L t hi hl v) Q
    refine rx_aw_s 4 (pc := 13) rfl ?_
    show rx_aw 118 21 [.ref 1, .int x1, rx_no] [.int x1, .ref 14] (rx_hp L t hi hl v) Q
    obtain ⟨j2, ej2, hj2, k⟩ := k
    refine rx_w_carts (pc := 21) rfl ⟨j2, ej2, hj2, ?_⟩
    show rx_aw 118 22 [.ref 1, .int x1, rx_no] [.ref (rx_ct j2)] (rx_hp L t hi hl v) Q
    refine rx_aw_s 2 (pc := 22) rfl ?_
    show rx_aw 118 24 [.ref 1, .int x1, .ref (rx_ct j2)] [.ref (rx_ct j2)] (rx_hp L t hi hl v) Q
    refine rx_w_cg hj2 (pc := 24) rfl (by decide) (by decide) ?_
    show rx_aw 118 27 [.ref 1, .int x1, .ref (rx_ct j2)] [.int (hi (rx_ct j2) 5)] (rx_hp L t hi hl v) Q
    refine rx_aw_s 2 (pc := 27) rfl ?_
    refine rx_w_if (c := (1 : Int32) < (hi (rx_ct j2) 5)) ⟨fun c3 => ?_, fun c3 => ?_⟩
    · have k := k.1 c3
      show rx_aw 118 38 [.ref 1, .int x1, .ref (rx_ct j2)] [] (rx_hp L t hi hl v) Q
      refine rx_aw_s 1 (pc := 38) rfl ?_
      show rx_aw 118 39 [.ref 1, .int x1, .ref (rx_ct j2)] [.int (0 : Int32)] (rx_hp L t hi hl v) Q
      exact rx_aw_ret (pc := 39) rfl k
    · have k := k.2 c3
      show rx_aw 118 31 [.ref 1, .int x1, .ref (rx_ct j2)] [] (rx_hp L t hi hl v) Q
      refine rx_aw_s 1 (pc := 31) rfl ?_
      show rx_aw 118 32 [.ref 1, .int x1, .ref (rx_ct j2)] [.ref (rx_ct j2)] (rx_hp L t hi hl v) Q
      refine rx_w_cg hj2 (pc := 32) rfl (by decide) (by decide) ?_
      show rx_aw 118 35 [.ref 1, .int x1, .ref (rx_ct j2)] [.int (hi (rx_ct j2) 9)] (rx_hp L t hi hl v) Q
      refine rx_aw_s 1 (pc := 35) rfl ?_
      refine rx_w_if (c := (hi (rx_ct j2) 9) < 0) ⟨fun c4 => ?_, fun c4 => ?_⟩
      · have k := k.1 c4
        show rx_aw 118 40 [.ref 1, .int x1, .ref (rx_ct j2)] [] (rx_hp L t hi hl v) Q
        refine rx_aw_s 2 (pc := 40) rfl ?_
        show rx_aw 118 2 [.ref 1, .int (x1 + (1 : Int32)), .ref (rx_ct j2)] [] (rx_hp L t hi hl v) Q
        exact rx_aw_le (ls := [.ref 1, .int (x1 + (1 : Int32)), rx_no]) ⟨Or.inr rfl, ⟨Or.inr rfl, ⟨Or.inl rfl, trivial⟩⟩⟩ k
      · have k := k.2 c4
        show rx_aw 118 38 [.ref 1, .int x1, .ref (rx_ct j2)] [] (rx_hp L t hi hl v) Q
        refine rx_aw_s 1 (pc := 38) rfl ?_
        show rx_aw 118 39 [.ref 1, .int x1, .ref (rx_ct j2)] [.int (0 : Int32)] (rx_hp L t hi hl v) Q
        exact rx_aw_ret (pc := 39) rfl k
set_option maxRecDepth 100000 in
theorem w118_safe_48 {L : Nat} {t : List (Nat × Nat)} {hi : Nat → Nat → Int32} {hl : Nat → Nat → Int64} {v : Nat → Nat → Option Nat} {Q : Option Value → rx_H → Prop} {x1 : Int32} (k : (((hi 13 3) ≤ x1 → Q (some (.int (1 : Int32))) (rx_hp L t hi hl v)) ∧ (¬ ((hi 13 3) ≤ x1) → (∃ j6 : Nat, x1 = nI j6 ∧ j6 < 6 ∧ (((hi (rx_ct j6) 8) < 0 → rx_aw 118 48 [.ref 1, .int (x1 + (1 : Int32)), rx_no] [] (rx_hp L t hi hl v) Q) ∧ (¬ ((hi (rx_ct j6) 8) < 0) → (∃ j8 : Nat, x1 = nI j8 ∧ j8 < 6 ∧ rx_me 119 [.ref 1, .ref (rx_ct j8)] (rx_hp L t hi hl v) (fun r h2 => ∃ z9 : Int32, r = some (.int z9) ∧ rx_ok2 L t h2 (fun hi9 hl9 v9 => ((z9 = 0 → Q (some (.int (0 : Int32))) (rx_hp L t hi9 hl9 v9)) ∧ (¬ (z9 = 0) → rx_aw 118 48 [.ref 1, .int (x1 + (1 : Int32)), rx_no] [] (rx_hp L t hi9 hl9 v9) Q))))))))))) : rx_aw 118 48 [.ref 1, .int x1, rx_no] [] (rx_hp L t hi hl v) Q := by
  refine rx_aw_s 5 (pc := 48) rfl ?_
  refine rx_w_if (c := (hi 13 3) ≤ x1) ⟨fun c5 => ?_, fun c5 => ?_⟩
  · have k := k.1 c5
    show rx_aw 118 98 [.ref 1, .int x1, rx_no] [] (rx_hp L t hi hl v) Q
    refine rx_aw_s 1 (pc := 98) rfl ?_
    show rx_aw 118 99 [.ref 1, .int x1, rx_no] [.int (1 : Int32)] (rx_hp L t hi hl v) Q
    exact rx_aw_ret (pc := 99) rfl k
  · have k := k.2 c5
    show rx_aw 118 59 [.ref 1, .int x1, rx_no] [] (rx_hp L t hi hl v) Q
    refine rx_aw_s 4 (pc := 59) rfl ?_
    show rx_aw 118 67 [.ref 1, .int x1, rx_no] [.int x1, .ref 14] (rx_hp L t hi hl v) Q
    obtain ⟨j6, ej6, hj6, k⟩ := k
    refine rx_w_carts (pc := 67) rfl ⟨j6, ej6, hj6, ?_⟩
    show rx_aw 118 68 [.ref 1, .int x1, rx_no] [.ref (rx_ct j6)] (rx_hp L t hi hl v) Q
    refine rx_w_cg hj6 (pc := 68) rfl (by decide) (by decide) ?_
    show rx_aw 118 71 [.ref 1, .int x1, rx_no] [.int (hi (rx_ct j6) 8)] (rx_hp L t hi hl v) Q
    refine rx_aw_s 1 (pc := 71) rfl ?_
    refine rx_w_if (c := (hi (rx_ct j6) 8) < 0) ⟨fun c7 => ?_, fun c7 => ?_⟩
    · have k := k.1 c7
      show rx_aw 118 92 [.ref 1, .int x1, rx_no] [] (rx_hp L t hi hl v) Q
      refine rx_aw_s 2 (pc := 92) rfl ?_
      show rx_aw 118 48 [.ref 1, .int (x1 + (1 : Int32)), rx_no] [] (rx_hp L t hi hl v) Q
      exact k
    · have k := k.2 c7
      show rx_aw 118 74 [.ref 1, .int x1, rx_no] [] (rx_hp L t hi hl v) Q
      refine rx_aw_s 5 (pc := 74) rfl ?_
      show rx_aw 118 83 [.ref 1, .int x1, rx_no] [.int x1, .ref 14, .ref 1] (rx_hp L t hi hl v) Q
      obtain ⟨j8, ej8, hj8, k⟩ := k
      refine rx_w_carts (pc := 83) rfl ⟨j8, ej8, hj8, ?_⟩
      show rx_aw 118 84 [.ref 1, .int x1, rx_no] [.ref (rx_ct j8), .ref 1] (rx_hp L t hi hl v) Q
      refine rx_w_callI (j := 119) (pc := 84) rfl rfl rfl rfl rfl ?_
      refine rx_aw.mono k (fun r h2 k => ?_)
      obtain ⟨z9, rfl, hi9, hl9, v9, rfl, k⟩ := k
      refine ⟨z9, rfl, ?_⟩
      show rx_aw 118 87 [.ref 1, .int x1, rx_no] [.int z9] (rx_hp L t hi9 hl9 v9) Q
      refine rx_aw_s 1 (pc := 87) rfl ?_
      refine rx_w_ifn (c := z9 = 0) ⟨fun c10 => ?_, fun c10 => ?_⟩
      · have k := k.1 c10
        show rx_aw 118 90 [.ref 1, .int x1, rx_no] [] (rx_hp L t hi9 hl9 v9) Q
        refine rx_aw_s 1 (pc := 90) rfl ?_
        show rx_aw 118 91 [.ref 1, .int x1, rx_no] [.int (0 : Int32)] (rx_hp L t hi9 hl9 v9) Q
        exact rx_aw_ret (pc := 91) rfl k
      · have k := k.2 c10
        show rx_aw 118 92 [.ref 1, .int x1, rx_no] [] (rx_hp L t hi9 hl9 v9) Q
        refine rx_aw_s 2 (pc := 92) rfl ?_
        show rx_aw 118 48 [.ref 1, .int (x1 + (1 : Int32)), rx_no] [] (rx_hp L t hi9 hl9 v9) Q
        exact k
set_option maxRecDepth 100000 in
/-- CartFloor.hasOpenPath(LCartFloor$Cart;)Z -/
theorem w119_hasOpenPath {L : Nat} {t : List (Nat × Nat)} {hi : Nat → Nat → Int32} {hl : Nat → Nat → Int64} {v : Nat → Nat → Option Nat} {Q : Option Value → rx_H → Prop} {c0 : Nat} (hc0 : c0 < 6) (k : rx_me 37 [.ref 13, .int (0 : Int32), .int (-1 : Int32)] (rx_hp L t hi hl v) (fun r h2 => ∃ z1 : Int64, r = some (.long z1) ∧ rx_ok2 L t h2 (fun hi1 hl1 v1 => rx_aw 119 21 [.ref 1, .ref (rx_ct c0), .long ((hl 7 10) ||| z1), rx_no, .int (0 : Int32), rx_no] [] (rx_hp L t hi1 hl1 v1) Q))) : rx_me 119 [.ref 1, .ref (rx_ct c0)] (rx_hp L t hi hl v) Q := by
  show rx_aw 119 0 [.ref 1, .ref (rx_ct c0), rx_no, rx_no, rx_no, rx_no] [] (rx_hp L t hi hl v) Q
  refine rx_aw_s 7 (pc := 0) rfl ?_
  show rx_aw 119 13 [.ref 1, .ref (rx_ct c0), rx_no, rx_no, rx_no, rx_no] [.int (-1 : Int32), .int (0 : Int32), .ref 13, .long (hl 7 10)] (rx_hp L t hi hl v) Q
  refine rx_w_callL (j := 37) (pc := 13) rfl rfl rfl rfl rfl ?_
  refine rx_aw.mono k (fun r h2 k => ?_)
  obtain ⟨z1, rfl, hi1, hl1, v1, rfl, k⟩ := k
  refine ⟨z1, rfl, ?_⟩
  show rx_aw 119 16 [.ref 1, .ref (rx_ct c0), rx_no, rx_no, rx_no, rx_no] [.long z1, .long (hl 7 10)] (rx_hp L t hi1 hl1 v1) Q
  refine rx_aw_s 4 (pc := 16) rfl ?_
  show rx_aw 119 21 [.ref 1, .ref (rx_ct c0), .long ((hl 7 10) ||| z1), rx_no, .int (0 : Int32), rx_no] [] (rx_hp L t hi1 hl1 v1) Q
  exact k
set_option maxRecDepth 100000 in
theorem w119_hasOpenPath_21 {L : Nat} {t : List (Nat × Nat)} {hi : Nat → Nat → Int32} {hl : Nat → Nat → Int64} {v : Nat → Nat → Option Nat} {Q : Option Value → rx_H → Prop} {c0 : Nat} (hc0 : c0 < 6) {x2 : Int64} {x4 : Int32} (k : (((hi 13 3) ≤ x4 → rx_me 8 [.int (hi (rx_ct c0) 6)] (rx_hp L t hi hl v) (fun r h2 => ∃ z3 : Int32, r = some (.int z3) ∧ rx_ok2 L t h2 (fun hi3 hl3 v3 => rx_me 9 [.int z3] (rx_hp L t hi3 hl3 v3) (fun r h2 => ∃ z4 : Int64, r = some (.long z4) ∧ rx_ok2 L t h2 (fun hi4 hl4 v4 => rx_me 120 [.ref 7, .long z4, .long ((hl4 7 2) &&& (x2 ^^^ (-1 : Int64)))] (rx_hp L t hi4 hl4 v4) (fun r h2 => ∃ z5 : Int64, r = some (.long z5) ∧ rx_ok2 L t h2 (fun hi5 hl5 v5 => rx_me 9 [.int (hi5 (rx_ct c0) 8)] (rx_hp L t hi5 hl5 v5) (fun r h2 => ∃ z6 : Int64, r = some (.long z6) ∧ rx_ok2 L t h2 (fun hi6 hl6 v6 => (((lg_cmp (z5 &&& z6) (0 : Int64)) = 0 → Q (some (.int (0 : Int32))) (rx_hp L t hi6 hl6 v6)) ∧ (¬ ((lg_cmp (z5 &&& z6) (0 : Int64)) = 0) → Q (some (.int (1 : Int32))) (rx_hp L t hi6 hl6 v6)))))))))))) ∧ (¬ ((hi 13 3) ≤ x4) → (∃ j8 : Nat, x4 = nI j8 ∧ j8 < 6 ∧ (((some (rx_ct j8) : Option Nat) = (some (rx_ct c0) : Option Nat) → rx_aw 119 21 [.ref 1, .ref (rx_ct c0), .long x2, rx_no, .int (x4 + (1 : Int32)), rx_no] [] (rx_hp L t hi hl v) Q) ∧ (¬ ((some (rx_ct j8) : Option Nat) = (some (rx_ct c0) : Option Nat)) → rx_me 9 [.int (hi (rx_ct j8) 8)] (rx_hp L t hi hl v) (fun r h2 => ∃ z10 : Int64, r = some (.long z10) ∧ rx_ok2 L t h2 (fun hi10 hl10 v10 => rx_me 8 [.int (hi10 (rx_ct j8) 6)] (rx_hp L t hi10 hl10 v10) (fun r h2 => ∃ z11 : Int32, r = some (.int z11) ∧ rx_ok2 L t h2 (fun hi11 hl11 v11 => rx_me 9 [.int z11] (rx_hp L t hi11 hl11 v11) (fun r h2 => ∃ z12 : Int64, r = some (.long z12) ∧ rx_ok2 L t h2 (fun hi12 hl12 v12 => rx_aw 119 21 [.ref 1, .ref (rx_ct c0), .long (x2 ||| (z10 ||| z12)), rx_no, .int (x4 + (1 : Int32)), rx_no] [] (rx_hp L t hi12 hl12 v12) Q)))))))))))) : rx_aw 119 21 [.ref 1, .ref (rx_ct c0), .long x2, rx_no, .int x4, rx_no] [] (rx_hp L t hi hl v) Q := by
  refine rx_aw_s 5 (pc := 21) rfl ?_
  refine rx_w_if (c := (hi 13 3) ≤ x4) ⟨fun c2 => ?_, fun c2 => ?_⟩
  · have k := k.1 c2
    show rx_aw 119 80 [.ref 1, .ref (rx_ct c0), .long x2, rx_no, .int x4, rx_no] [] (rx_hp L t hi hl v) Q
    refine rx_aw_s 3 (pc := 80) rfl ?_
    show rx_aw 119 85 [.ref 1, .ref (rx_ct c0), .long x2, rx_no, .int x4, rx_no] [.ref (rx_ct c0), .ref 7] (rx_hp L t hi hl v) Q
    refine rx_w_cg hc0 (pc := 85) rfl (by decide) (by decide) ?_
    show rx_aw 119 88 [.ref 1, .ref (rx_ct c0), .long x2, rx_no, .int x4, rx_no] [.int (hi (rx_ct c0) 6), .ref 7] (rx_hp L t hi hl v) Q
    refine rx_w_callI (j := 8) (pc := 88) rfl rfl rfl rfl rfl ?_
    refine rx_aw.mono k (fun r h2 k => ?_)
    obtain ⟨z3, rfl, hi3, hl3, v3, rfl, k⟩ := k
    refine ⟨z3, rfl, ?_⟩
    show rx_aw 119 91 [.ref 1, .ref (rx_ct c0), .long x2, rx_no, .int x4, rx_no] [.int z3, .ref 7] (rx_hp L t hi3 hl3 v3) Q
    refine rx_w_callL (j := 9) (pc := 91) rfl rfl rfl rfl rfl ?_
    refine rx_aw.mono k (fun r h2 k => ?_)
    obtain ⟨z4, rfl, hi4, hl4, v4, rfl, k⟩ := k
    refine ⟨z4, rfl, ?_⟩
    show rx_aw 119 94 [.ref 1, .ref (rx_ct c0), .long x2, rx_no, .int x4, rx_no] [.long z4, .ref 7] (rx_hp L t hi4 hl4 v4) Q
    refine rx_aw_s 7 (pc := 94) rfl ?_
    show rx_aw 119 107 [.ref 1, .ref (rx_ct c0), .long x2, rx_no, .int x4, rx_no] [.long ((hl4 7 2) &&& (x2 ^^^ (-1 : Int64))), .long z4, .ref 7] (rx_hp L t hi4 hl4 v4) Q
    refine rx_w_callL (j := 120) (pc := 107) rfl rfl rfl rfl rfl ?_
    refine rx_aw.mono k (fun r h2 k => ?_)
    obtain ⟨z5, rfl, hi5, hl5, v5, rfl, k⟩ := k
    refine ⟨z5, rfl, ?_⟩
    show rx_aw 119 110 [.ref 1, .ref (rx_ct c0), .long x2, rx_no, .int x4, rx_no] [.long z5] (rx_hp L t hi5 hl5 v5) Q
    refine rx_aw_s 1 (pc := 110) rfl ?_
    show rx_aw 119 111 [.ref 1, .ref (rx_ct c0), .long x2, rx_no, .int x4, rx_no] [.ref (rx_ct c0), .long z5] (rx_hp L t hi5 hl5 v5) Q
    refine rx_w_cg hc0 (pc := 111) rfl (by decide) (by decide) ?_
    show rx_aw 119 114 [.ref 1, .ref (rx_ct c0), .long x2, rx_no, .int x4, rx_no] [.int (hi5 (rx_ct c0) 8), .long z5] (rx_hp L t hi5 hl5 v5) Q
    refine rx_w_callL (j := 9) (pc := 114) rfl rfl rfl rfl rfl ?_
    refine rx_aw.mono k (fun r h2 k => ?_)
    obtain ⟨z6, rfl, hi6, hl6, v6, rfl, k⟩ := k
    refine ⟨z6, rfl, ?_⟩
    show rx_aw 119 117 [.ref 1, .ref (rx_ct c0), .long x2, rx_no, .int x4, rx_no] [.long z6, .long z5] (rx_hp L t hi6 hl6 v6) Q
    refine rx_aw_s 4 (pc := 117) rfl ?_
    refine rx_w_if (c := (lg_cmp (z5 &&& z6) (0 : Int64)) = 0) ⟨fun c7 => ?_, fun c7 => ?_⟩
    · have k := k.1 c7
      show rx_aw 119 127 [.ref 1, .ref (rx_ct c0), .long x2, rx_no, .int x4, rx_no] [] (rx_hp L t hi6 hl6 v6) Q
      refine rx_aw_s 1 (pc := 127) rfl ?_
      show rx_aw 119 128 [.ref 1, .ref (rx_ct c0), .long x2, rx_no, .int x4, rx_no] [.int (0 : Int32)] (rx_hp L t hi6 hl6 v6) Q
      exact rx_aw_ret (pc := 128) rfl k
    · have k := k.2 c7
      show rx_aw 119 123 [.ref 1, .ref (rx_ct c0), .long x2, rx_no, .int x4, rx_no] [] (rx_hp L t hi6 hl6 v6) Q
      refine rx_aw_s 2 (pc := 123) rfl ?_
      show rx_aw 119 128 [.ref 1, .ref (rx_ct c0), .long x2, rx_no, .int x4, rx_no] [.int (1 : Int32)] (rx_hp L t hi6 hl6 v6) Q
      exact rx_aw_ret (pc := 128) rfl k
  · have k := k.2 c2
    show rx_aw 119 33 [.ref 1, .ref (rx_ct c0), .long x2, rx_no, .int x4, rx_no] [] (rx_hp L t hi hl v) Q
    refine rx_aw_s 4 (pc := 33) rfl ?_
    show rx_aw 119 42 [.ref 1, .ref (rx_ct c0), .long x2, rx_no, .int x4, rx_no] [.int x4, .ref 14] (rx_hp L t hi hl v) Q
    obtain ⟨j8, ej8, hj8, k⟩ := k
    refine rx_w_carts (pc := 42) rfl ⟨j8, ej8, hj8, ?_⟩
    show rx_aw 119 43 [.ref 1, .ref (rx_ct c0), .long x2, rx_no, .int x4, rx_no] [.ref (rx_ct j8)] (rx_hp L t hi hl v) Q
    refine rx_aw_s 4 (pc := 43) rfl ?_
    refine rx_w_if (c := (some (rx_ct j8) : Option Nat) = (some (rx_ct c0) : Option Nat)) ⟨fun c9 => ?_, fun c9 => ?_⟩
    · have k := k.1 c9
      show rx_aw 119 74 [.ref 1, .ref (rx_ct c0), .long x2, rx_no, .int x4, .ref (rx_ct j8)] [] (rx_hp L t hi hl v) Q
      refine rx_aw_s 2 (pc := 74) rfl ?_
      show rx_aw 119 21 [.ref 1, .ref (rx_ct c0), .long x2, rx_no, .int (x4 + (1 : Int32)), .ref (rx_ct j8)] [] (rx_hp L t hi hl v) Q
      exact rx_aw_le (ls := [.ref 1, .ref (rx_ct c0), .long x2, rx_no, .int (x4 + (1 : Int32)), rx_no]) ⟨Or.inr rfl, ⟨Or.inr rfl, ⟨Or.inr rfl, ⟨Or.inl rfl, ⟨Or.inr rfl, ⟨Or.inl rfl, trivial⟩⟩⟩⟩⟩⟩ k
    · have k := k.2 c9
      show rx_aw 119 51 [.ref 1, .ref (rx_ct c0), .long x2, rx_no, .int x4, .ref (rx_ct j8)] [] (rx_hp L t hi hl v) Q
      refine rx_aw_s 2 (pc := 51) rfl ?_
      show rx_aw 119 54 [.ref 1, .ref (rx_ct c0), .long x2, rx_no, .int x4, .ref (rx_ct j8)] [.ref (rx_ct j8), .long x2] (rx_hp L t hi hl v) Q
      refine rx_w_cg hj8 (pc := 54) rfl (by decide) (by decide) ?_
      show rx_aw 119 57 [.ref 1, .ref (rx_ct c0), .long x2, rx_no, .int x4, .ref (rx_ct j8)] [.int (hi (rx_ct j8) 8), .long x2] (rx_hp L t hi hl v) Q
      refine rx_w_callL (j := 9) (pc := 57) rfl rfl rfl rfl rfl ?_
      refine rx_aw.mono k (fun r h2 k => ?_)
      obtain ⟨z10, rfl, hi10, hl10, v10, rfl, k⟩ := k
      refine ⟨z10, rfl, ?_⟩
      show rx_aw 119 60 [.ref 1, .ref (rx_ct c0), .long x2, rx_no, .int x4, .ref (rx_ct j8)] [.long z10, .long x2] (rx_hp L t hi10 hl10 v10) Q
      refine rx_aw_s 1 (pc := 60) rfl ?_
      show rx_aw 119 62 [.ref 1, .ref (rx_ct c0), .long x2, rx_no, .int x4, .ref (rx_ct j8)] [.ref (rx_ct j8), .long z10, .long x2] (rx_hp L t hi10 hl10 v10) Q
      refine rx_w_cg hj8 (pc := 62) rfl (by decide) (by decide) ?_
      show rx_aw 119 65 [.ref 1, .ref (rx_ct c0), .long x2, rx_no, .int x4, .ref (rx_ct j8)] [.int (hi10 (rx_ct j8) 6), .long z10, .long x2] (rx_hp L t hi10 hl10 v10) Q
      refine rx_w_callI (j := 8) (pc := 65) rfl rfl rfl rfl rfl ?_
      refine rx_aw.mono k (fun r h2 k => ?_)
      obtain ⟨z11, rfl, hi11, hl11, v11, rfl, k⟩ := k
      refine ⟨z11, rfl, ?_⟩
      show rx_aw 119 68 [.ref 1, .ref (rx_ct c0), .long x2, rx_no, .int x4, .ref (rx_ct j8)] [.int z11, .long z10, .long x2] (rx_hp L t hi11 hl11 v11) Q
      refine rx_w_callL (j := 9) (pc := 68) rfl rfl rfl rfl rfl ?_
      refine rx_aw.mono k (fun r h2 k => ?_)
      obtain ⟨z12, rfl, hi12, hl12, v12, rfl, k⟩ := k
      refine ⟨z12, rfl, ?_⟩
      show rx_aw 119 71 [.ref 1, .ref (rx_ct c0), .long x2, rx_no, .int x4, .ref (rx_ct j8)] [.long z12, .long z10, .long x2] (rx_hp L t hi12 hl12 v12) Q
      refine rx_aw_s 5 (pc := 71) rfl ?_
      show rx_aw 119 21 [.ref 1, .ref (rx_ct c0), .long (x2 ||| (z10 ||| z12)), rx_no, .int (x4 + (1 : Int32)), .ref (rx_ct j8)] [] (rx_hp L t hi12 hl12 v12) Q
      exact rx_aw_le (ls := [.ref 1, .ref (rx_ct c0), .long (x2 ||| (z10 ||| z12)), rx_no, .int (x4 + (1 : Int32)), rx_no]) ⟨Or.inr rfl, ⟨Or.inr rfl, ⟨Or.inr rfl, ⟨Or.inl rfl, ⟨Or.inr rfl, ⟨Or.inl rfl, trivial⟩⟩⟩⟩⟩⟩ k
set_option maxRecDepth 100000 in
/-- CartFloor$Floor.flood(JJ)J -/
theorem w120_flood {L : Nat} {t : List (Nat × Nat)} {hi : Nat → Nat → Int32} {hl : Nat → Nat → Int64} {v : Nat → Nat → Option Nat} {Q : Option Value → rx_H → Prop} {a0 : Int64} {a1 : Int64} (k : rx_aw 120 8 [.ref 7, .long a0, rx_no, .long a1, rx_no, .long (a0 &&& a1), rx_no, .int (0 : Int32)] [] (rx_hp L t hi hl v) Q) : rx_me 120 [.ref 7, .long a0, .long a1] (rx_hp L t hi hl v) Q := by
  show rx_aw 120 0 [.ref 7, .long a0, rx_no, .long a1, rx_no, rx_no, rx_no, rx_no] [] (rx_hp L t hi hl v) Q
  refine rx_aw_s 6 (pc := 0) rfl ?_
  show rx_aw 120 8 [.ref 7, .long a0, rx_no, .long a1, rx_no, .long (a0 &&& a1), rx_no, .int (0 : Int32)] [] (rx_hp L t hi hl v) Q
  exact k
set_option maxRecDepth 100000 in
theorem w120_flood_8 {L : Nat} {t : List (Nat × Nat)} {hi : Nat → Nat → Int32} {hl : Nat → Nat → Int64} {v : Nat → Nat → Option Nat} {Q : Option Value → rx_H → Prop} {x1 : Int64} {x3 : Int64} {x5 : Int64} {x7 : Int32} (k : (((64 : Int32) ≤ x7 → Q (some (.long x5)) (rx_hp L t hi hl v)) ∧ (¬ ((64 : Int32) ≤ x7) → rx_me 78 [.ref 7, .long x5] (rx_hp L t hi hl v) (fun r h2 => ∃ z2 : Int64, r = some (.long z2) ∧ rx_ok2 L t h2 (fun hi2 hl2 v2 => rx_aw 120 8 [.ref 7, .long x1, rx_no, .long x3, rx_no, .long (z2 &&& x3), rx_no, .int (x7 + (1 : Int32))] [] (rx_hp L t hi2 hl2 v2) Q))))) : rx_aw 120 8 [.ref 7, .long x1, rx_no, .long x3, rx_no, .long x5, rx_no, .int x7] [] (rx_hp L t hi hl v) Q := by
  refine rx_aw_s 3 (pc := 8) rfl ?_
  refine rx_w_if (c := (64 : Int32) ≤ x7) ⟨fun c1 => ?_, fun c1 => ?_⟩
  · have k := k.1 c1
    show rx_aw 120 31 [.ref 7, .long x1, rx_no, .long x3, rx_no, .long x5, rx_no, .int x7] [] (rx_hp L t hi hl v) Q
    refine rx_aw_s 1 (pc := 31) rfl ?_
    show rx_aw 120 33 [.ref 7, .long x1, rx_no, .long x3, rx_no, .long x5, rx_no, .int x7] [.long x5] (rx_hp L t hi hl v) Q
    exact rx_aw_ret (pc := 33) rfl k
  · have k := k.2 c1
    show rx_aw 120 15 [.ref 7, .long x1, rx_no, .long x3, rx_no, .long x5, rx_no, .int x7] [] (rx_hp L t hi hl v) Q
    refine rx_aw_s 2 (pc := 15) rfl ?_
    show rx_aw 120 18 [.ref 7, .long x1, rx_no, .long x3, rx_no, .long x5, rx_no, .int x7] [.long x5, .ref 7] (rx_hp L t hi hl v) Q
    refine rx_w_callL (j := 78) (pc := 18) rfl rfl rfl rfl rfl ?_
    refine rx_aw.mono k (fun r h2 k => ?_)
    obtain ⟨z2, rfl, hi2, hl2, v2, rfl, k⟩ := k
    refine ⟨z2, rfl, ?_⟩
    show rx_aw 120 21 [.ref 7, .long x1, rx_no, .long x3, rx_no, .long x5, rx_no, .int x7] [.long z2] (rx_hp L t hi2 hl2 v2) Q
    refine rx_aw_s 5 (pc := 21) rfl ?_
    show rx_aw 120 8 [.ref 7, .long x1, rx_no, .long x3, rx_no, .long (z2 &&& x3), rx_no, .int (x7 + (1 : Int32))] [] (rx_hp L t hi2 hl2 v2) Q
    exact k
set_option maxRecDepth 100000 in
/-- CartFloor.mayBeOfFew(I)Z -/
theorem w122_mayBeOfFew {L : Nat} {t : List (Nat × Nat)} {hi : Nat → Nat → Int32} {hl : Nat → Nat → Int64} {v : Nat → Nat → Option Nat} {Q : Option Value → rx_H → Prop} {a0 : Int32} (k : rx_me 59 [.ref 13, .int a0] (rx_hp L t hi hl v) (fun r h2 => ∃ z1 : Option Nat, r = some (va_rf z1) ∧ rx_ok2 L t h2 (fun hi1 hl1 v1 => (z1 = none ∧ Q (some (.int (0 : Int32))) (rx_hp L t hi1 hl1 v1)) ∨ (∃ q1 : Nat, q1 < 6 ∧ z1 = some (rx_ct q1) ∧ (((1 : Int32) < (hi1 (rx_ct q1) 5) → Q (some (.int (0 : Int32))) (rx_hp L t hi1 hl1 v1)) ∧ (¬ ((1 : Int32) < (hi1 (rx_ct q1) 5)) → rx_me 48 [.int (hi1 (rx_ct q1) 6)] (rx_hp L t hi1 hl1 v1) (fun r h2 => ∃ z3 : Int32, r = some (.int z3) ∧ rx_ok2 L t h2 (fun hi3 hl3 v3 => ((0 ≤ z3 → Q (some (.int (0 : Int32))) (rx_hp L t hi3 hl3 v3)) ∧ (¬ (0 ≤ z3) → (((hi3 (rx_ct q1) 8) < 0 → Q (some (.int (0 : Int32))) (rx_hp L t hi3 hl3 v3)) ∧ (¬ ((hi3 (rx_ct q1) 8) < 0) → ((0 ≤ (hi3 (rx_ct q1) 9) → Q (some (.int (0 : Int32))) (rx_hp L t hi3 hl3 v3)) ∧ (¬ (0 ≤ (hi3 (rx_ct q1) 9)) → Q (some (.int (1 : Int32))) (rx_hp L t hi3 hl3 v3))))))))))))))) : rx_me 122 [.ref 1, .int a0] (rx_hp L t hi hl v) Q := by
  show rx_aw 122 0 [.ref 1, .int a0, rx_no] [] (rx_hp L t hi hl v) Q
  refine rx_aw_s 3 (pc := 0) rfl ?_
  show rx_aw 122 5 [.ref 1, .int a0, rx_no] [.int a0, .ref 13] (rx_hp L t hi hl v) Q
  refine rx_w_callR (j := 59) (pc := 5) rfl rfl rfl rfl rfl ?_
  refine rx_aw.mono k (fun r h2 k => ?_)
  obtain ⟨z1, rfl, hi1, hl1, v1, rfl, k⟩ := k
  refine ⟨z1, rfl, ?_⟩
  rcases k with ⟨rfl, k⟩ | ⟨q1, hq1, rfl, k⟩
  · show rx_aw 122 8 [.ref 1, .int a0, rx_no] [.null] (rx_hp L t hi1 hl1 v1) Q
    refine rx_aw_s 4 (pc := 8) rfl ?_
    show rx_aw 122 50 [.ref 1, .int a0, .null] [.int (0 : Int32)] (rx_hp L t hi1 hl1 v1) Q
    exact rx_aw_ret (pc := 50) rfl k
  · show rx_aw 122 8 [.ref 1, .int a0, rx_no] [.ref (rx_ct q1)] (rx_hp L t hi1 hl1 v1) Q
    refine rx_aw_s 4 (pc := 8) rfl ?_
    show rx_aw 122 14 [.ref 1, .int a0, .ref (rx_ct q1)] [.ref (rx_ct q1)] (rx_hp L t hi1 hl1 v1) Q
    refine rx_w_cg hq1 (pc := 14) rfl (by decide) (by decide) ?_
    show rx_aw 122 17 [.ref 1, .int a0, .ref (rx_ct q1)] [.int (hi1 (rx_ct q1) 5)] (rx_hp L t hi1 hl1 v1) Q
    refine rx_aw_s 2 (pc := 17) rfl ?_
    refine rx_w_if (c := (1 : Int32) < (hi1 (rx_ct q1) 5)) ⟨fun c2 => ?_, fun c2 => ?_⟩
    · have k := k.1 c2
      show rx_aw 122 49 [.ref 1, .int a0, .ref (rx_ct q1)] [] (rx_hp L t hi1 hl1 v1) Q
      refine rx_aw_s 1 (pc := 49) rfl ?_
      show rx_aw 122 50 [.ref 1, .int a0, .ref (rx_ct q1)] [.int (0 : Int32)] (rx_hp L t hi1 hl1 v1) Q
      exact rx_aw_ret (pc := 50) rfl k
    · have k := k.2 c2
      show rx_aw 122 21 [.ref 1, .int a0, .ref (rx_ct q1)] [] (rx_hp L t hi1 hl1 v1) Q
      refine rx_aw_s 1 (pc := 21) rfl ?_
      show rx_aw 122 22 [.ref 1, .int a0, .ref (rx_ct q1)] [.ref (rx_ct q1)] (rx_hp L t hi1 hl1 v1) Q
      refine rx_w_cg hq1 (pc := 22) rfl (by decide) (by decide) ?_
      show rx_aw 122 25 [.ref 1, .int a0, .ref (rx_ct q1)] [.int (hi1 (rx_ct q1) 6)] (rx_hp L t hi1 hl1 v1) Q
      refine rx_w_callI (j := 48) (pc := 25) rfl rfl rfl rfl rfl ?_
      refine rx_aw.mono k (fun r h2 k => ?_)
      obtain ⟨z3, rfl, hi3, hl3, v3, rfl, k⟩ := k
      refine ⟨z3, rfl, ?_⟩
      show rx_aw 122 28 [.ref 1, .int a0, .ref (rx_ct q1)] [.int z3] (rx_hp L t hi3 hl3 v3) Q
      refine rx_aw_s 1 (pc := 28) rfl ?_
      refine rx_w_if (c := 0 ≤ z3) ⟨fun c4 => ?_, fun c4 => ?_⟩
      · have k := k.1 c4
        show rx_aw 122 49 [.ref 1, .int a0, .ref (rx_ct q1)] [] (rx_hp L t hi3 hl3 v3) Q
        refine rx_aw_s 1 (pc := 49) rfl ?_
        show rx_aw 122 50 [.ref 1, .int a0, .ref (rx_ct q1)] [.int (0 : Int32)] (rx_hp L t hi3 hl3 v3) Q
        exact rx_aw_ret (pc := 50) rfl k
      · have k := k.2 c4
        show rx_aw 122 31 [.ref 1, .int a0, .ref (rx_ct q1)] [] (rx_hp L t hi3 hl3 v3) Q
        refine rx_aw_s 1 (pc := 31) rfl ?_
        show rx_aw 122 32 [.ref 1, .int a0, .ref (rx_ct q1)] [.ref (rx_ct q1)] (rx_hp L t hi3 hl3 v3) Q
        refine rx_w_cg hq1 (pc := 32) rfl (by decide) (by decide) ?_
        show rx_aw 122 35 [.ref 1, .int a0, .ref (rx_ct q1)] [.int (hi3 (rx_ct q1) 8)] (rx_hp L t hi3 hl3 v3) Q
        refine rx_aw_s 1 (pc := 35) rfl ?_
        refine rx_w_if (c := (hi3 (rx_ct q1) 8) < 0) ⟨fun c5 => ?_, fun c5 => ?_⟩
        · have k := k.1 c5
          show rx_aw 122 49 [.ref 1, .int a0, .ref (rx_ct q1)] [] (rx_hp L t hi3 hl3 v3) Q
          refine rx_aw_s 1 (pc := 49) rfl ?_
          show rx_aw 122 50 [.ref 1, .int a0, .ref (rx_ct q1)] [.int (0 : Int32)] (rx_hp L t hi3 hl3 v3) Q
          exact rx_aw_ret (pc := 50) rfl k
        · have k := k.2 c5
          show rx_aw 122 38 [.ref 1, .int a0, .ref (rx_ct q1)] [] (rx_hp L t hi3 hl3 v3) Q
          refine rx_aw_s 1 (pc := 38) rfl ?_
          show rx_aw 122 39 [.ref 1, .int a0, .ref (rx_ct q1)] [.ref (rx_ct q1)] (rx_hp L t hi3 hl3 v3) Q
          refine rx_w_cg hq1 (pc := 39) rfl (by decide) (by decide) ?_
          show rx_aw 122 42 [.ref 1, .int a0, .ref (rx_ct q1)] [.int (hi3 (rx_ct q1) 9)] (rx_hp L t hi3 hl3 v3) Q
          refine rx_aw_s 1 (pc := 42) rfl ?_
          refine rx_w_if (c := 0 ≤ (hi3 (rx_ct q1) 9)) ⟨fun c6 => ?_, fun c6 => ?_⟩
          · have k := k.1 c6
            show rx_aw 122 49 [.ref 1, .int a0, .ref (rx_ct q1)] [] (rx_hp L t hi3 hl3 v3) Q
            refine rx_aw_s 1 (pc := 49) rfl ?_
            show rx_aw 122 50 [.ref 1, .int a0, .ref (rx_ct q1)] [.int (0 : Int32)] (rx_hp L t hi3 hl3 v3) Q
            exact rx_aw_ret (pc := 50) rfl k
          · have k := k.2 c6
            show rx_aw 122 45 [.ref 1, .int a0, .ref (rx_ct q1)] [] (rx_hp L t hi3 hl3 v3) Q
            refine rx_aw_s 2 (pc := 45) rfl ?_
            show rx_aw 122 50 [.ref 1, .int a0, .ref (rx_ct q1)] [.int (1 : Int32)] (rx_hp L t hi3 hl3 v3) Q
            exact rx_aw_ret (pc := 50) rfl k
set_option maxRecDepth 100000 in
/-- CartFloor.hang(III)I -/
theorem w142_hang {L : Nat} {t : List (Nat × Nat)} {hi : Nat → Nat → Int32} {hl : Nat → Nat → Int64} {v : Nat → Nat → Option Nat} {Q : Option Value → rx_H → Prop} {a0 : Int32} {a1 : Int32} {a2 : Int32} (k : ((a1 < 0 → Q (some (.int (-2 : Int32))) (rx_hp L t hi hl v)) ∧ (¬ (a1 < 0) → ((a1 ≤ (2 : Int32) → rx_me 143 [.ref 2, .int a0] (rx_hp L t hi hl v) (fun r h2 => ∃ z3 : Int32, r = some (.int z3) ∧ rx_ok2 L t h2 (fun hi3 hl3 v3 => ((z3 = 0 → Q (some (.int (-11 : Int32))) (rx_hp L t hi3 hl3 v3)) ∧ (¬ (z3 = 0) → ((a1 = (1 : Int32) → ((a1 = 0 → rx_me 144 [.ref 2, .int a0, .int a1, .int a2] (rx_hp L t hi3 hl3 v3) (fun r h2 => ∃ z7 : Int32, r = some (.int z7) ∧ rx_ok2 L t h2 (fun hi7 hl7 v7 => Q (some (.int z7)) (rx_hp L t hi7 hl7 v7)))) ∧ (¬ (a1 = 0) → ((a2 < 0 → Q (some (.int (-10 : Int32))) (rx_hp L t hi3 hl3 v3)) ∧ (¬ (a2 < 0) → ((a2 < (hi3 13 3) → rx_me 144 [.ref 2, .int a0, .int a1, .int a2] (rx_hp L t hi3 hl3 v3) (fun r h2 => ∃ z10 : Int32, r = some (.int z10) ∧ rx_ok2 L t h2 (fun hi10 hl10 v10 => Q (some (.int z10)) (rx_hp L t hi10 hl10 v10)))) ∧ (¬ (a2 < (hi3 13 3)) → Q (some (.int (-10 : Int32))) (rx_hp L t hi3 hl3 v3)))))))) ∧ (¬ (a1 = (1 : Int32)) → ((a1 = 0 → rx_me 144 [.ref 2, .int a0, .int a1, .int a2] (rx_hp L t hi3 hl3 v3) (fun r h2 => ∃ z12 : Int32, r = some (.int z12) ∧ rx_ok2 L t h2 (fun hi12 hl12 v12 => Q (some (.int z12)) (rx_hp L t hi12 hl12 v12)))) ∧ (¬ (a1 = 0) → ((a2 < 0 → Q (some (.int (-10 : Int32))) (rx_hp L t hi3 hl3 v3)) ∧ (¬ (a2 < 0) → ((a2 < (hi3 13 4) → rx_me 144 [.ref 2, .int a0, .int a1, .int a2] (rx_hp L t hi3 hl3 v3) (fun r h2 => ∃ z15 : Int32, r = some (.int z15) ∧ rx_ok2 L t h2 (fun hi15 hl15 v15 => Q (some (.int z15)) (rx_hp L t hi15 hl15 v15)))) ∧ (¬ (a2 < (hi3 13 4)) → Q (some (.int (-10 : Int32))) (rx_hp L t hi3 hl3 v3)))))))))))))) ∧ (¬ (a1 ≤ (2 : Int32)) → Q (some (.int (-2 : Int32))) (rx_hp L t hi hl v)))))) : rx_me 142 [.ref 1, .int a0, .int a1, .int a2] (rx_hp L t hi hl v) Q := by
  show rx_aw 142 0 [.ref 1, .int a0, .int a1, .int a2, rx_no] [] (rx_hp L t hi hl v) Q
  refine rx_aw_s 2 (pc := 0) rfl ?_
  refine rx_w_if (c := a1 < 0) ⟨fun c1 => ?_, fun c1 => ?_⟩
  · have k := k.1 c1
    show rx_aw 142 9 [.ref 1, .int a0, .int a1, .int a2, rx_no] [] (rx_hp L t hi hl v) Q
    refine rx_aw_s 1 (pc := 9) rfl ?_
    show rx_aw 142 11 [.ref 1, .int a0, .int a1, .int a2, rx_no] [.int (-2 : Int32)] (rx_hp L t hi hl v) Q
    exact rx_aw_ret (pc := 11) rfl k
  · have k := k.2 c1
    show rx_aw 142 4 [.ref 1, .int a0, .int a1, .int a2, rx_no] [] (rx_hp L t hi hl v) Q
    refine rx_aw_s 3 (pc := 4) rfl ?_
    refine rx_w_if (c := a1 ≤ (2 : Int32)) ⟨fun c2 => ?_, fun c2 => ?_⟩
    · have k := k.1 c2
      show rx_aw 142 12 [.ref 1, .int a0, .int a1, .int a2, rx_no] [] (rx_hp L t hi hl v) Q
      refine rx_aw_s 3 (pc := 12) rfl ?_
      show rx_aw 142 17 [.ref 1, .int a0, .int a1, .int a2, rx_no] [.int a0, .ref 2] (rx_hp L t hi hl v) Q
      refine rx_w_callI (j := 143) (pc := 17) rfl rfl rfl rfl rfl ?_
      refine rx_aw.mono k (fun r h2 k => ?_)
      obtain ⟨z3, rfl, hi3, hl3, v3, rfl, k⟩ := k
      refine ⟨z3, rfl, ?_⟩
      show rx_aw 142 20 [.ref 1, .int a0, .int a1, .int a2, rx_no] [.int z3] (rx_hp L t hi3 hl3 v3) Q
      refine rx_aw_s 1 (pc := 20) rfl ?_
      refine rx_w_ifn (c := z3 = 0) ⟨fun c4 => ?_, fun c4 => ?_⟩
      · have k := k.1 c4
        show rx_aw 142 23 [.ref 1, .int a0, .int a1, .int a2, rx_no] [] (rx_hp L t hi3 hl3 v3) Q
        refine rx_aw_s 1 (pc := 23) rfl ?_
        show rx_aw 142 25 [.ref 1, .int a0, .int a1, .int a2, rx_no] [.int (-11 : Int32)] (rx_hp L t hi3 hl3 v3) Q
        exact rx_aw_ret (pc := 25) rfl k
      · have k := k.2 c4
        show rx_aw 142 26 [.ref 1, .int a0, .int a1, .int a2, rx_no] [] (rx_hp L t hi3 hl3 v3) Q
        refine rx_aw_s 3 (pc := 26) rfl ?_
        refine rx_w_ifn (c := a1 = (1 : Int32)) ⟨fun c5 => ?_, fun c5 => ?_⟩
        · have k := k.1 c5
          show rx_aw 142 31 [.ref 1, .int a0, .int a1, .int a2, rx_no] [] (rx_hp L t hi3 hl3 v3) Q
          refine rx_aw_s 7 (pc := 31) rfl ?_
          refine rx_w_if (c := a1 = 0) ⟨fun c6 => ?_, fun c6 => ?_⟩
          · have k := k.1 c6
            show rx_aw 142 67 [.ref 1, .int a0, .int a1, .int a2, .int (hi3 13 3)] [] (rx_hp L t hi3 hl3 v3) Q
            refine rx_aw_s 5 (pc := 67) rfl ?_
            show rx_aw 142 74 [.ref 1, .int a0, .int a1, .int a2, .int (hi3 13 3)] [.int a2, .int a1, .int a0, .ref 2] (rx_hp L t hi3 hl3 v3) Q
            refine rx_w_callI (j := 144) (pc := 74) rfl rfl rfl rfl rfl ?_
            refine rx_aw.mono k (fun r h2 k => ?_)
            obtain ⟨z7, rfl, hi7, hl7, v7, rfl, k⟩ := k
            refine ⟨z7, rfl, ?_⟩
            show rx_aw 142 77 [.ref 1, .int a0, .int a1, .int a2, .int (hi3 13 3)] [.int z7] (rx_hp L t hi7 hl7 v7) Q
            exact rx_aw_ret (pc := 77) rfl k
          · have k := k.2 c6
            show rx_aw 142 54 [.ref 1, .int a0, .int a1, .int a2, .int (hi3 13 3)] [] (rx_hp L t hi3 hl3 v3) Q
            refine rx_aw_s 2 (pc := 54) rfl ?_
            refine rx_w_if (c := a2 < 0) ⟨fun c8 => ?_, fun c8 => ?_⟩
            · have k := k.1 c8
              show rx_aw 142 64 [.ref 1, .int a0, .int a1, .int a2, .int (hi3 13 3)] [] (rx_hp L t hi3 hl3 v3) Q
              refine rx_aw_s 1 (pc := 64) rfl ?_
              show rx_aw 142 66 [.ref 1, .int a0, .int a1, .int a2, .int (hi3 13 3)] [.int (-10 : Int32)] (rx_hp L t hi3 hl3 v3) Q
              exact rx_aw_ret (pc := 66) rfl k
            · have k := k.2 c8
              show rx_aw 142 58 [.ref 1, .int a0, .int a1, .int a2, .int (hi3 13 3)] [] (rx_hp L t hi3 hl3 v3) Q
              refine rx_aw_s 3 (pc := 58) rfl ?_
              refine rx_w_if (c := a2 < (hi3 13 3)) ⟨fun c9 => ?_, fun c9 => ?_⟩
              · have k := k.1 c9
                show rx_aw 142 67 [.ref 1, .int a0, .int a1, .int a2, .int (hi3 13 3)] [] (rx_hp L t hi3 hl3 v3) Q
                refine rx_aw_s 5 (pc := 67) rfl ?_
                show rx_aw 142 74 [.ref 1, .int a0, .int a1, .int a2, .int (hi3 13 3)] [.int a2, .int a1, .int a0, .ref 2] (rx_hp L t hi3 hl3 v3) Q
                refine rx_w_callI (j := 144) (pc := 74) rfl rfl rfl rfl rfl ?_
                refine rx_aw.mono k (fun r h2 k => ?_)
                obtain ⟨z10, rfl, hi10, hl10, v10, rfl, k⟩ := k
                refine ⟨z10, rfl, ?_⟩
                show rx_aw 142 77 [.ref 1, .int a0, .int a1, .int a2, .int (hi3 13 3)] [.int z10] (rx_hp L t hi10 hl10 v10) Q
                exact rx_aw_ret (pc := 77) rfl k
              · have k := k.2 c9
                show rx_aw 142 64 [.ref 1, .int a0, .int a1, .int a2, .int (hi3 13 3)] [] (rx_hp L t hi3 hl3 v3) Q
                refine rx_aw_s 1 (pc := 64) rfl ?_
                show rx_aw 142 66 [.ref 1, .int a0, .int a1, .int a2, .int (hi3 13 3)] [.int (-10 : Int32)] (rx_hp L t hi3 hl3 v3) Q
                exact rx_aw_ret (pc := 66) rfl k
        · have k := k.2 c5
          show rx_aw 142 41 [.ref 1, .int a0, .int a1, .int a2, rx_no] [] (rx_hp L t hi3 hl3 v3) Q
          refine rx_aw_s 6 (pc := 41) rfl ?_
          refine rx_w_if (c := a1 = 0) ⟨fun c11 => ?_, fun c11 => ?_⟩
          · have k := k.1 c11
            show rx_aw 142 67 [.ref 1, .int a0, .int a1, .int a2, .int (hi3 13 4)] [] (rx_hp L t hi3 hl3 v3) Q
            refine rx_aw_s 5 (pc := 67) rfl ?_
            show rx_aw 142 74 [.ref 1, .int a0, .int a1, .int a2, .int (hi3 13 4)] [.int a2, .int a1, .int a0, .ref 2] (rx_hp L t hi3 hl3 v3) Q
            refine rx_w_callI (j := 144) (pc := 74) rfl rfl rfl rfl rfl ?_
            refine rx_aw.mono k (fun r h2 k => ?_)
            obtain ⟨z12, rfl, hi12, hl12, v12, rfl, k⟩ := k
            refine ⟨z12, rfl, ?_⟩
            show rx_aw 142 77 [.ref 1, .int a0, .int a1, .int a2, .int (hi3 13 4)] [.int z12] (rx_hp L t hi12 hl12 v12) Q
            exact rx_aw_ret (pc := 77) rfl k
          · have k := k.2 c11
            show rx_aw 142 54 [.ref 1, .int a0, .int a1, .int a2, .int (hi3 13 4)] [] (rx_hp L t hi3 hl3 v3) Q
            refine rx_aw_s 2 (pc := 54) rfl ?_
            refine rx_w_if (c := a2 < 0) ⟨fun c13 => ?_, fun c13 => ?_⟩
            · have k := k.1 c13
              show rx_aw 142 64 [.ref 1, .int a0, .int a1, .int a2, .int (hi3 13 4)] [] (rx_hp L t hi3 hl3 v3) Q
              refine rx_aw_s 1 (pc := 64) rfl ?_
              show rx_aw 142 66 [.ref 1, .int a0, .int a1, .int a2, .int (hi3 13 4)] [.int (-10 : Int32)] (rx_hp L t hi3 hl3 v3) Q
              exact rx_aw_ret (pc := 66) rfl k
            · have k := k.2 c13
              show rx_aw 142 58 [.ref 1, .int a0, .int a1, .int a2, .int (hi3 13 4)] [] (rx_hp L t hi3 hl3 v3) Q
              refine rx_aw_s 3 (pc := 58) rfl ?_
              refine rx_w_if (c := a2 < (hi3 13 4)) ⟨fun c14 => ?_, fun c14 => ?_⟩
              · have k := k.1 c14
                show rx_aw 142 67 [.ref 1, .int a0, .int a1, .int a2, .int (hi3 13 4)] [] (rx_hp L t hi3 hl3 v3) Q
                refine rx_aw_s 5 (pc := 67) rfl ?_
                show rx_aw 142 74 [.ref 1, .int a0, .int a1, .int a2, .int (hi3 13 4)] [.int a2, .int a1, .int a0, .ref 2] (rx_hp L t hi3 hl3 v3) Q
                refine rx_w_callI (j := 144) (pc := 74) rfl rfl rfl rfl rfl ?_
                refine rx_aw.mono k (fun r h2 k => ?_)
                obtain ⟨z15, rfl, hi15, hl15, v15, rfl, k⟩ := k
                refine ⟨z15, rfl, ?_⟩
                show rx_aw 142 77 [.ref 1, .int a0, .int a1, .int a2, .int (hi3 13 4)] [.int z15] (rx_hp L t hi15 hl15 v15) Q
                exact rx_aw_ret (pc := 77) rfl k
              · have k := k.2 c14
                show rx_aw 142 64 [.ref 1, .int a0, .int a1, .int a2, .int (hi3 13 4)] [] (rx_hp L t hi3 hl3 v3) Q
                refine rx_aw_s 1 (pc := 64) rfl ?_
                show rx_aw 142 66 [.ref 1, .int a0, .int a1, .int a2, .int (hi3 13 4)] [.int (-10 : Int32)] (rx_hp L t hi3 hl3 v3) Q
                exact rx_aw_ret (pc := 66) rfl k
    · have k := k.2 c2
      show rx_aw 142 9 [.ref 1, .int a0, .int a1, .int a2, rx_no] [] (rx_hp L t hi hl v) Q
      refine rx_aw_s 1 (pc := 9) rfl ?_
      show rx_aw 142 11 [.ref 1, .int a0, .int a1, .int a2, rx_no] [.int (-2 : Int32)] (rx_hp L t hi hl v) Q
      exact rx_aw_ret (pc := 11) rfl k
set_option maxRecDepth 100000 in
/-- CartFloor$Hooks.hasHook(I)Z -/
theorem w143_hasHook {L : Nat} {t : List (Nat × Nat)} {hi : Nat → Nat → Int32} {hl : Nat → Nat → Int64} {v : Nat → Nat → Option Nat} {Q : Option Value → rx_H → Prop} {a0 : Int32} (k : ((a0 < 0 → Q (some (.int (0 : Int32))) (rx_hp L t hi hl v)) ∧ (¬ (a0 < 0) → (((10 : Int32) ≤ a0 → Q (some (.int (0 : Int32))) (rx_hp L t hi hl v)) ∧ (¬ ((10 : Int32) ≤ a0) → Q (some (.int (1 : Int32))) (rx_hp L t hi hl v)))))) : rx_me 143 [.ref 2, .int a0] (rx_hp L t hi hl v) Q := by
  show rx_aw 143 0 [.ref 2, .int a0] [] (rx_hp L t hi hl v) Q
  refine rx_aw_s 2 (pc := 0) rfl ?_
  refine rx_w_if (c := a0 < 0) ⟨fun c1 => ?_, fun c1 => ?_⟩
  · have k := k.1 c1
    show rx_aw 143 14 [.ref 2, .int a0] [] (rx_hp L t hi hl v) Q
    refine rx_aw_s 1 (pc := 14) rfl ?_
    show rx_aw 143 15 [.ref 2, .int a0] [.int (0 : Int32)] (rx_hp L t hi hl v) Q
    exact rx_aw_ret (pc := 15) rfl k
  · have k := k.2 c1
    show rx_aw 143 4 [.ref 2, .int a0] [] (rx_hp L t hi hl v) Q
    refine rx_aw_s 3 (pc := 4) rfl ?_
    refine rx_w_if (c := (10 : Int32) ≤ a0) ⟨fun c2 => ?_, fun c2 => ?_⟩
    · have k := k.1 c2
      show rx_aw 143 14 [.ref 2, .int a0] [] (rx_hp L t hi hl v) Q
      refine rx_aw_s 1 (pc := 14) rfl ?_
      show rx_aw 143 15 [.ref 2, .int a0] [.int (0 : Int32)] (rx_hp L t hi hl v) Q
      exact rx_aw_ret (pc := 15) rfl k
    · have k := k.2 c2
      show rx_aw 143 10 [.ref 2, .int a0] [] (rx_hp L t hi hl v) Q
      refine rx_aw_s 2 (pc := 10) rfl ?_
      show rx_aw 143 15 [.ref 2, .int a0] [.int (1 : Int32)] (rx_hp L t hi hl v) Q
      exact rx_aw_ret (pc := 15) rfl k
set_option maxRecDepth 100000 in
/-- CartFloor$Hooks.put(III)I -/
theorem w144_put {L : Nat} {t : List (Nat × Nat)} {hi : Nat → Nat → Int32} {hl : Nat → Nat → Int64} {v : Nat → Nat → Option Nat} {Q : Option Value → rx_H → Prop} {a0 : Int32} {a1 : Int32} {a2 : Int32} (k : (∃ j1 : Nat, a0 = nI j1 ∧ j1 < 10 ∧ (∃ j2 : Nat, a0 = nI j2 ∧ j2 < 10 ∧ (∃ j3 : Nat, a0 = nI j3 ∧ j3 < 10 ∧ Q (some (.int (hi 3 j1))) (rx_hp L t (rx_u (rx_u hi 3 j2 a1) 4 j3 a2) hl v))))) : rx_me 144 [.ref 2, .int a0, .int a1, .int a2] (rx_hp L t hi hl v) Q := by
  show rx_aw 144 0 [.ref 2, .int a0, .int a1, .int a2, rx_no] [] (rx_hp L t hi hl v) Q
  refine rx_aw_s 3 (pc := 0) rfl ?_
  show rx_aw 144 5 [.ref 2, .int a0, .int a1, .int a2, rx_no] [.int a0, .ref 3] (rx_hp L t hi hl v) Q
  obtain ⟨j1, ej1, hj1, k⟩ := k
  refine rx_aw_iald (pc := 5) (n := 10) j1 ej1 rfl rfl rfl hj1 (by decide) ?_
  show rx_aw 144 6 [.ref 2, .int a0, .int a1, .int a2, rx_no] [.int (hi 3 j1)] (rx_hp L t hi hl v) Q
  refine rx_aw_s 5 (pc := 6) rfl ?_
  show rx_aw 144 14 [.ref 2, .int a0, .int a1, .int a2, .int (hi 3 j1)] [.int a1, .int a0, .ref 3] (rx_hp L t hi hl v) Q
  obtain ⟨j2, ej2, hj2, k⟩ := k
  refine rx_aw_iast (pc := 14) (n := 10) j2 ej2 rfl rfl (by decide) rfl hj2 (by decide) ?_
  show rx_aw 144 15 [.ref 2, .int a0, .int a1, .int a2, .int (hi 3 j1)] [] (rx_hp L t (rx_u hi 3 j2 a1) hl v) Q
  refine rx_aw_s 4 (pc := 15) rfl ?_
  show rx_aw 144 21 [.ref 2, .int a0, .int a1, .int a2, .int (hi 3 j1)] [.int a2, .int a0, .ref 4] (rx_hp L t (rx_u hi 3 j2 a1) hl v) Q
  obtain ⟨j3, ej3, hj3, k⟩ := k
  refine rx_aw_iast (pc := 21) (n := 10) j3 ej3 rfl rfl (by decide) rfl hj3 (by decide) ?_
  show rx_aw 144 22 [.ref 2, .int a0, .int a1, .int a2, .int (hi 3 j1)] [] (rx_hp L t (rx_u (rx_u hi 3 j2 a1) 4 j3 a2) hl v) Q
  refine rx_aw_s 1 (pc := 22) rfl ?_
  show rx_aw 144 24 [.ref 2, .int a0, .int a1, .int a2, .int (hi 3 j1)] [.int (hi 3 j1)] (rx_hp L t (rx_u (rx_u hi 3 j2 a1) 4 j3 a2) hl v) Q
  exact rx_aw_ret (pc := 24) rfl k
set_option maxRecDepth 100000 in
/-- CartFloor.take(II)I -/
theorem w145_take {L : Nat} {t : List (Nat × Nat)} {hi : Nat → Nat → Int32} {hl : Nat → Nat → Int64} {v : Nat → Nat → Option Nat} {Q : Option Value → rx_H → Prop} {a0 : Int32} {a1 : Int32} (k : ((a1 < 0 → Q (some (.int (-2 : Int32))) (rx_hp L t hi hl v)) ∧ (¬ (a1 < 0) → ((a1 ≤ (4 : Int32) → rx_me 143 [.ref 2, .int a0] (rx_hp L t hi hl v) (fun r h2 => ∃ z3 : Int32, r = some (.int z3) ∧ rx_ok2 L t h2 (fun hi3 hl3 v3 => ((z3 = 0 → Q (some (.int (-11 : Int32))) (rx_hp L t hi3 hl3 v3)) ∧ (¬ (z3 = 0) → (∃ j5 : Nat, a0 = nI j5 ∧ j5 < 10 ∧ (((hi3 3 j5) = 0 → Q (some (.int (-10 : Int32))) (rx_hp L t hi3 hl3 v3)) ∧ (¬ ((hi3 3 j5) = 0) → (∃ j7 : Nat, a0 = nI j7 ∧ j7 < 10 ∧ (((hi3 3 j7) = (1 : Int32) → (∃ j9 : Nat, a0 = nI j9 ∧ j9 < 10 ∧ rx_me 59 [.ref 13, .int (hi3 4 j9)] (rx_hp L t hi3 hl3 v3) (fun r h2 => ∃ z10 : Option Nat, r = some (va_rf z10) ∧ rx_ok2 L t h2 (fun hi10 hl10 v10 => (z10 = none ∧ ((a1 ≤ (3 : Int32) → Q (some (.int (-12 : Int32))) (rx_hp L t hi10 hl10 v10)) ∧ (¬ (a1 ≤ (3 : Int32)) → (∃ j12 : Nat, a0 = nI j12 ∧ j12 < 10 ∧ (((hi10 3 j12) = (2 : Int32) → (∃ j14 : Nat, a0 = nI j14 ∧ j14 < 10 ∧ Q (some (.int (hi10 4 j14))) (rx_hp L t hi10 hl10 v10))) ∧ (¬ ((hi10 3 j12) = (2 : Int32)) → Q (some (.int (-12 : Int32))) (rx_hp L t hi10 hl10 v10))))))) ∨ (∃ q10 : Nat, q10 < 6 ∧ z10 = some (rx_ct q10) ∧ ((a1 ≤ (3 : Int32) → (((hi10 (rx_ct q10) 5) < a1 → Q (some (.int (-12 : Int32))) (rx_hp L t hi10 hl10 v10)) ∧ (¬ ((hi10 (rx_ct q10) 5) < a1) → (∃ j17 : Nat, a0 = nI j17 ∧ j17 < 10 ∧ Q (some (.int (hi10 4 j17))) (rx_hp L t hi10 hl10 v10))))) ∧ (¬ (a1 ≤ (3 : Int32)) → (∃ j18 : Nat, a0 = nI j18 ∧ j18 < 10 ∧ (((hi10 3 j18) = (2 : Int32) → (∃ j20 : Nat, a0 = nI j20 ∧ j20 < 10 ∧ Q (some (.int (hi10 4 j20))) (rx_hp L t hi10 hl10 v10))) ∧ (¬ ((hi10 3 j18) = (2 : Int32)) → Q (some (.int (-12 : Int32))) (rx_hp L t hi10 hl10 v10))))))))))) ∧ (¬ ((hi3 3 j7) = (1 : Int32)) → ((a1 ≤ (3 : Int32) → Q (some (.int (-12 : Int32))) (rx_hp L t hi3 hl3 v3)) ∧ (¬ (a1 ≤ (3 : Int32)) → (∃ j22 : Nat, a0 = nI j22 ∧ j22 < 10 ∧ (((hi3 3 j22) = (2 : Int32) → (∃ j24 : Nat, a0 = nI j24 ∧ j24 < 10 ∧ Q (some (.int (hi3 4 j24))) (rx_hp L t hi3 hl3 v3))) ∧ (¬ ((hi3 3 j22) = (2 : Int32)) → Q (some (.int (-12 : Int32))) (rx_hp L t hi3 hl3 v3))))))))))))))))) ∧ (¬ (a1 ≤ (4 : Int32)) → Q (some (.int (-2 : Int32))) (rx_hp L t hi hl v)))))) : rx_me 145 [.ref 1, .int a0, .int a1] (rx_hp L t hi hl v) Q := by
  show rx_aw 145 0 [.ref 1, .int a0, .int a1, rx_no, rx_no] [] (rx_hp L t hi hl v) Q
  refine rx_aw_s 2 (pc := 0) rfl ?_
  refine rx_w_if (c := a1 < 0) ⟨fun c1 => ?_, fun c1 => ?_⟩
  · have k := k.1 c1
    show rx_aw 145 9 [.ref 1, .int a0, .int a1, rx_no, rx_no] [] (rx_hp L t hi hl v) Q
    refine rx_aw_s 1 (pc := 9) rfl ?_
    show rx_aw 145 11 [.ref 1, .int a0, .int a1, rx_no, rx_no] [.int (-2 : Int32)] (rx_hp L t hi hl v) Q
    exact rx_aw_ret (pc := 11) rfl k
  · have k := k.2 c1
    show rx_aw 145 4 [.ref 1, .int a0, .int a1, rx_no, rx_no] [] (rx_hp L t hi hl v) Q
    refine rx_aw_s 3 (pc := 4) rfl ?_
    refine rx_w_if (c := a1 ≤ (4 : Int32)) ⟨fun c2 => ?_, fun c2 => ?_⟩
    · have k := k.1 c2
      show rx_aw 145 12 [.ref 1, .int a0, .int a1, rx_no, rx_no] [] (rx_hp L t hi hl v) Q
      refine rx_aw_s 3 (pc := 12) rfl ?_
      show rx_aw 145 17 [.ref 1, .int a0, .int a1, rx_no, rx_no] [.int a0, .ref 2] (rx_hp L t hi hl v) Q
      refine rx_w_callI (j := 143) (pc := 17) rfl rfl rfl rfl rfl ?_
      refine rx_aw.mono k (fun r h2 k => ?_)
      obtain ⟨z3, rfl, hi3, hl3, v3, rfl, k⟩ := k
      refine ⟨z3, rfl, ?_⟩
      show rx_aw 145 20 [.ref 1, .int a0, .int a1, rx_no, rx_no] [.int z3] (rx_hp L t hi3 hl3 v3) Q
      refine rx_aw_s 1 (pc := 20) rfl ?_
      refine rx_w_ifn (c := z3 = 0) ⟨fun c4 => ?_, fun c4 => ?_⟩
      · have k := k.1 c4
        show rx_aw 145 23 [.ref 1, .int a0, .int a1, rx_no, rx_no] [] (rx_hp L t hi3 hl3 v3) Q
        refine rx_aw_s 1 (pc := 23) rfl ?_
        show rx_aw 145 25 [.ref 1, .int a0, .int a1, rx_no, rx_no] [.int (-11 : Int32)] (rx_hp L t hi3 hl3 v3) Q
        exact rx_aw_ret (pc := 25) rfl k
      · have k := k.2 c4
        show rx_aw 145 26 [.ref 1, .int a0, .int a1, rx_no, rx_no] [] (rx_hp L t hi3 hl3 v3) Q
        refine rx_aw_s 4 (pc := 26) rfl ?_
        show rx_aw 145 34 [.ref 1, .int a0, .int a1, rx_no, rx_no] [.int a0, .ref 3] (rx_hp L t hi3 hl3 v3) Q
        obtain ⟨j5, ej5, hj5, k⟩ := k
        refine rx_aw_iald (pc := 34) (n := 10) j5 ej5 rfl rfl rfl hj5 (by decide) ?_
        show rx_aw 145 35 [.ref 1, .int a0, .int a1, rx_no, rx_no] [.int (hi3 3 j5)] (rx_hp L t hi3 hl3 v3) Q
        refine rx_aw_s 1 (pc := 35) rfl ?_
        refine rx_w_ifn (c := (hi3 3 j5) = 0) ⟨fun c6 => ?_, fun c6 => ?_⟩
        · have k := k.1 c6
          show rx_aw 145 38 [.ref 1, .int a0, .int a1, rx_no, rx_no] [] (rx_hp L t hi3 hl3 v3) Q
          refine rx_aw_s 1 (pc := 38) rfl ?_
          show rx_aw 145 40 [.ref 1, .int a0, .int a1, rx_no, rx_no] [.int (-10 : Int32)] (rx_hp L t hi3 hl3 v3) Q
          exact rx_aw_ret (pc := 40) rfl k
        · have k := k.2 c6
          show rx_aw 145 41 [.ref 1, .int a0, .int a1, rx_no, rx_no] [] (rx_hp L t hi3 hl3 v3) Q
          refine rx_aw_s 4 (pc := 41) rfl ?_
          show rx_aw 145 49 [.ref 1, .int a0, .int a1, rx_no, rx_no] [.int a0, .ref 3] (rx_hp L t hi3 hl3 v3) Q
          obtain ⟨j7, ej7, hj7, k⟩ := k
          refine rx_aw_iald (pc := 49) (n := 10) j7 ej7 rfl rfl rfl hj7 (by decide) ?_
          show rx_aw 145 50 [.ref 1, .int a0, .int a1, rx_no, rx_no] [.int (hi3 3 j7)] (rx_hp L t hi3 hl3 v3) Q
          refine rx_aw_s 2 (pc := 50) rfl ?_
          refine rx_w_ifn (c := (hi3 3 j7) = (1 : Int32)) ⟨fun c8 => ?_, fun c8 => ?_⟩
          · have k := k.1 c8
            show rx_aw 145 54 [.ref 1, .int a0, .int a1, rx_no, rx_no] [] (rx_hp L t hi3 hl3 v3) Q
            refine rx_aw_s 6 (pc := 54) rfl ?_
            show rx_aw 145 66 [.ref 1, .int a0, .int a1, rx_no, rx_no] [.int a0, .ref 4, .ref 13] (rx_hp L t hi3 hl3 v3) Q
            obtain ⟨j9, ej9, hj9, k⟩ := k
            refine rx_aw_iald (pc := 66) (n := 10) j9 ej9 rfl rfl rfl hj9 (by decide) ?_
            show rx_aw 145 67 [.ref 1, .int a0, .int a1, rx_no, rx_no] [.int (hi3 4 j9), .ref 13] (rx_hp L t hi3 hl3 v3) Q
            refine rx_w_callR (j := 59) (pc := 67) rfl rfl rfl rfl rfl ?_
            refine rx_aw.mono k (fun r h2 k => ?_)
            obtain ⟨z10, rfl, hi10, hl10, v10, rfl, k⟩ := k
            refine ⟨z10, rfl, ?_⟩
            rcases k with ⟨rfl, k⟩ | ⟨q10, hq10, rfl, k⟩
            · show rx_aw 145 70 [.ref 1, .int a0, .int a1, rx_no, rx_no] [.null] (rx_hp L t hi10 hl10 v10) Q
              refine rx_aw_s 5 (pc := 70) rfl ?_
              refine rx_w_if (c := a1 ≤ (3 : Int32)) ⟨fun c11 => ?_, fun c11 => ?_⟩
              · have k := k.1 c11
                show rx_aw 145 101 [.ref 1, .int a0, .int a1, .null, rx_no] [] (rx_hp L t hi10 hl10 v10) Q
                refine rx_aw_s 7 (pc := 101) rfl ?_
                show rx_aw 145 139 [.ref 1, .int a0, .int a1, .null, .int (0 : Int32)] [.int (-12 : Int32)] (rx_hp L t hi10 hl10 v10) Q
                exact rx_aw_ret (pc := 139) rfl k
              · have k := k.2 c11
                show rx_aw 145 80 [.ref 1, .int a0, .int a1, .null, rx_no] [] (rx_hp L t hi10 hl10 v10) Q
                refine rx_aw_s 4 (pc := 80) rfl ?_
                show rx_aw 145 88 [.ref 1, .int a0, .int a1, .null, rx_no] [.int a0, .ref 3] (rx_hp L t hi10 hl10 v10) Q
                obtain ⟨j12, ej12, hj12, k⟩ := k
                refine rx_aw_iald (pc := 88) (n := 10) j12 ej12 rfl rfl rfl hj12 (by decide) ?_
                show rx_aw 145 89 [.ref 1, .int a0, .int a1, .null, rx_no] [.int (hi10 3 j12)] (rx_hp L t hi10 hl10 v10) Q
                refine rx_aw_s 2 (pc := 89) rfl ?_
                refine rx_w_ifn (c := (hi10 3 j12) = (2 : Int32)) ⟨fun c13 => ?_, fun c13 => ?_⟩
                · have k := k.1 c13
                  show rx_aw 145 93 [.ref 1, .int a0, .int a1, .null, rx_no] [] (rx_hp L t hi10 hl10 v10) Q
                  refine rx_aw_s 9 (pc := 93) rfl ?_
                  show rx_aw 145 133 [.ref 1, .int a0, .int a1, .null, .int (1 : Int32)] [.int a0, .ref 4] (rx_hp L t hi10 hl10 v10) Q
                  obtain ⟨j14, ej14, hj14, k⟩ := k
                  refine rx_aw_iald (pc := 133) (n := 10) j14 ej14 rfl rfl rfl hj14 (by decide) ?_
                  show rx_aw 145 134 [.ref 1, .int a0, .int a1, .null, .int (1 : Int32)] [.int (hi10 4 j14)] (rx_hp L t hi10 hl10 v10) Q
                  refine rx_aw_s 1 (pc := 134) rfl ?_
                  show rx_aw 145 139 [.ref 1, .int a0, .int a1, .null, .int (1 : Int32)] [.int (hi10 4 j14)] (rx_hp L t hi10 hl10 v10) Q
                  exact rx_aw_ret (pc := 139) rfl k
                · have k := k.2 c13
                  show rx_aw 145 97 [.ref 1, .int a0, .int a1, .null, rx_no] [] (rx_hp L t hi10 hl10 v10) Q
                  refine rx_aw_s 6 (pc := 97) rfl ?_
                  show rx_aw 145 139 [.ref 1, .int a0, .int a1, .null, .int (0 : Int32)] [.int (-12 : Int32)] (rx_hp L t hi10 hl10 v10) Q
                  exact rx_aw_ret (pc := 139) rfl k
            · show rx_aw 145 70 [.ref 1, .int a0, .int a1, rx_no, rx_no] [.ref (rx_ct q10)] (rx_hp L t hi10 hl10 v10) Q
              refine rx_aw_s 5 (pc := 70) rfl ?_
              refine rx_w_if (c := a1 ≤ (3 : Int32)) ⟨fun c15 => ?_, fun c15 => ?_⟩
              · have k := k.1 c15
                show rx_aw 145 101 [.ref 1, .int a0, .int a1, .ref (rx_ct q10), rx_no] [] (rx_hp L t hi10 hl10 v10) Q
                refine rx_aw_s 3 (pc := 101) rfl ?_
                show rx_aw 145 106 [.ref 1, .int a0, .int a1, .ref (rx_ct q10), rx_no] [.ref (rx_ct q10)] (rx_hp L t hi10 hl10 v10) Q
                refine rx_w_cg hq10 (pc := 106) rfl (by decide) (by decide) ?_
                show rx_aw 145 109 [.ref 1, .int a0, .int a1, .ref (rx_ct q10), rx_no] [.int (hi10 (rx_ct q10) 5)] (rx_hp L t hi10 hl10 v10) Q
                refine rx_aw_s 2 (pc := 109) rfl ?_
                refine rx_w_if (c := (hi10 (rx_ct q10) 5) < a1) ⟨fun c16 => ?_, fun c16 => ?_⟩
                · have k := k.1 c16
                  show rx_aw 145 117 [.ref 1, .int a0, .int a1, .ref (rx_ct q10), rx_no] [] (rx_hp L t hi10 hl10 v10) Q
                  refine rx_aw_s 5 (pc := 117) rfl ?_
                  show rx_aw 145 139 [.ref 1, .int a0, .int a1, .ref (rx_ct q10), .int (0 : Int32)] [.int (-12 : Int32)] (rx_hp L t hi10 hl10 v10) Q
                  exact rx_aw_ret (pc := 139) rfl k
                · have k := k.2 c16
                  show rx_aw 145 113 [.ref 1, .int a0, .int a1, .ref (rx_ct q10), rx_no] [] (rx_hp L t hi10 hl10 v10) Q
                  refine rx_aw_s 9 (pc := 113) rfl ?_
                  show rx_aw 145 133 [.ref 1, .int a0, .int a1, .ref (rx_ct q10), .int (1 : Int32)] [.int a0, .ref 4] (rx_hp L t hi10 hl10 v10) Q
                  obtain ⟨j17, ej17, hj17, k⟩ := k
                  refine rx_aw_iald (pc := 133) (n := 10) j17 ej17 rfl rfl rfl hj17 (by decide) ?_
                  show rx_aw 145 134 [.ref 1, .int a0, .int a1, .ref (rx_ct q10), .int (1 : Int32)] [.int (hi10 4 j17)] (rx_hp L t hi10 hl10 v10) Q
                  refine rx_aw_s 1 (pc := 134) rfl ?_
                  show rx_aw 145 139 [.ref 1, .int a0, .int a1, .ref (rx_ct q10), .int (1 : Int32)] [.int (hi10 4 j17)] (rx_hp L t hi10 hl10 v10) Q
                  exact rx_aw_ret (pc := 139) rfl k
              · have k := k.2 c15
                show rx_aw 145 80 [.ref 1, .int a0, .int a1, .ref (rx_ct q10), rx_no] [] (rx_hp L t hi10 hl10 v10) Q
                refine rx_aw_s 4 (pc := 80) rfl ?_
                show rx_aw 145 88 [.ref 1, .int a0, .int a1, .ref (rx_ct q10), rx_no] [.int a0, .ref 3] (rx_hp L t hi10 hl10 v10) Q
                obtain ⟨j18, ej18, hj18, k⟩ := k
                refine rx_aw_iald (pc := 88) (n := 10) j18 ej18 rfl rfl rfl hj18 (by decide) ?_
                show rx_aw 145 89 [.ref 1, .int a0, .int a1, .ref (rx_ct q10), rx_no] [.int (hi10 3 j18)] (rx_hp L t hi10 hl10 v10) Q
                refine rx_aw_s 2 (pc := 89) rfl ?_
                refine rx_w_ifn (c := (hi10 3 j18) = (2 : Int32)) ⟨fun c19 => ?_, fun c19 => ?_⟩
                · have k := k.1 c19
                  show rx_aw 145 93 [.ref 1, .int a0, .int a1, .ref (rx_ct q10), rx_no] [] (rx_hp L t hi10 hl10 v10) Q
                  refine rx_aw_s 9 (pc := 93) rfl ?_
                  show rx_aw 145 133 [.ref 1, .int a0, .int a1, .ref (rx_ct q10), .int (1 : Int32)] [.int a0, .ref 4] (rx_hp L t hi10 hl10 v10) Q
                  obtain ⟨j20, ej20, hj20, k⟩ := k
                  refine rx_aw_iald (pc := 133) (n := 10) j20 ej20 rfl rfl rfl hj20 (by decide) ?_
                  show rx_aw 145 134 [.ref 1, .int a0, .int a1, .ref (rx_ct q10), .int (1 : Int32)] [.int (hi10 4 j20)] (rx_hp L t hi10 hl10 v10) Q
                  refine rx_aw_s 1 (pc := 134) rfl ?_
                  show rx_aw 145 139 [.ref 1, .int a0, .int a1, .ref (rx_ct q10), .int (1 : Int32)] [.int (hi10 4 j20)] (rx_hp L t hi10 hl10 v10) Q
                  exact rx_aw_ret (pc := 139) rfl k
                · have k := k.2 c19
                  show rx_aw 145 97 [.ref 1, .int a0, .int a1, .ref (rx_ct q10), rx_no] [] (rx_hp L t hi10 hl10 v10) Q
                  refine rx_aw_s 6 (pc := 97) rfl ?_
                  show rx_aw 145 139 [.ref 1, .int a0, .int a1, .ref (rx_ct q10), .int (0 : Int32)] [.int (-12 : Int32)] (rx_hp L t hi10 hl10 v10) Q
                  exact rx_aw_ret (pc := 139) rfl k
          · have k := k.2 c8
            show rx_aw 145 73 [.ref 1, .int a0, .int a1, rx_no, rx_no] [] (rx_hp L t hi3 hl3 v3) Q
            refine rx_aw_s 5 (pc := 73) rfl ?_
            refine rx_w_if (c := a1 ≤ (3 : Int32)) ⟨fun c21 => ?_, fun c21 => ?_⟩
            · have k := k.1 c21
              show rx_aw 145 101 [.ref 1, .int a0, .int a1, .null, rx_no] [] (rx_hp L t hi3 hl3 v3) Q
              refine rx_aw_s 7 (pc := 101) rfl ?_
              show rx_aw 145 139 [.ref 1, .int a0, .int a1, .null, .int (0 : Int32)] [.int (-12 : Int32)] (rx_hp L t hi3 hl3 v3) Q
              exact rx_aw_ret (pc := 139) rfl k
            · have k := k.2 c21
              show rx_aw 145 80 [.ref 1, .int a0, .int a1, .null, rx_no] [] (rx_hp L t hi3 hl3 v3) Q
              refine rx_aw_s 4 (pc := 80) rfl ?_
              show rx_aw 145 88 [.ref 1, .int a0, .int a1, .null, rx_no] [.int a0, .ref 3] (rx_hp L t hi3 hl3 v3) Q
              obtain ⟨j22, ej22, hj22, k⟩ := k
              refine rx_aw_iald (pc := 88) (n := 10) j22 ej22 rfl rfl rfl hj22 (by decide) ?_
              show rx_aw 145 89 [.ref 1, .int a0, .int a1, .null, rx_no] [.int (hi3 3 j22)] (rx_hp L t hi3 hl3 v3) Q
              refine rx_aw_s 2 (pc := 89) rfl ?_
              refine rx_w_ifn (c := (hi3 3 j22) = (2 : Int32)) ⟨fun c23 => ?_, fun c23 => ?_⟩
              · have k := k.1 c23
                show rx_aw 145 93 [.ref 1, .int a0, .int a1, .null, rx_no] [] (rx_hp L t hi3 hl3 v3) Q
                refine rx_aw_s 9 (pc := 93) rfl ?_
                show rx_aw 145 133 [.ref 1, .int a0, .int a1, .null, .int (1 : Int32)] [.int a0, .ref 4] (rx_hp L t hi3 hl3 v3) Q
                obtain ⟨j24, ej24, hj24, k⟩ := k
                refine rx_aw_iald (pc := 133) (n := 10) j24 ej24 rfl rfl rfl hj24 (by decide) ?_
                show rx_aw 145 134 [.ref 1, .int a0, .int a1, .null, .int (1 : Int32)] [.int (hi3 4 j24)] (rx_hp L t hi3 hl3 v3) Q
                refine rx_aw_s 1 (pc := 134) rfl ?_
                show rx_aw 145 139 [.ref 1, .int a0, .int a1, .null, .int (1 : Int32)] [.int (hi3 4 j24)] (rx_hp L t hi3 hl3 v3) Q
                exact rx_aw_ret (pc := 139) rfl k
              · have k := k.2 c23
                show rx_aw 145 97 [.ref 1, .int a0, .int a1, .null, rx_no] [] (rx_hp L t hi3 hl3 v3) Q
                refine rx_aw_s 6 (pc := 97) rfl ?_
                show rx_aw 145 139 [.ref 1, .int a0, .int a1, .null, .int (0 : Int32)] [.int (-12 : Int32)] (rx_hp L t hi3 hl3 v3) Q
                exact rx_aw_ret (pc := 139) rfl k
    · have k := k.2 c2
      show rx_aw 145 9 [.ref 1, .int a0, .int a1, rx_no, rx_no] [] (rx_hp L t hi hl v) Q
      refine rx_aw_s 1 (pc := 9) rfl ?_
      show rx_aw 145 11 [.ref 1, .int a0, .int a1, rx_no, rx_no] [.int (-2 : Int32)] (rx_hp L t hi hl v) Q
      exact rx_aw_ret (pc := 11) rfl k
