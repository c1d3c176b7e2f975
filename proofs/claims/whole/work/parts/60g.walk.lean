/-! Methods walked by program (gen/wp.py): what is left to show of each. -/
set_option maxRecDepth 100000 in
/-- CartFloorModel.next(II)V -/
theorem w193_next_r {L : Nat} {t : List (Nat × Nat)} {hi : Nat → Nat → Int32} {hl : Nat → Nat → Int64} {v : Nat → Nat → Option Nat} {Q : Option Value → rx_H → Prop} {a0 : Int32} {a1 : Int32} (k : rx_me 194 [.ref 90, .int a0, .int a1] (rx_hp L t hi hl v) (fun r h2 => ∃ z1 : Int32, r = some (.int z1) ∧ rx_ok2 L t h2 (fun hi1 hl1 v1 => (∃ j2 : Nat, (((402 : Int32) * a0) + a1) = nI j2 ∧ j2 < 2412 ∧ (∃ j3 : Nat, (((402 : Int32) * a0) + a1) = nI j3 ∧ j3 < 2412 ∧ (∃ j4 : Nat, (((402 : Int32) * a0) + a1) = nI j4 ∧ j4 < 2412 ∧ ((z1 = (5 : Int32) → (∃ j6 : Nat, a0 = nI j6 ∧ j6 < 6 ∧ (((hi1 93 j6) = (1 : Int32) → ((0 ≤ (hi1 103 j2) → (∃ j9 : Nat, (((402 : Int32) * a0) + a1) = nI j9 ∧ j9 < 2412 ∧ (∃ j10 : Nat, ((((402 : Int32) * a0) + a1) + (1 : Int32)) = nI j10 ∧ j10 < 2412 ∧ (∃ j11 : Nat, ((((402 : Int32) * a0) + a1) + (1 : Int32)) = nI j11 ∧ j11 < 2412 ∧ (∃ j12 : Nat, ((((402 : Int32) * a0) + a1) + (1 : Int32)) = nI j12 ∧ j12 < 2412 ∧ Q none (rx_hp L t (rx_u (rx_u (rx_u (rx_u hi1 104 j9 (vp_nar .boolean (0 : Int32))) 101 j10 (hi1 101 j3)) 102 j11 (hi1 102 j4)) 103 j12 (hi1 103 j2)) hl1 v1)))))) ∧ (¬ (0 ≤ (hi1 103 j2)) → rx_me 195 [.ref 90, .int (hi1 101 j3), .int a1] (rx_hp L t hi1 hl1 v1) (fun r h2 => ∃ z13 : Int32, r = some (.int z13) ∧ rx_ok2 L t h2 (fun hi13 hl13 v13 => ((z13 < 0 → (∃ j15 : Nat, (((402 : Int32) * a0) + a1) = nI j15 ∧ j15 < 2412 ∧ (∃ j16 : Nat, ((((402 : Int32) * a0) + a1) + (1 : Int32)) = nI j16 ∧ j16 < 2412 ∧ (∃ j17 : Nat, ((((402 : Int32) * a0) + a1) + (1 : Int32)) = nI j17 ∧ j17 < 2412 ∧ (∃ j18 : Nat, ((((402 : Int32) * a0) + a1) + (1 : Int32)) = nI j18 ∧ j18 < 2412 ∧ Q none (rx_hp L t (rx_u (rx_u (rx_u (rx_u hi13 104 j15 (vp_nar .boolean (0 : Int32))) 101 j16 (hi1 101 j3)) 102 j17 (hi1 102 j4)) 103 j18 (hi1 103 j2)) hl13 v13)))))) ∧ (¬ (z13 < 0) → ((a0 = (hi13 90 35) → (((((hi13 90 36) >>> (z13 &&& 31)) &&& (1 : Int32)) = 0 → (∃ j21 : Nat, (((402 : Int32) * a0) + a1) = nI j21 ∧ j21 < 2412 ∧ (∃ j22 : Nat, ((((402 : Int32) * a0) + a1) + (1 : Int32)) = nI j22 ∧ j22 < 2412 ∧ (∃ j23 : Nat, ((((402 : Int32) * a0) + a1) + (1 : Int32)) = nI j23 ∧ j23 < 2412 ∧ (∃ j24 : Nat, ((((402 : Int32) * a0) + a1) + (1 : Int32)) = nI j24 ∧ j24 < 2412 ∧ Q none (rx_hp L t (rx_u (rx_u (rx_u (rx_u hi13 104 j21 (vp_nar .boolean (1 : Int32))) 101 j22 (hi1 101 j3)) 102 j23 (hi1 102 j4)) 103 j24 z13) hl13 v13)))))) ∧ (¬ ((((hi13 90 36) >>> (z13 &&& 31)) &&& (1 : Int32)) = 0) → (∃ j25 : Nat, (((402 : Int32) * a0) + a1) = nI j25 ∧ j25 < 2412 ∧ (∃ j26 : Nat, ((((402 : Int32) * a0) + a1) + (1 : Int32)) = nI j26 ∧ j26 < 2412 ∧ (∃ j27 : Nat, ((((402 : Int32) * a0) + a1) + (1 : Int32)) = nI j27 ∧ j27 < 2412 ∧ (∃ j28 : Nat, ((((402 : Int32) * a0) + a1) + (1 : Int32)) = nI j28 ∧ j28 < 2412 ∧ Q none (rx_hp L t (rx_u (rx_u (rx_u (rx_u hi13 104 j25 (vp_nar .boolean (0 : Int32))) 101 j26 (hi1 101 j3)) 102 j27 (hi1 102 j4)) 103 j28 (hi1 103 j2)) hl13 v13)))))))) ∧ (¬ (a0 = (hi13 90 35)) → (∃ j29 : Nat, (((402 : Int32) * a0) + a1) = nI j29 ∧ j29 < 2412 ∧ (∃ j30 : Nat, ((((402 : Int32) * a0) + a1) + (1 : Int32)) = nI j30 ∧ j30 < 2412 ∧ (∃ j31 : Nat, ((((402 : Int32) * a0) + a1) + (1 : Int32)) = nI j31 ∧ j31 < 2412 ∧ (∃ j32 : Nat, ((((402 : Int32) * a0) + a1) + (1 : Int32)) = nI j32 ∧ j32 < 2412 ∧ Q none (rx_hp L t (rx_u (rx_u (rx_u (rx_u hi13 104 j29 (vp_nar .boolean (1 : Int32))) 101 j30 (hi1 101 j3)) 102 j31 (hi1 102 j4)) 103 j32 z13) hl13 v13)))))))))))))) ∧ (¬ ((hi1 93 j6) = (1 : Int32)) → (∃ j33 : Nat, (((402 : Int32) * a0) + a1) = nI j33 ∧ j33 < 2412 ∧ (∃ j34 : Nat, ((((402 : Int32) * a0) + a1) + (1 : Int32)) = nI j34 ∧ j34 < 2412 ∧ (∃ j35 : Nat, ((((402 : Int32) * a0) + a1) + (1 : Int32)) = nI j35 ∧ j35 < 2412 ∧ (∃ j36 : Nat, ((((402 : Int32) * a0) + a1) + (1 : Int32)) = nI j36 ∧ j36 < 2412 ∧ Q none (rx_hp L t (rx_u (rx_u (rx_u (rx_u hi1 104 j33 (vp_nar .boolean (0 : Int32))) 101 j34 (hi1 101 j3)) 102 j35 (hi1 102 j4)) 103 j36 (hi1 103 j2)) hl1 v1))))))))) ∧ (¬ (z1 = (5 : Int32)) → ((z1 = (6 : Int32) → (∃ j38 : Nat, a0 = nI j38 ∧ j38 < 6 ∧ (((hi1 93 j38) = (1 : Int32) → (((hi1 103 j2) < 0 → (∃ j41 : Nat, (((402 : Int32) * a0) + a1) = nI j41 ∧ j41 < 2412 ∧ (∃ j42 : Nat, ((((402 : Int32) * a0) + a1) + (1 : Int32)) = nI j42 ∧ j42 < 2412 ∧ (∃ j43 : Nat, ((((402 : Int32) * a0) + a1) + (1 : Int32)) = nI j43 ∧ j43 < 2412 ∧ (∃ j44 : Nat, ((((402 : Int32) * a0) + a1) + (1 : Int32)) = nI j44 ∧ j44 < 2412 ∧ Q none (rx_hp L t (rx_u (rx_u (rx_u (rx_u hi1 104 j41 (vp_nar .boolean (0 : Int32))) 101 j42 (hi1 101 j3)) 102 j43 (hi1 102 j4)) 103 j44 (hi1 103 j2)) hl1 v1)))))) ∧ (¬ ((hi1 103 j2) < 0) → (∃ j45 : Nat, (hi1 101 j3) = nI j45 ∧ j45 < 64 ∧ (((hi1 91 j45) = (2 : Int32) → (∃ j47 : Nat, (((402 : Int32) * a0) + a1) = nI j47 ∧ j47 < 2412 ∧ (∃ j48 : Nat, ((((402 : Int32) * a0) + a1) + (1 : Int32)) = nI j48 ∧ j48 < 2412 ∧ (∃ j49 : Nat, ((((402 : Int32) * a0) + a1) + (1 : Int32)) = nI j49 ∧ j49 < 2412 ∧ (∃ j50 : Nat, ((((402 : Int32) * a0) + a1) + (1 : Int32)) = nI j50 ∧ j50 < 2412 ∧ Q none (rx_hp L t (rx_u (rx_u (rx_u (rx_u hi1 104 j47 (vp_nar .boolean (1 : Int32))) 101 j48 (hi1 101 j3)) 102 j49 (hi1 102 j4)) 103 j50 (-1 : Int32)) hl1 v1)))))) ∧ (¬ ((hi1 91 j45) = (2 : Int32)) → (∃ j51 : Nat, (((402 : Int32) * a0) + a1) = nI j51 ∧ j51 < 2412 ∧ (∃ j52 : Nat, ((((402 : Int32) * a0) + a1) + (1 : Int32)) = nI j52 ∧ j52 < 2412 ∧ (∃ j53 : Nat, ((((402 : Int32) * a0) + a1) + (1 : Int32)) = nI j53 ∧ j53 < 2412 ∧ (∃ j54 : Nat, ((((402 : Int32) * a0) + a1) + (1 : Int32)) = nI j54 ∧ j54 < 2412 ∧ Q none (rx_hp L t (rx_u (rx_u (rx_u (rx_u hi1 104 j51 (vp_nar .boolean (0 : Int32))) 101 j52 (hi1 101 j3)) 102 j53 (hi1 102 j4)) 103 j54 (hi1 103 j2)) hl1 v1))))))))))) ∧ (¬ ((hi1 93 j38) = (1 : Int32)) → (∃ j55 : Nat, (((402 : Int32) * a0) + a1) = nI j55 ∧ j55 < 2412 ∧ (∃ j56 : Nat, ((((402 : Int32) * a0) + a1) + (1 : Int32)) = nI j56 ∧ j56 < 2412 ∧ (∃ j57 : Nat, ((((402 : Int32) * a0) + a1) + (1 : Int32)) = nI j57 ∧ j57 < 2412 ∧ (∃ j58 : Nat, ((((402 : Int32) * a0) + a1) + (1 : Int32)) = nI j58 ∧ j58 < 2412 ∧ Q none (rx_hp L t (rx_u (rx_u (rx_u (rx_u hi1 104 j55 (vp_nar .boolean (0 : Int32))) 101 j56 (hi1 101 j3)) 102 j57 (hi1 102 j4)) 103 j58 (hi1 103 j2)) hl1 v1))))))))) ∧ (¬ (z1 = (6 : Int32)) → (∃ j59 : Nat, a0 = nI j59 ∧ j59 < 6 ∧ rx_me 184 [.ref 90, .int (hi1 93 j59), .int (hi1 101 j3), .int (hi1 102 j4), .int z1] (rx_hp L t hi1 hl1 v1) (fun r h2 => ∃ z60 : Int32, r = some (.int z60) ∧ rx_ok2 L t h2 (fun hi60 hl60 v60 => ((z60 = 0 → ((z60 = 0 → (∃ j63 : Nat, (((402 : Int32) * a0) + a1) = nI j63 ∧ j63 < 2412 ∧ (∃ j64 : Nat, ((((402 : Int32) * a0) + a1) + (1 : Int32)) = nI j64 ∧ j64 < 2412 ∧ (∃ j65 : Nat, ((((402 : Int32) * a0) + a1) + (1 : Int32)) = nI j65 ∧ j65 < 2412 ∧ (∃ j66 : Nat, ((((402 : Int32) * a0) + a1) + (1 : Int32)) = nI j66 ∧ j66 < 2412 ∧ Q none (rx_hp L t (rx_u (rx_u (rx_u (rx_u hi60 104 j63 (vp_nar .boolean z60)) 101 j64 (hi1 101 j3)) 102 j65 (hi1 102 j4)) 103 j66 (hi1 103 j2)) hl60 v60)))))) ∧ (¬ (z60 = 0) → (∃ j67 : Nat, (((402 : Int32) * a0) + a1) = nI j67 ∧ j67 < 2412 ∧ (∃ j68 : Nat, ((((402 : Int32) * a0) + a1) + (1 : Int32)) = nI j68 ∧ j68 < 2412 ∧ (∃ j69 : Nat, ((((402 : Int32) * a0) + a1) + (1 : Int32)) = nI j69 ∧ j69 < 2412 ∧ (∃ j70 : Nat, ((((402 : Int32) * a0) + a1) + (1 : Int32)) = nI j70 ∧ j70 < 2412 ∧ Q none (rx_hp L t (rx_u (rx_u (rx_u (rx_u hi60 104 j67 (vp_nar .boolean z60)) 101 j68 (hi1 101 j3)) 102 j69 (hi60 90 34)) 103 j70 (hi1 103 j2)) hl60 v60)))))))) ∧ (¬ (z60 = 0) → ((z60 = 0 → (∃ j72 : Nat, (((402 : Int32) * a0) + a1) = nI j72 ∧ j72 < 2412 ∧ (∃ j73 : Nat, ((((402 : Int32) * a0) + a1) + (1 : Int32)) = nI j73 ∧ j73 < 2412 ∧ (∃ j74 : Nat, ((((402 : Int32) * a0) + a1) + (1 : Int32)) = nI j74 ∧ j74 < 2412 ∧ (∃ j75 : Nat, ((((402 : Int32) * a0) + a1) + (1 : Int32)) = nI j75 ∧ j75 < 2412 ∧ Q none (rx_hp L t (rx_u (rx_u (rx_u (rx_u hi60 104 j72 (vp_nar .boolean z60)) 101 j73 (hi60 90 33)) 102 j74 (hi1 102 j4)) 103 j75 (hi1 103 j2)) hl60 v60)))))) ∧ (¬ (z60 = 0) → (∃ j76 : Nat, (((402 : Int32) * a0) + a1) = nI j76 ∧ j76 < 2412 ∧ (∃ j77 : Nat, ((((402 : Int32) * a0) + a1) + (1 : Int32)) = nI j77 ∧ j77 < 2412 ∧ (∃ j78 : Nat, ((((402 : Int32) * a0) + a1) + (1 : Int32)) = nI j78 ∧ j78 < 2412 ∧ (∃ j79 : Nat, ((((402 : Int32) * a0) + a1) + (1 : Int32)) = nI j79 ∧ j79 < 2412 ∧ Q none (rx_hp L t (rx_u (rx_u (rx_u (rx_u hi60 104 j76 (vp_nar .boolean z60)) 101 j77 (hi60 90 33)) 102 j78 (hi60 90 34)) 103 j79 (hi1 103 j2)) hl60 v60)))))))))))))))))))))) : rx_me 193 [.ref 90, .int a0, .int a1] (rx_hp L t hi hl v) Q := by
  show rx_aw 193 0 [.ref 90, .int a0, .int a1, rx_no, rx_no, rx_no, rx_no, rx_no, rx_no, rx_no] [] (rx_hp L t hi hl v) Q
  refine rx_aw_s 9 (pc := 0) rfl ?_
  show rx_aw 193 11 [.ref 90, .int a0, .int a1, .int (((402 : Int32) * a0) + a1), rx_no, rx_no, rx_no, rx_no, rx_no, rx_no] [.int a1, .int a0, .ref 90] (rx_hp L t hi hl v) Q
  refine rx_w_callI (j := 194) (pc := 11) rfl rfl rfl rfl rfl ?_
  refine rx_aw.mono k (fun r h2 k => ?_)
  obtain ⟨z1, rfl, hi1, hl1, v1, rfl, k⟩ := k
  refine ⟨z1, rfl, ?_⟩
  show rx_aw 193 14 [.ref 90, .int a0, .int a1, .int (((402 : Int32) * a0) + a1), rx_no, rx_no, rx_no, rx_no, rx_no, rx_no] [.int z1] (rx_hp L t hi1 hl1 v1) Q
  refine rx_aw_s 4 (pc := 14) rfl ?_
  show rx_aw 193 21 [.ref 90, .int a0, .int a1, .int (((402 : Int32) * a0) + a1), .int z1, rx_no, rx_no, rx_no, rx_no, rx_no] [.int (((402 : Int32) * a0) + a1), .ref 103] (rx_hp L t hi1 hl1 v1) Q
  obtain ⟨j2, ej2, hj2, k⟩ := k
  refine rx_aw_iald (pc := 21) (n := 2412) j2 ej2 rfl rfl rfl hj2 (by decide) ?_
  show rx_aw 193 22 [.ref 90, .int a0, .int a1, .int (((402 : Int32) * a0) + a1), .int z1, rx_no, rx_no, rx_no, rx_no, rx_no] [.int (hi1 103 j2)] (rx_hp L t hi1 hl1 v1) Q
  refine rx_aw_s 4 (pc := 22) rfl ?_
  show rx_aw 193 29 [.ref 90, .int a0, .int a1, .int (((402 : Int32) * a0) + a1), .int z1, .int (hi1 103 j2), rx_no, rx_no, rx_no, rx_no] [.int (((402 : Int32) * a0) + a1), .ref 101] (rx_hp L t hi1 hl1 v1) Q
  obtain ⟨j3, ej3, hj3, k⟩ := k
  refine rx_aw_iald (pc := 29) (n := 2412) j3 ej3 rfl rfl rfl hj3 (by decide) ?_
  show rx_aw 193 30 [.ref 90, .int a0, .int a1, .int (((402 : Int32) * a0) + a1), .int z1, .int (hi1 103 j2), rx_no, rx_no, rx_no, rx_no] [.int (hi1 101 j3)] (rx_hp L t hi1 hl1 v1) Q
  refine rx_aw_s 4 (pc := 30) rfl ?_
  show rx_aw 193 37 [.ref 90, .int a0, .int a1, .int (((402 : Int32) * a0) + a1), .int z1, .int (hi1 103 j2), .int (hi1 101 j3), rx_no, rx_no, rx_no] [.int (((402 : Int32) * a0) + a1), .ref 102] (rx_hp L t hi1 hl1 v1) Q
  obtain ⟨j4, ej4, hj4, k⟩ := k
  refine rx_aw_iald (pc := 37) (n := 2412) j4 ej4 rfl rfl rfl hj4 (by decide) ?_
  show rx_aw 193 38 [.ref 90, .int a0, .int a1, .int (((402 : Int32) * a0) + a1), .int z1, .int (hi1 103 j2), .int (hi1 101 j3), rx_no, rx_no, rx_no] [.int (hi1 102 j4)] (rx_hp L t hi1 hl1 v1) Q
  refine rx_aw_s 6 (pc := 38) rfl ?_
  refine rx_w_ifn (c := z1 = (5 : Int32)) ⟨fun c5 => ?_, fun c5 => ?_⟩
  · have k := k.1 c5
    show rx_aw 193 49 [.ref 90, .int a0, .int a1, .int (((402 : Int32) * a0) + a1), .int z1, .int (hi1 103 j2), .int (hi1 101 j3), .int (hi1 102 j4), .int (1 : Int32), rx_no] [] (rx_hp L t hi1 hl1 v1) Q
    refine rx_aw_s 3 (pc := 49) rfl ?_
    show rx_aw 193 54 [.ref 90, .int a0, .int a1, .int (((402 : Int32) * a0) + a1), .int z1, .int (hi1 103 j2), .int (hi1 101 j3), .int (hi1 102 j4), .int (1 : Int32), rx_no] [.int a0, .ref 93] (rx_hp L t hi1 hl1 v1) Q
    obtain ⟨j6, ej6, hj6, k⟩ := k
    refine rx_aw_iald (pc := 54) (n := 6) j6 ej6 rfl rfl rfl hj6 (by decide) ?_
    show rx_aw 193 55 [.ref 90, .int a0, .int a1, .int (((402 : Int32) * a0) + a1), .int z1, .int (hi1 103 j2), .int (hi1 101 j3), .int (hi1 102 j4), .int (1 : Int32), rx_no] [.int (hi1 93 j6)] (rx_hp L t hi1 hl1 v1) Q
    refine rx_aw_s 2 (pc := 55) rfl ?_
    refine rx_w_ifn (c := (hi1 93 j6) = (1 : Int32)) ⟨fun c7 => ?_, fun c7 => ?_⟩
    · have k := k.1 c7
      show rx_aw 193 59 [.ref 90, .int a0, .int a1, .int (((402 : Int32) * a0) + a1), .int z1, .int (hi1 103 j2), .int (hi1 101 j3), .int (hi1 102 j4), .int (1 : Int32), rx_no] [] (rx_hp L t hi1 hl1 v1) Q
      refine rx_aw_s 2 (pc := 59) rfl ?_
      refine rx_w_if (c := 0 ≤ (hi1 103 j2)) ⟨fun c8 => ?_, fun c8 => ?_⟩
      · have k := k.1 c8
        show rx_aw 193 74 [.ref 90, .int a0, .int a1, .int (((402 : Int32) * a0) + a1), .int z1, .int (hi1 103 j2), .int (hi1 101 j3), .int (hi1 102 j4), .int (1 : Int32), rx_no] [] (rx_hp L t hi1 hl1 v1) Q
        refine rx_aw_s 15 (pc := 74) rfl ?_
        show rx_aw 193 239 [.ref 90, .int a0, .int a1, .int (((402 : Int32) * a0) + a1), .int z1, .int (hi1 103 j2), .int (hi1 101 j3), .int (hi1 102 j4), .int (0 : Int32), .int (-1 : Int32)] [.int (0 : Int32), .int (((402 : Int32) * a0) + a1), .ref 104] (rx_hp L t hi1 hl1 v1) Q
        obtain ⟨j9, ej9, hj9, k⟩ := k
        refine rx_aw_zast (pc := 239) (n := 2412) j9 ej9 rfl rfl (by decide) rfl hj9 (by decide) ?_
        show rx_aw 193 240 [.ref 90, .int a0, .int a1, .int (((402 : Int32) * a0) + a1), .int z1, .int (hi1 103 j2), .int (hi1 101 j3), .int (hi1 102 j4), .int (0 : Int32), .int (-1 : Int32)] [] (rx_hp L t (rx_u hi1 104 j9 (vp_nar .boolean (0 : Int32))) hl1 v1) Q
        refine rx_aw_s 6 (pc := 240) rfl ?_
        show rx_aw 193 249 [.ref 90, .int a0, .int a1, .int (((402 : Int32) * a0) + a1), .int z1, .int (hi1 103 j2), .int (hi1 101 j3), .int (hi1 102 j4), .int (0 : Int32), .int (-1 : Int32)] [.int (hi1 101 j3), .int ((((402 : Int32) * a0) + a1) + (1 : Int32)), .ref 101] (rx_hp L t (rx_u hi1 104 j9 (vp_nar .boolean (0 : Int32))) hl1 v1) Q
        obtain ⟨j10, ej10, hj10, k⟩ := k
        refine rx_aw_iast (pc := 249) (n := 2412) j10 ej10 rfl rfl (by decide) rfl hj10 (by decide) ?_
        show rx_aw 193 250 [.ref 90, .int a0, .int a1, .int (((402 : Int32) * a0) + a1), .int z1, .int (hi1 103 j2), .int (hi1 101 j3), .int (hi1 102 j4), .int (0 : Int32), .int (-1 : Int32)] [] (rx_hp L t (rx_u (rx_u hi1 104 j9 (vp_nar .boolean (0 : Int32))) 101 j10 (hi1 101 j3)) hl1 v1) Q
        refine rx_aw_s 6 (pc := 250) rfl ?_
        show rx_aw 193 259 [.ref 90, .int a0, .int a1, .int (((402 : Int32) * a0) + a1), .int z1, .int (hi1 103 j2), .int (hi1 101 j3), .int (hi1 102 j4), .int (0 : Int32), .int (-1 : Int32)] [.int (hi1 102 j4), .int ((((402 : Int32) * a0) + a1) + (1 : Int32)), .ref 102] (rx_hp L t (rx_u (rx_u hi1 104 j9 (vp_nar .boolean (0 : Int32))) 101 j10 (hi1 101 j3)) hl1 v1) Q
        obtain ⟨j11, ej11, hj11, k⟩ := k
        refine rx_aw_iast (pc := 259) (n := 2412) j11 ej11 rfl rfl (by decide) rfl hj11 (by decide) ?_
        show rx_aw 193 260 [.ref 90, .int a0, .int a1, .int (((402 : Int32) * a0) + a1), .int z1, .int (hi1 103 j2), .int (hi1 101 j3), .int (hi1 102 j4), .int (0 : Int32), .int (-1 : Int32)] [] (rx_hp L t (rx_u (rx_u (rx_u hi1 104 j9 (vp_nar .boolean (0 : Int32))) 101 j10 (hi1 101 j3)) 102 j11 (hi1 102 j4)) hl1 v1) Q
        refine rx_aw_s 6 (pc := 260) rfl ?_
        show rx_aw 193 269 [.ref 90, .int a0, .int a1, .int (((402 : Int32) * a0) + a1), .int z1, .int (hi1 103 j2), .int (hi1 101 j3), .int (hi1 102 j4), .int (0 : Int32), .int (-1 : Int32)] [.int (hi1 103 j2), .int ((((402 : Int32) * a0) + a1) + (1 : Int32)), .ref 103] (rx_hp L t (rx_u (rx_u (rx_u hi1 104 j9 (vp_nar .boolean (0 : Int32))) 101 j10 (hi1 101 j3)) 102 j11 (hi1 102 j4)) hl1 v1) Q
        obtain ⟨j12, ej12, hj12, k⟩ := k
        refine rx_aw_iast (pc := 269) (n := 2412) j12 ej12 rfl rfl (by decide) rfl hj12 (by decide) ?_
        show rx_aw 193 270 [.ref 90, .int a0, .int a1, .int (((402 : Int32) * a0) + a1), .int z1, .int (hi1 103 j2), .int (hi1 101 j3), .int (hi1 102 j4), .int (0 : Int32), .int (-1 : Int32)] [] (rx_hp L t (rx_u (rx_u (rx_u (rx_u hi1 104 j9 (vp_nar .boolean (0 : Int32))) 101 j10 (hi1 101 j3)) 102 j11 (hi1 102 j4)) 103 j12 (hi1 103 j2)) hl1 v1) Q
        exact rx_aw_ret (pc := 270) rfl k
      · have k := k.2 c8
        show rx_aw 193 64 [.ref 90, .int a0, .int a1, .int (((402 : Int32) * a0) + a1), .int z1, .int (hi1 103 j2), .int (hi1 101 j3), .int (hi1 102 j4), .int (1 : Int32), rx_no] [] (rx_hp L t hi1 hl1 v1) Q
        refine rx_aw_s 3 (pc := 64) rfl ?_
        show rx_aw 193 68 [.ref 90, .int a0, .int a1, .int (((402 : Int32) * a0) + a1), .int z1, .int (hi1 103 j2), .int (hi1 101 j3), .int (hi1 102 j4), .int (1 : Int32), rx_no] [.int a1, .int (hi1 101 j3), .ref 90] (rx_hp L t hi1 hl1 v1) Q
        refine rx_w_callI (j := 195) (pc := 68) rfl rfl rfl rfl rfl ?_
        refine rx_aw.mono k (fun r h2 k => ?_)
        obtain ⟨z13, rfl, hi13, hl13, v13, rfl, k⟩ := k
        refine ⟨z13, rfl, ?_⟩
        show rx_aw 193 71 [.ref 90, .int a0, .int a1, .int (((402 : Int32) * a0) + a1), .int z1, .int (hi1 103 j2), .int (hi1 101 j3), .int (hi1 102 j4), .int (1 : Int32), rx_no] [.int z13] (rx_hp L t hi13 hl13 v13) Q
        refine rx_aw_s 4 (pc := 71) rfl ?_
        refine rx_w_if (c := z13 < 0) ⟨fun c14 => ?_, fun c14 => ?_⟩
        · have k := k.1 c14
          show rx_aw 193 106 [.ref 90, .int a0, .int a1, .int (((402 : Int32) * a0) + a1), .int z1, .int (hi1 103 j2), .int (hi1 101 j3), .int (hi1 102 j4), .int (1 : Int32), .int z13] [] (rx_hp L t hi13 hl13 v13) Q
          refine rx_aw_s 11 (pc := 106) rfl ?_
          show rx_aw 193 239 [.ref 90, .int a0, .int a1, .int (((402 : Int32) * a0) + a1), .int z1, .int (hi1 103 j2), .int (hi1 101 j3), .int (hi1 102 j4), .int (0 : Int32), .int z13] [.int (0 : Int32), .int (((402 : Int32) * a0) + a1), .ref 104] (rx_hp L t hi13 hl13 v13) Q
          obtain ⟨j15, ej15, hj15, k⟩ := k
          refine rx_aw_zast (pc := 239) (n := 2412) j15 ej15 rfl rfl (by decide) rfl hj15 (by decide) ?_
          show rx_aw 193 240 [.ref 90, .int a0, .int a1, .int (((402 : Int32) * a0) + a1), .int z1, .int (hi1 103 j2), .int (hi1 101 j3), .int (hi1 102 j4), .int (0 : Int32), .int z13] [] (rx_hp L t (rx_u hi13 104 j15 (vp_nar .boolean (0 : Int32))) hl13 v13) Q
          refine rx_aw_s 6 (pc := 240) rfl ?_
          show rx_aw 193 249 [.ref 90, .int a0, .int a1, .int (((402 : Int32) * a0) + a1), .int z1, .int (hi1 103 j2), .int (hi1 101 j3), .int (hi1 102 j4), .int (0 : Int32), .int z13] [.int (hi1 101 j3), .int ((((402 : Int32) * a0) + a1) + (1 : Int32)), .ref 101] (rx_hp L t (rx_u hi13 104 j15 (vp_nar .boolean (0 : Int32))) hl13 v13) Q
          obtain ⟨j16, ej16, hj16, k⟩ := k
          refine rx_aw_iast (pc := 249) (n := 2412) j16 ej16 rfl rfl (by decide) rfl hj16 (by decide) ?_
          show rx_aw 193 250 [.ref 90, .int a0, .int a1, .int (((402 : Int32) * a0) + a1), .int z1, .int (hi1 103 j2), .int (hi1 101 j3), .int (hi1 102 j4), .int (0 : Int32), .int z13] [] (rx_hp L t (rx_u (rx_u hi13 104 j15 (vp_nar .boolean (0 : Int32))) 101 j16 (hi1 101 j3)) hl13 v13) Q
          refine rx_aw_s 6 (pc := 250) rfl ?_
          show rx_aw 193 259 [.ref 90, .int a0, .int a1, .int (((402 : Int32) * a0) + a1), .int z1, .int (hi1 103 j2), .int (hi1 101 j3), .int (hi1 102 j4), .int (0 : Int32), .int z13] [.int (hi1 102 j4), .int ((((402 : Int32) * a0) + a1) + (1 : Int32)), .ref 102] (rx_hp L t (rx_u (rx_u hi13 104 j15 (vp_nar .boolean (0 : Int32))) 101 j16 (hi1 101 j3)) hl13 v13) Q
          obtain ⟨j17, ej17, hj17, k⟩ := k
          refine rx_aw_iast (pc := 259) (n := 2412) j17 ej17 rfl rfl (by decide) rfl hj17 (by decide) ?_
          show rx_aw 193 260 [.ref 90, .int a0, .int a1, .int (((402 : Int32) * a0) + a1), .int z1, .int (hi1 103 j2), .int (hi1 101 j3), .int (hi1 102 j4), .int (0 : Int32), .int z13] [] (rx_hp L t (rx_u (rx_u (rx_u hi13 104 j15 (vp_nar .boolean (0 : Int32))) 101 j16 (hi1 101 j3)) 102 j17 (hi1 102 j4)) hl13 v13) Q
          refine rx_aw_s 6 (pc := 260) rfl ?_
          show rx_aw 193 269 [.ref 90, .int a0, .int a1, .int (((402 : Int32) * a0) + a1), .int z1, .int (hi1 103 j2), .int (hi1 101 j3), .int (hi1 102 j4), .int (0 : Int32), .int z13] [.int (hi1 103 j2), .int ((((402 : Int32) * a0) + a1) + (1 : Int32)), .ref 103] (rx_hp L t (rx_u (rx_u (rx_u hi13 104 j15 (vp_nar .boolean (0 : Int32))) 101 j16 (hi1 101 j3)) 102 j17 (hi1 102 j4)) hl13 v13) Q
          obtain ⟨j18, ej18, hj18, k⟩ := k
          refine rx_aw_iast (pc := 269) (n := 2412) j18 ej18 rfl rfl (by decide) rfl hj18 (by decide) ?_
          show rx_aw 193 270 [.ref 90, .int a0, .int a1, .int (((402 : Int32) * a0) + a1), .int z1, .int (hi1 103 j2), .int (hi1 101 j3), .int (hi1 102 j4), .int (0 : Int32), .int z13] [] (rx_hp L t (rx_u (rx_u (rx_u (rx_u hi13 104 j15 (vp_nar .boolean (0 : Int32))) 101 j16 (hi1 101 j3)) 102 j17 (hi1 102 j4)) 103 j18 (hi1 103 j2)) hl13 v13) Q
          exact rx_aw_ret (pc := 270) rfl k
        · have k := k.2 c14
          show rx_aw 193 82 [.ref 90, .int a0, .int a1, .int (((402 : Int32) * a0) + a1), .int z1, .int (hi1 103 j2), .int (hi1 101 j3), .int (hi1 102 j4), .int (1 : Int32), .int z13] [] (rx_hp L t hi13 hl13 v13) Q
          refine rx_aw_s 4 (pc := 82) rfl ?_
          refine rx_w_ifn (c := a0 = (hi13 90 35)) ⟨fun c19 => ?_, fun c19 => ?_⟩
          · have k := k.1 c19
            show rx_aw 193 90 [.ref 90, .int a0, .int a1, .int (((402 : Int32) * a0) + a1), .int z1, .int (hi1 103 j2), .int (hi1 101 j3), .int (hi1 102 j4), .int (1 : Int32), .int z13] [] (rx_hp L t hi13 hl13 v13) Q
            refine rx_aw_s 7 (pc := 90) rfl ?_
            refine rx_w_ifn (c := (((hi13 90 36) >>> (z13 &&& 31)) &&& (1 : Int32)) = 0) ⟨fun c20 => ?_, fun c20 => ?_⟩
            · have k := k.1 c20
              show rx_aw 193 102 [.ref 90, .int a0, .int a1, .int (((402 : Int32) * a0) + a1), .int z1, .int (hi1 103 j2), .int (hi1 101 j3), .int (hi1 102 j4), .int (1 : Int32), .int z13] [] (rx_hp L t hi13 hl13 v13) Q
              refine rx_aw_s 13 (pc := 102) rfl ?_
              show rx_aw 193 239 [.ref 90, .int a0, .int a1, .int (((402 : Int32) * a0) + a1), .int z1, .int z13, .int (hi1 101 j3), .int (hi1 102 j4), .int (1 : Int32), .int z13] [.int (1 : Int32), .int (((402 : Int32) * a0) + a1), .ref 104] (rx_hp L t hi13 hl13 v13) Q
              obtain ⟨j21, ej21, hj21, k⟩ := k
              refine rx_aw_zast (pc := 239) (n := 2412) j21 ej21 rfl rfl (by decide) rfl hj21 (by decide) ?_
              show rx_aw 193 240 [.ref 90, .int a0, .int a1, .int (((402 : Int32) * a0) + a1), .int z1, .int z13, .int (hi1 101 j3), .int (hi1 102 j4), .int (1 : Int32), .int z13] [] (rx_hp L t (rx_u hi13 104 j21 (vp_nar .boolean (1 : Int32))) hl13 v13) Q
              refine rx_aw_s 6 (pc := 240) rfl ?_
              show rx_aw 193 249 [.ref 90, .int a0, .int a1, .int (((402 : Int32) * a0) + a1), .int z1, .int z13, .int (hi1 101 j3), .int (hi1 102 j4), .int (1 : Int32), .int z13] [.int (hi1 101 j3), .int ((((402 : Int32) * a0) + a1) + (1 : Int32)), .ref 101] (rx_hp L t (rx_u hi13 104 j21 (vp_nar .boolean (1 : Int32))) hl13 v13) Q
              obtain ⟨j22, ej22, hj22, k⟩ := k
              refine rx_aw_iast (pc := 249) (n := 2412) j22 ej22 rfl rfl (by decide) rfl hj22 (by decide) ?_
              show rx_aw 193 250 [.ref 90, .int a0, .int a1, .int (((402 : Int32) * a0) + a1), .int z1, .int z13, .int (hi1 101 j3), .int (hi1 102 j4), .int (1 : Int32), .int z13] [] (rx_hp L t (rx_u (rx_u hi13 104 j21 (vp_nar .boolean (1 : Int32))) 101 j22 (hi1 101 j3)) hl13 v13) Q
              refine rx_aw_s 6 (pc := 250) rfl ?_
              show rx_aw 193 259 [.ref 90, .int a0, .int a1, .int (((402 : Int32) * a0) + a1), .int z1, .int z13, .int (hi1 101 j3), .int (hi1 102 j4), .int (1 : Int32), .int z13] [.int (hi1 102 j4), .int ((((402 : Int32) * a0) + a1) + (1 : Int32)), .ref 102] (rx_hp L t (rx_u (rx_u hi13 104 j21 (vp_nar .boolean (1 : Int32))) 101 j22 (hi1 101 j3)) hl13 v13) Q
              obtain ⟨j23, ej23, hj23, k⟩ := k
              refine rx_aw_iast (pc := 259) (n := 2412) j23 ej23 rfl rfl (by decide) rfl hj23 (by decide) ?_
              show rx_aw 193 260 [.ref 90, .int a0, .int a1, .int (((402 : Int32) * a0) + a1), .int z1, .int z13, .int (hi1 101 j3), .int (hi1 102 j4), .int (1 : Int32), .int z13] [] (rx_hp L t (rx_u (rx_u (rx_u hi13 104 j21 (vp_nar .boolean (1 : Int32))) 101 j22 (hi1 101 j3)) 102 j23 (hi1 102 j4)) hl13 v13) Q
              refine rx_aw_s 6 (pc := 260) rfl ?_
              show rx_aw 193 269 [.ref 90, .int a0, .int a1, .int (((402 : Int32) * a0) + a1), .int z1, .int z13, .int (hi1 101 j3), .int (hi1 102 j4), .int (1 : Int32), .int z13] [.int z13, .int ((((402 : Int32) * a0) + a1) + (1 : Int32)), .ref 103] (rx_hp L t (rx_u (rx_u (rx_u hi13 104 j21 (vp_nar .boolean (1 : Int32))) 101 j22 (hi1 101 j3)) 102 j23 (hi1 102 j4)) hl13 v13) Q
              obtain ⟨j24, ej24, hj24, k⟩ := k
              refine rx_aw_iast (pc := 269) (n := 2412) j24 ej24 rfl rfl (by decide) rfl hj24 (by decide) ?_
              show rx_aw 193 270 [.ref 90, .int a0, .int a1, .int (((402 : Int32) * a0) + a1), .int z1, .int z13, .int (hi1 101 j3), .int (hi1 102 j4), .int (1 : Int32), .int z13] [] (rx_hp L t (rx_u (rx_u (rx_u (rx_u hi13 104 j21 (vp_nar .boolean (1 : Int32))) 101 j22 (hi1 101 j3)) 102 j23 (hi1 102 j4)) 103 j24 z13) hl13 v13) Q
              exact rx_aw_ret (pc := 270) rfl k
            · have k := k.2 c20
              show rx_aw 193 106 [.ref 90, .int a0, .int a1, .int (((402 : Int32) * a0) + a1), .int z1, .int (hi1 103 j2), .int (hi1 101 j3), .int (hi1 102 j4), .int (1 : Int32), .int z13] [] (rx_hp L t hi13 hl13 v13) Q
              refine rx_aw_s 11 (pc := 106) rfl ?_
              show rx_aw 193 239 [.ref 90, .int a0, .int a1, .int (((402 : Int32) * a0) + a1), .int z1, .int (hi1 103 j2), .int (hi1 101 j3), .int (hi1 102 j4), .int (0 : Int32), .int z13] [.int (0 : Int32), .int (((402 : Int32) * a0) + a1), .ref 104] (rx_hp L t hi13 hl13 v13) Q
              obtain ⟨j25, ej25, hj25, k⟩ := k
              refine rx_aw_zast (pc := 239) (n := 2412) j25 ej25 rfl rfl (by decide) rfl hj25 (by decide) ?_
              show rx_aw 193 240 [.ref 90, .int a0, .int a1, .int (((402 : Int32) * a0) + a1), .int z1, .int (hi1 103 j2), .int (hi1 101 j3), .int (hi1 102 j4), .int (0 : Int32), .int z13] [] (rx_hp L t (rx_u hi13 104 j25 (vp_nar .boolean (0 : Int32))) hl13 v13) Q
              refine rx_aw_s 6 (pc := 240) rfl ?_
              show rx_aw 193 249 [.ref 90, .int a0, .int a1, .int (((402 : Int32) * a0) + a1), .int z1, .int (hi1 103 j2), .int (hi1 101 j3), .int (hi1 102 j4), .int (0 : Int32), .int z13] [.int (hi1 101 j3), .int ((((402 : Int32) * a0) + a1) + (1 : Int32)), .ref 101] (rx_hp L t (rx_u hi13 104 j25 (vp_nar .boolean (0 : Int32))) hl13 v13) Q
              obtain ⟨j26, ej26, hj26, k⟩ := k
              refine rx_aw_iast (pc := 249) (n := 2412) j26 ej26 rfl rfl (by decide) rfl hj26 (by decide) ?_
              show rx_aw 193 250 [.ref 90, .int a0, .int a1, .int (((402 : Int32) * a0) + a1), .int z1, .int (hi1 103 j2), .int (hi1 101 j3), .int (hi1 102 j4), .int (0 : Int32), .int z13] [] (rx_hp L t (rx_u (rx_u hi13 104 j25 (vp_nar .boolean (0 : Int32))) 101 j26 (hi1 101 j3)) hl13 v13) Q
              refine rx_aw_s 6 (pc := 250) rfl ?_
              show rx_aw 193 259 [.ref 90, .int a0, .int a1, .int (((402 : Int32) * a0) + a1), .int z1, .int (hi1 103 j2), .int (hi1 101 j3), .int (hi1 102 j4), .int (0 : Int32), .int z13] [.int (hi1 102 j4), .int ((((402 : Int32) * a0) + a1) + (1 : Int32)), .ref 102] (rx_hp L t (rx_u (rx_u hi13 104 j25 (vp_nar .boolean (0 : Int32))) 101 j26 (hi1 101 j3)) hl13 v13) Q
              obtain ⟨j27, ej27, hj27, k⟩ := k
              refine rx_aw_iast (pc := 259) (n := 2412) j27 ej27 rfl rfl (by decide) rfl hj27 (by decide) ?_
              show rx_aw 193 260 [.ref 90, .int a0, .int a1, .int (((402 : Int32) * a0) + a1), .int z1, .int (hi1 103 j2), .int (hi1 101 j3), .int (hi1 102 j4), .int (0 : Int32), .int z13] [] (rx_hp L t (rx_u (rx_u (rx_u hi13 104 j25 (vp_nar .boolean (0 : Int32))) 101 j26 (hi1 101 j3)) 102 j27 (hi1 102 j4)) hl13 v13) Q
              refine rx_aw_s 6 (pc := 260) rfl ?_
              show rx_aw 193 269 [.ref 90, .int a0, .int a1, .int (((402 : Int32) * a0) + a1), .int z1, .int (hi1 103 j2), .int (hi1 101 j3), .int (hi1 102 j4), .int (0 : Int32), .int z13] [.int (hi1 103 j2), .int ((((402 : Int32) * a0) + a1) + (1 : Int32)), .ref 103] (rx_hp L t (rx_u (rx_u (rx_u hi13 104 j25 (vp_nar .boolean (0 : Int32))) 101 j26 (hi1 101 j3)) 102 j27 (hi1 102 j4)) hl13 v13) Q
              obtain ⟨j28, ej28, hj28, k⟩ := k
              refine rx_aw_iast (pc := 269) (n := 2412) j28 ej28 rfl rfl (by decide) rfl hj28 (by decide) ?_
              show rx_aw 193 270 [.ref 90, .int a0, .int a1, .int (((402 : Int32) * a0) + a1), .int z1, .int (hi1 103 j2), .int (hi1 101 j3), .int (hi1 102 j4), .int (0 : Int32), .int z13] [] (rx_hp L t (rx_u (rx_u (rx_u (rx_u hi13 104 j25 (vp_nar .boolean (0 : Int32))) 101 j26 (hi1 101 j3)) 102 j27 (hi1 102 j4)) 103 j28 (hi1 103 j2)) hl13 v13) Q
              exact rx_aw_ret (pc := 270) rfl k
          · have k := k.2 c19
            show rx_aw 193 102 [.ref 90, .int a0, .int a1, .int (((402 : Int32) * a0) + a1), .int z1, .int (hi1 103 j2), .int (hi1 101 j3), .int (hi1 102 j4), .int (1 : Int32), .int z13] [] (rx_hp L t hi13 hl13 v13) Q
            refine rx_aw_s 13 (pc := 102) rfl ?_
            show rx_aw 193 239 [.ref 90, .int a0, .int a1, .int (((402 : Int32) * a0) + a1), .int z1, .int z13, .int (hi1 101 j3), .int (hi1 102 j4), .int (1 : Int32), .int z13] [.int (1 : Int32), .int (((402 : Int32) * a0) + a1), .ref 104] (rx_hp L t hi13 hl13 v13) Q
            obtain ⟨j29, ej29, hj29, k⟩ := k
            refine rx_aw_zast (pc := 239) (n := 2412) j29 ej29 rfl rfl (by decide) rfl hj29 (by decide) ?_
            show rx_aw 193 240 [.ref 90, .int a0, .int a1, .int (((402 : Int32) * a0) + a1), .int z1, .int z13, .int (hi1 101 j3), .int (hi1 102 j4), .int (1 : Int32), .int z13] [] (rx_hp L t (rx_u hi13 104 j29 (vp_nar .boolean (1 : Int32))) hl13 v13) Q
            refine rx_aw_s 6 (pc := 240) rfl ?_
            show rx_aw 193 249 [.ref 90, .int a0, .int a1, .int (((402 : Int32) * a0) + a1), .int z1, .int z13, .int (hi1 101 j3), .int (hi1 102 j4), .int (1 : Int32), .int z13] [.int (hi1 101 j3), .int ((((402 : Int32) * a0) + a1) + (1 : Int32)), .ref 101] (rx_hp L t (rx_u hi13 104 j29 (vp_nar .boolean (1 : Int32))) hl13 v13) Q
            obtain ⟨j30, ej30, hj30, k⟩ := k
            refine rx_aw_iast (pc := 249) (n := 2412) j30 ej30 rfl rfl (by decide) rfl hj30 (by decide) ?_
            show rx_aw 193 250 [.ref 90, .int a0, .int a1, .int (((402 : Int32) * a0) + a1), .int z1, .int z13, .int (hi1 101 j3), .int (hi1 102 j4), .int (1 : Int32), .int z13] [] (rx_hp L t (rx_u (rx_u hi13 104 j29 (vp_nar .boolean (1 : Int32))) 101 j30 (hi1 101 j3)) hl13 v13) Q
            refine rx_aw_s 6 (pc := 250) rfl ?_
            show rx_aw 193 259 [.ref 90, .int a0, .int a1, .int (((402 : Int32) * a0) + a1), .int z1, .int z13, .int (hi1 101 j3), .int (hi1 102 j4), .int (1 : Int32), .int z13] [.int (hi1 102 j4), .int ((((402 : Int32) * a0) + a1) + (1 : Int32)), .ref 102] (rx_hp L t (rx_u (rx_u hi13 104 j29 (vp_nar .boolean (1 : Int32))) 101 j30 (hi1 101 j3)) hl13 v13) Q
            obtain ⟨j31, ej31, hj31, k⟩ := k
            refine rx_aw_iast (pc := 259) (n := 2412) j31 ej31 rfl rfl (by decide) rfl hj31 (by decide) ?_
            show rx_aw 193 260 [.ref 90, .int a0, .int a1, .int (((402 : Int32) * a0) + a1), .int z1, .int z13, .int (hi1 101 j3), .int (hi1 102 j4), .int (1 : Int32), .int z13] [] (rx_hp L t (rx_u (rx_u (rx_u hi13 104 j29 (vp_nar .boolean (1 : Int32))) 101 j30 (hi1 101 j3)) 102 j31 (hi1 102 j4)) hl13 v13) Q
            refine rx_aw_s 6 (pc := 260) rfl ?_
            show rx_aw 193 269 [.ref 90, .int a0, .int a1, .int (((402 : Int32) * a0) + a1), .int z1, .int z13, .int (hi1 101 j3), .int (hi1 102 j4), .int (1 : Int32), .int z13] [.int z13, .int ((((402 : Int32) * a0) + a1) + (1 : Int32)), .ref 103] (rx_hp L t (rx_u (rx_u (rx_u hi13 104 j29 (vp_nar .boolean (1 : Int32))) 101 j30 (hi1 101 j3)) 102 j31 (hi1 102 j4)) hl13 v13) Q
            obtain ⟨j32, ej32, hj32, k⟩ := k
            refine rx_aw_iast (pc := 269) (n := 2412) j32 ej32 rfl rfl (by decide) rfl hj32 (by decide) ?_
            show rx_aw 193 270 [.ref 90, .int a0, .int a1, .int (((402 : Int32) * a0) + a1), .int z1, .int z13, .int (hi1 101 j3), .int (hi1 102 j4), .int (1 : Int32), .int z13] [] (rx_hp L t (rx_u (rx_u (rx_u (rx_u hi13 104 j29 (vp_nar .boolean (1 : Int32))) 101 j30 (hi1 101 j3)) 102 j31 (hi1 102 j4)) 103 j32 z13) hl13 v13) Q
            exact rx_aw_ret (pc := 270) rfl k
    · have k := k.2 c7
      show rx_aw 193 74 [.ref 90, .int a0, .int a1, .int (((402 : Int32) * a0) + a1), .int z1, .int (hi1 103 j2), .int (hi1 101 j3), .int (hi1 102 j4), .int (1 : Int32), rx_no] [] (rx_hp L t hi1 hl1 v1) Q
      refine rx_aw_s 15 (pc := 74) rfl ?_
      show rx_aw 193 239 [.ref 90, .int a0, .int a1, .int (((402 : Int32) * a0) + a1), .int z1, .int (hi1 103 j2), .int (hi1 101 j3), .int (hi1 102 j4), .int (0 : Int32), .int (-1 : Int32)] [.int (0 : Int32), .int (((402 : Int32) * a0) + a1), .ref 104] (rx_hp L t hi1 hl1 v1) Q
      obtain ⟨j33, ej33, hj33, k⟩ := k
      refine rx_aw_zast (pc := 239) (n := 2412) j33 ej33 rfl rfl (by decide) rfl hj33 (by decide) ?_
      show rx_aw 193 240 [.ref 90, .int a0, .int a1, .int (((402 : Int32) * a0) + a1), .int z1, .int (hi1 103 j2), .int (hi1 101 j3), .int (hi1 102 j4), .int (0 : Int32), .int (-1 : Int32)] [] (rx_hp L t (rx_u hi1 104 j33 (vp_nar .boolean (0 : Int32))) hl1 v1) Q
      refine rx_aw_s 6 (pc := 240) rfl ?_
      show rx_aw 193 249 [.ref 90, .int a0, .int a1, .int (((402 : Int32) * a0) + a1), .int z1, .int (hi1 103 j2), .int (hi1 101 j3), .int (hi1 102 j4), .int (0 : Int32), .int (-1 : Int32)] [.int (hi1 101 j3), .int ((((402 : Int32) * a0) + a1) + (1 : Int32)), .ref 101] (rx_hp L t (rx_u hi1 104 j33 (vp_nar .boolean (0 : Int32))) hl1 v1) Q
      obtain ⟨j34, ej34, hj34, k⟩ := k
      refine rx_aw_iast (pc := 249) (n := 2412) j34 ej34 rfl rfl (by decide) rfl hj34 (by decide) ?_
      show rx_aw 193 250 [.ref 90, .int a0, .int a1, .int (((402 : Int32) * a0) + a1), .int z1, .int (hi1 103 j2), .int (hi1 101 j3), .int (hi1 102 j4), .int (0 : Int32), .int (-1 : Int32)] [] (rx_hp L t (rx_u (rx_u hi1 104 j33 (vp_nar .boolean (0 : Int32))) 101 j34 (hi1 101 j3)) hl1 v1) Q
      refine rx_aw_s 6 (pc := 250) rfl ?_
      show rx_aw 193 259 [.ref 90, .int a0, .int a1, .int (((402 : Int32) * a0) + a1), .int z1, .int (hi1 103 j2), .int (hi1 101 j3), .int (hi1 102 j4), .int (0 : Int32), .int (-1 : Int32)] [.int (hi1 102 j4), .int ((((402 : Int32) * a0) + a1) + (1 : Int32)), .ref 102] (rx_hp L t (rx_u (rx_u hi1 104 j33 (vp_nar .boolean (0 : Int32))) 101 j34 (hi1 101 j3)) hl1 v1) Q
      obtain ⟨j35, ej35, hj35, k⟩ := k
      refine rx_aw_iast (pc := 259) (n := 2412) j35 ej35 rfl rfl (by decide) rfl hj35 (by decide) ?_
      show rx_aw 193 260 [.ref 90, .int a0, .int a1, .int (((402 : Int32) * a0) + a1), .int z1, .int (hi1 103 j2), .int (hi1 101 j3), .int (hi1 102 j4), .int (0 : Int32), .int (-1 : Int32)] [] (rx_hp L t (rx_u (rx_u (rx_u hi1 104 j33 (vp_nar .boolean (0 : Int32))) 101 j34 (hi1 101 j3)) 102 j35 (hi1 102 j4)) hl1 v1) Q
      refine rx_aw_s 6 (pc := 260) rfl ?_
      show rx_aw 193 269 [.ref 90, .int a0, .int a1, .int (((402 : Int32) * a0) + a1), .int z1, .int (hi1 103 j2), .int (hi1 101 j3), .int (hi1 102 j4), .int (0 : Int32), .int (-1 : Int32)] [.int (hi1 103 j2), .int ((((402 : Int32) * a0) + a1) + (1 : Int32)), .ref 103] (rx_hp L t (rx_u (rx_u (rx_u hi1 104 j33 (vp_nar .boolean (0 : Int32))) 101 j34 (hi1 101 j3)) 102 j35 (hi1 102 j4)) hl1 v1) Q
      obtain ⟨j36, ej36, hj36, k⟩ := k
      refine rx_aw_iast (pc := 269) (n := 2412) j36 ej36 rfl rfl (by decide) rfl hj36 (by decide) ?_
      show rx_aw 193 270 [.ref 90, .int a0, .int a1, .int (((402 : Int32) * a0) + a1), .int z1, .int (hi1 103 j2), .int (hi1 101 j3), .int (hi1 102 j4), .int (0 : Int32), .int (-1 : Int32)] [] (rx_hp L t (rx_u (rx_u (rx_u (rx_u hi1 104 j33 (vp_nar .boolean (0 : Int32))) 101 j34 (hi1 101 j3)) 102 j35 (hi1 102 j4)) 103 j36 (hi1 103 j2)) hl1 v1) Q
      exact rx_aw_ret (pc := 270) rfl k
  · have k := k.2 c5
    show rx_aw 193 126 [.ref 90, .int a0, .int a1, .int (((402 : Int32) * a0) + a1), .int z1, .int (hi1 103 j2), .int (hi1 101 j3), .int (hi1 102 j4), .int (1 : Int32), rx_no] [] (rx_hp L t hi1 hl1 v1) Q
    refine rx_aw_s 3 (pc := 126) rfl ?_
    refine rx_w_ifn (c := z1 = (6 : Int32)) ⟨fun c37 => ?_, fun c37 => ?_⟩
    · have k := k.1 c37
      show rx_aw 193 133 [.ref 90, .int a0, .int a1, .int (((402 : Int32) * a0) + a1), .int z1, .int (hi1 103 j2), .int (hi1 101 j3), .int (hi1 102 j4), .int (1 : Int32), rx_no] [] (rx_hp L t hi1 hl1 v1) Q
      refine rx_aw_s 3 (pc := 133) rfl ?_
      show rx_aw 193 138 [.ref 90, .int a0, .int a1, .int (((402 : Int32) * a0) + a1), .int z1, .int (hi1 103 j2), .int (hi1 101 j3), .int (hi1 102 j4), .int (1 : Int32), rx_no] [.int a0, .ref 93] (rx_hp L t hi1 hl1 v1) Q
      obtain ⟨j38, ej38, hj38, k⟩ := k
      refine rx_aw_iald (pc := 138) (n := 6) j38 ej38 rfl rfl rfl hj38 (by decide) ?_
      show rx_aw 193 139 [.ref 90, .int a0, .int a1, .int (((402 : Int32) * a0) + a1), .int z1, .int (hi1 103 j2), .int (hi1 101 j3), .int (hi1 102 j4), .int (1 : Int32), rx_no] [.int (hi1 93 j38)] (rx_hp L t hi1 hl1 v1) Q
      refine rx_aw_s 2 (pc := 139) rfl ?_
      refine rx_w_ifn (c := (hi1 93 j38) = (1 : Int32)) ⟨fun c39 => ?_, fun c39 => ?_⟩
      · have k := k.1 c39
        show rx_aw 193 143 [.ref 90, .int a0, .int a1, .int (((402 : Int32) * a0) + a1), .int z1, .int (hi1 103 j2), .int (hi1 101 j3), .int (hi1 102 j4), .int (1 : Int32), rx_no] [] (rx_hp L t hi1 hl1 v1) Q
        refine rx_aw_s 2 (pc := 143) rfl ?_
        refine rx_w_if (c := (hi1 103 j2) < 0) ⟨fun c40 => ?_, fun c40 => ?_⟩
        · have k := k.1 c40
          show rx_aw 193 163 [.ref 90, .int a0, .int a1, .int (((402 : Int32) * a0) + a1), .int z1, .int (hi1 103 j2), .int (hi1 101 j3), .int (hi1 102 j4), .int (1 : Int32), rx_no] [] (rx_hp L t hi1 hl1 v1) Q
          refine rx_aw_s 11 (pc := 163) rfl ?_
          show rx_aw 193 239 [.ref 90, .int a0, .int a1, .int (((402 : Int32) * a0) + a1), .int z1, .int (hi1 103 j2), .int (hi1 101 j3), .int (hi1 102 j4), .int (0 : Int32), rx_no] [.int (0 : Int32), .int (((402 : Int32) * a0) + a1), .ref 104] (rx_hp L t hi1 hl1 v1) Q
          obtain ⟨j41, ej41, hj41, k⟩ := k
          refine rx_aw_zast (pc := 239) (n := 2412) j41 ej41 rfl rfl (by decide) rfl hj41 (by decide) ?_
          show rx_aw 193 240 [.ref 90, .int a0, .int a1, .int (((402 : Int32) * a0) + a1), .int z1, .int (hi1 103 j2), .int (hi1 101 j3), .int (hi1 102 j4), .int (0 : Int32), rx_no] [] (rx_hp L t (rx_u hi1 104 j41 (vp_nar .boolean (0 : Int32))) hl1 v1) Q
          refine rx_aw_s 6 (pc := 240) rfl ?_
          show rx_aw 193 249 [.ref 90, .int a0, .int a1, .int (((402 : Int32) * a0) + a1), .int z1, .int (hi1 103 j2), .int (hi1 101 j3), .int (hi1 102 j4), .int (0 : Int32), rx_no] [.int (hi1 101 j3), .int ((((402 : Int32) * a0) + a1) + (1 : Int32)), .ref 101] (rx_hp L t (rx_u hi1 104 j41 (vp_nar .boolean (0 : Int32))) hl1 v1) Q
          obtain ⟨j42, ej42, hj42, k⟩ := k
          refine rx_aw_iast (pc := 249) (n := 2412) j42 ej42 rfl rfl (by decide) rfl hj42 (by decide) ?_
          show rx_aw 193 250 [.ref 90, .int a0, .int a1, .int (((402 : Int32) * a0) + a1), .int z1, .int (hi1 103 j2), .int (hi1 101 j3), .int (hi1 102 j4), .int (0 : Int32), rx_no] [] (rx_hp L t (rx_u (rx_u hi1 104 j41 (vp_nar .boolean (0 : Int32))) 101 j42 (hi1 101 j3)) hl1 v1) Q
          refine rx_aw_s 6 (pc := 250) rfl ?_
          show rx_aw 193 259 [.ref 90, .int a0, .int a1, .int (((402 : Int32) * a0) + a1), .int z1, .int (hi1 103 j2), .int (hi1 101 j3), .int (hi1 102 j4), .int (0 : Int32), rx_no] [.int (hi1 102 j4), .int ((((402 : Int32) * a0) + a1) + (1 : Int32)), .ref 102] (rx_hp L t (rx_u (rx_u hi1 104 j41 (vp_nar .boolean (0 : Int32))) 101 j42 (hi1 101 j3)) hl1 v1) Q
          obtain ⟨j43, ej43, hj43, k⟩ := k
          refine rx_aw_iast (pc := 259) (n := 2412) j43 ej43 rfl rfl (by decide) rfl hj43 (by decide) ?_
          show rx_aw 193 260 [.ref 90, .int a0, .int a1, .int (((402 : Int32) * a0) + a1), .int z1, .int (hi1 103 j2), .int (hi1 101 j3), .int (hi1 102 j4), .int (0 : Int32), rx_no] [] (rx_hp L t (rx_u (rx_u (rx_u hi1 104 j41 (vp_nar .boolean (0 : Int32))) 101 j42 (hi1 101 j3)) 102 j43 (hi1 102 j4)) hl1 v1) Q
          refine rx_aw_s 6 (pc := 260) rfl ?_
          show rx_aw 193 269 [.ref 90, .int a0, .int a1, .int (((402 : Int32) * a0) + a1), .int z1, .int (hi1 103 j2), .int (hi1 101 j3), .int (hi1 102 j4), .int (0 : Int32), rx_no] [.int (hi1 103 j2), .int ((((402 : Int32) * a0) + a1) + (1 : Int32)), .ref 103] (rx_hp L t (rx_u (rx_u (rx_u hi1 104 j41 (vp_nar .boolean (0 : Int32))) 101 j42 (hi1 101 j3)) 102 j43 (hi1 102 j4)) hl1 v1) Q
          obtain ⟨j44, ej44, hj44, k⟩ := k
          refine rx_aw_iast (pc := 269) (n := 2412) j44 ej44 rfl rfl (by decide) rfl hj44 (by decide) ?_
          show rx_aw 193 270 [.ref 90, .int a0, .int a1, .int (((402 : Int32) * a0) + a1), .int z1, .int (hi1 103 j2), .int (hi1 101 j3), .int (hi1 102 j4), .int (0 : Int32), rx_no] [] (rx_hp L t (rx_u (rx_u (rx_u (rx_u hi1 104 j41 (vp_nar .boolean (0 : Int32))) 101 j42 (hi1 101 j3)) 102 j43 (hi1 102 j4)) 103 j44 (hi1 103 j2)) hl1 v1) Q
          exact rx_aw_ret (pc := 270) rfl k
        · have k := k.2 c40
          show rx_aw 193 148 [.ref 90, .int a0, .int a1, .int (((402 : Int32) * a0) + a1), .int z1, .int (hi1 103 j2), .int (hi1 101 j3), .int (hi1 102 j4), .int (1 : Int32), rx_no] [] (rx_hp L t hi1 hl1 v1) Q
          refine rx_aw_s 3 (pc := 148) rfl ?_
          show rx_aw 193 154 [.ref 90, .int a0, .int a1, .int (((402 : Int32) * a0) + a1), .int z1, .int (hi1 103 j2), .int (hi1 101 j3), .int (hi1 102 j4), .int (1 : Int32), rx_no] [.int (hi1 101 j3), .ref 91] (rx_hp L t hi1 hl1 v1) Q
          obtain ⟨j45, ej45, hj45, k⟩ := k
          refine rx_aw_iald (pc := 154) (n := 64) j45 ej45 rfl rfl rfl hj45 (by decide) ?_
          show rx_aw 193 155 [.ref 90, .int a0, .int a1, .int (((402 : Int32) * a0) + a1), .int z1, .int (hi1 103 j2), .int (hi1 101 j3), .int (hi1 102 j4), .int (1 : Int32), rx_no] [.int (hi1 91 j45)] (rx_hp L t hi1 hl1 v1) Q
          refine rx_aw_s 2 (pc := 155) rfl ?_
          refine rx_w_ifn (c := (hi1 91 j45) = (2 : Int32)) ⟨fun c46 => ?_, fun c46 => ?_⟩
          · have k := k.1 c46
            show rx_aw 193 159 [.ref 90, .int a0, .int a1, .int (((402 : Int32) * a0) + a1), .int z1, .int (hi1 103 j2), .int (hi1 101 j3), .int (hi1 102 j4), .int (1 : Int32), rx_no] [] (rx_hp L t hi1 hl1 v1) Q
            refine rx_aw_s 13 (pc := 159) rfl ?_
            show rx_aw 193 239 [.ref 90, .int a0, .int a1, .int (((402 : Int32) * a0) + a1), .int z1, .int (-1 : Int32), .int (hi1 101 j3), .int (hi1 102 j4), .int (1 : Int32), rx_no] [.int (1 : Int32), .int (((402 : Int32) * a0) + a1), .ref 104] (rx_hp L t hi1 hl1 v1) Q
            obtain ⟨j47, ej47, hj47, k⟩ := k
            refine rx_aw_zast (pc := 239) (n := 2412) j47 ej47 rfl rfl (by decide) rfl hj47 (by decide) ?_
            show rx_aw 193 240 [.ref 90, .int a0, .int a1, .int (((402 : Int32) * a0) + a1), .int z1, .int (-1 : Int32), .int (hi1 101 j3), .int (hi1 102 j4), .int (1 : Int32), rx_no] [] (rx_hp L t (rx_u hi1 104 j47 (vp_nar .boolean (1 : Int32))) hl1 v1) Q
            refine rx_aw_s 6 (pc := 240) rfl ?_
            show rx_aw 193 249 [.ref 90, .int a0, .int a1, .int (((402 : Int32) * a0) + a1), .int z1, .int (-1 : Int32), .int (hi1 101 j3), .int (hi1 102 j4), .int (1 : Int32), rx_no] [.int (hi1 101 j3), .int ((((402 : Int32) * a0) + a1) + (1 : Int32)), .ref 101] (rx_hp L t (rx_u hi1 104 j47 (vp_nar .boolean (1 : Int32))) hl1 v1) Q
            obtain ⟨j48, ej48, hj48, k⟩ := k
            refine rx_aw_iast (pc := 249) (n := 2412) j48 ej48 rfl rfl (by decide) rfl hj48 (by decide) ?_
            show rx_aw 193 250 [.ref 90, .int a0, .int a1, .int (((402 : Int32) * a0) + a1), .int z1, .int (-1 : Int32), .int (hi1 101 j3), .int (hi1 102 j4), .int (1 : Int32), rx_no] [] (rx_hp L t (rx_u (rx_u hi1 104 j47 (vp_nar .boolean (1 : Int32))) 101 j48 (hi1 101 j3)) hl1 v1) Q
            refine rx_aw_s 6 (pc := 250) rfl ?_
            show rx_aw 193 259 [.ref 90, .int a0, .int a1, .int (((402 : Int32) * a0) + a1), .int z1, .int (-1 : Int32), .int (hi1 101 j3), .int (hi1 102 j4), .int (1 : Int32), rx_no] [.int (hi1 102 j4), .int ((((402 : Int32) * a0) + a1) + (1 : Int32)), .ref 102] (rx_hp L t (rx_u (rx_u hi1 104 j47 (vp_nar .boolean (1 : Int32))) 101 j48 (hi1 101 j3)) hl1 v1) Q
            obtain ⟨j49, ej49, hj49, k⟩ := k
            refine rx_aw_iast (pc := 259) (n := 2412) j49 ej49 rfl rfl (by decide) rfl hj49 (by decide) ?_
            show rx_aw 193 260 [.ref 90, .int a0, .int a1, .int (((402 : Int32) * a0) + a1), .int z1, .int (-1 : Int32), .int (hi1 101 j3), .int (hi1 102 j4), .int (1 : Int32), rx_no] [] (rx_hp L t (rx_u (rx_u (rx_u hi1 104 j47 (vp_nar .boolean (1 : Int32))) 101 j48 (hi1 101 j3)) 102 j49 (hi1 102 j4)) hl1 v1) Q
            refine rx_aw_s 6 (pc := 260) rfl ?_
            show rx_aw 193 269 [.ref 90, .int a0, .int a1, .int (((402 : Int32) * a0) + a1), .int z1, .int (-1 : Int32), .int (hi1 101 j3), .int (hi1 102 j4), .int (1 : Int32), rx_no] [.int (-1 : Int32), .int ((((402 : Int32) * a0) + a1) + (1 : Int32)), .ref 103] (rx_hp L t (rx_u (rx_u (rx_u hi1 104 j47 (vp_nar .boolean (1 : Int32))) 101 j48 (hi1 101 j3)) 102 j49 (hi1 102 j4)) hl1 v1) Q
            obtain ⟨j50, ej50, hj50, k⟩ := k
            refine rx_aw_iast (pc := 269) (n := 2412) j50 ej50 rfl rfl (by decide) rfl hj50 (by decide) ?_
            show rx_aw 193 270 [.ref 90, .int a0, .int a1, .int (((402 : Int32) * a0) + a1), .int z1, .int (-1 : Int32), .int (hi1 101 j3), .int (hi1 102 j4), .int (1 : Int32), rx_no] [] (rx_hp L t (rx_u (rx_u (rx_u (rx_u hi1 104 j47 (vp_nar .boolean (1 : Int32))) 101 j48 (hi1 101 j3)) 102 j49 (hi1 102 j4)) 103 j50 (-1 : Int32)) hl1 v1) Q
            exact rx_aw_ret (pc := 270) rfl k
          · have k := k.2 c46
            show rx_aw 193 163 [.ref 90, .int a0, .int a1, .int (((402 : Int32) * a0) + a1), .int z1, .int (hi1 103 j2), .int (hi1 101 j3), .int (hi1 102 j4), .int (1 : Int32), rx_no] [] (rx_hp L t hi1 hl1 v1) Q
            refine rx_aw_s 11 (pc := 163) rfl ?_
            show rx_aw 193 239 [.ref 90, .int a0, .int a1, .int (((402 : Int32) * a0) + a1), .int z1, .int (hi1 103 j2), .int (hi1 101 j3), .int (hi1 102 j4), .int (0 : Int32), rx_no] [.int (0 : Int32), .int (((402 : Int32) * a0) + a1), .ref 104] (rx_hp L t hi1 hl1 v1) Q
            obtain ⟨j51, ej51, hj51, k⟩ := k
            refine rx_aw_zast (pc := 239) (n := 2412) j51 ej51 rfl rfl (by decide) rfl hj51 (by decide) ?_
            show rx_aw 193 240 [.ref 90, .int a0, .int a1, .int (((402 : Int32) * a0) + a1), .int z1, .int (hi1 103 j2), .int (hi1 101 j3), .int (hi1 102 j4), .int (0 : Int32), rx_no] [] (rx_hp L t (rx_u hi1 104 j51 (vp_nar .boolean (0 : Int32))) hl1 v1) Q
            refine rx_aw_s 6 (pc := 240) rfl ?_
            show rx_aw 193 249 [.ref 90, .int a0, .int a1, .int (((402 : Int32) * a0) + a1), .int z1, .int (hi1 103 j2), .int (hi1 101 j3), .int (hi1 102 j4), .int (0 : Int32), rx_no] [.int (hi1 101 j3), .int ((((402 : Int32) * a0) + a1) + (1 : Int32)), .ref 101] (rx_hp L t (rx_u hi1 104 j51 (vp_nar .boolean (0 : Int32))) hl1 v1) Q
            obtain ⟨j52, ej52, hj52, k⟩ := k
            refine rx_aw_iast (pc := 249) (n := 2412) j52 ej52 rfl rfl (by decide) rfl hj52 (by decide) ?_
            show rx_aw 193 250 [.ref 90, .int a0, .int a1, .int (((402 : Int32) * a0) + a1), .int z1, .int (hi1 103 j2), .int (hi1 101 j3), .int (hi1 102 j4), .int (0 : Int32), rx_no] [] (rx_hp L t (rx_u (rx_u hi1 104 j51 (vp_nar .boolean (0 : Int32))) 101 j52 (hi1 101 j3)) hl1 v1) Q
            refine rx_aw_s 6 (pc := 250) rfl ?_
            show rx_aw 193 259 [.ref 90, .int a0, .int a1, .int (((402 : Int32) * a0) + a1), .int z1, .int (hi1 103 j2), .int (hi1 101 j3), .int (hi1 102 j4), .int (0 : Int32), rx_no] [.int (hi1 102 j4), .int ((((402 : Int32) * a0) + a1) + (1 : Int32)), .ref 102] (rx_hp L t (rx_u (rx_u hi1 104 j51 (vp_nar .boolean (0 : Int32))) 101 j52 (hi1 101 j3)) hl1 v1) Q
            obtain ⟨j53, ej53, hj53, k⟩ := k
            refine rx_aw_iast (pc := 259) (n := 2412) j53 ej53 rfl rfl (by decide) rfl hj53 (by decide) ?_
            show rx_aw 193 260 [.ref 90, .int a0, .int a1, .int (((402 : Int32) * a0) + a1), .int z1, .int (hi1 103 j2), .int (hi1 101 j3), .int (hi1 102 j4), .int (0 : Int32), rx_no] [] (rx_hp L t (rx_u (rx_u (rx_u hi1 104 j51 (vp_nar .boolean (0 : Int32))) 101 j52 (hi1 101 j3)) 102 j53 (hi1 102 j4)) hl1 v1) Q
            refine rx_aw_s 6 (pc := 260) rfl ?_
            show rx_aw 193 269 [.ref 90, .int a0, .int a1, .int (((402 : Int32) * a0) + a1), .int z1, .int (hi1 103 j2), .int (hi1 101 j3), .int (hi1 102 j4), .int (0 : Int32), rx_no] [.int (hi1 103 j2), .int ((((402 : Int32) * a0) + a1) + (1 : Int32)), .ref 103] (rx_hp L t (rx_u (rx_u (rx_u hi1 104 j51 (vp_nar .boolean (0 : Int32))) 101 j52 (hi1 101 j3)) 102 j53 (hi1 102 j4)) hl1 v1) Q
            obtain ⟨j54, ej54, hj54, k⟩ := k
            refine rx_aw_iast (pc := 269) (n := 2412) j54 ej54 rfl rfl (by decide) rfl hj54 (by decide) ?_
            show rx_aw 193 270 [.ref 90, .int a0, .int a1, .int (((402 : Int32) * a0) + a1), .int z1, .int (hi1 103 j2), .int (hi1 101 j3), .int (hi1 102 j4), .int (0 : Int32), rx_no] [] (rx_hp L t (rx_u (rx_u (rx_u (rx_u hi1 104 j51 (vp_nar .boolean (0 : Int32))) 101 j52 (hi1 101 j3)) 102 j53 (hi1 102 j4)) 103 j54 (hi1 103 j2)) hl1 v1) Q
            exact rx_aw_ret (pc := 270) rfl k
      · have k := k.2 c39
        show rx_aw 193 163 [.ref 90, .int a0, .int a1, .int (((402 : Int32) * a0) + a1), .int z1, .int (hi1 103 j2), .int (hi1 101 j3), .int (hi1 102 j4), .int (1 : Int32), rx_no] [] (rx_hp L t hi1 hl1 v1) Q
        refine rx_aw_s 11 (pc := 163) rfl ?_
        show rx_aw 193 239 [.ref 90, .int a0, .int a1, .int (((402 : Int32) * a0) + a1), .int z1, .int (hi1 103 j2), .int (hi1 101 j3), .int (hi1 102 j4), .int (0 : Int32), rx_no] [.int (0 : Int32), .int (((402 : Int32) * a0) + a1), .ref 104] (rx_hp L t hi1 hl1 v1) Q
        obtain ⟨j55, ej55, hj55, k⟩ := k
        refine rx_aw_zast (pc := 239) (n := 2412) j55 ej55 rfl rfl (by decide) rfl hj55 (by decide) ?_
        show rx_aw 193 240 [.ref 90, .int a0, .int a1, .int (((402 : Int32) * a0) + a1), .int z1, .int (hi1 103 j2), .int (hi1 101 j3), .int (hi1 102 j4), .int (0 : Int32), rx_no] [] (rx_hp L t (rx_u hi1 104 j55 (vp_nar .boolean (0 : Int32))) hl1 v1) Q
        refine rx_aw_s 6 (pc := 240) rfl ?_
        show rx_aw 193 249 [.ref 90, .int a0, .int a1, .int (((402 : Int32) * a0) + a1), .int z1, .int (hi1 103 j2), .int (hi1 101 j3), .int (hi1 102 j4), .int (0 : Int32), rx_no] [.int (hi1 101 j3), .int ((((402 : Int32) * a0) + a1) + (1 : Int32)), .ref 101] (rx_hp L t (rx_u hi1 104 j55 (vp_nar .boolean (0 : Int32))) hl1 v1) Q
        obtain ⟨j56, ej56, hj56, k⟩ := k
        refine rx_aw_iast (pc := 249) (n := 2412) j56 ej56 rfl rfl (by decide) rfl hj56 (by decide) ?_
        show rx_aw 193 250 [.ref 90, .int a0, .int a1, .int (((402 : Int32) * a0) + a1), .int z1, .int (hi1 103 j2), .int (hi1 101 j3), .int (hi1 102 j4), .int (0 : Int32), rx_no] [] (rx_hp L t (rx_u (rx_u hi1 104 j55 (vp_nar .boolean (0 : Int32))) 101 j56 (hi1 101 j3)) hl1 v1) Q
        refine rx_aw_s 6 (pc := 250) rfl ?_
        show rx_aw 193 259 [.ref 90, .int a0, .int a1, .int (((402 : Int32) * a0) + a1), .int z1, .int (hi1 103 j2), .int (hi1 101 j3), .int (hi1 102 j4), .int (0 : Int32), rx_no] [.int (hi1 102 j4), .int ((((402 : Int32) * a0) + a1) + (1 : Int32)), .ref 102] (rx_hp L t (rx_u (rx_u hi1 104 j55 (vp_nar .boolean (0 : Int32))) 101 j56 (hi1 101 j3)) hl1 v1) Q
        obtain ⟨j57, ej57, hj57, k⟩ := k
        refine rx_aw_iast (pc := 259) (n := 2412) j57 ej57 rfl rfl (by decide) rfl hj57 (by decide) ?_
        show rx_aw 193 260 [.ref 90, .int a0, .int a1, .int (((402 : Int32) * a0) + a1), .int z1, .int (hi1 103 j2), .int (hi1 101 j3), .int (hi1 102 j4), .int (0 : Int32), rx_no] [] (rx_hp L t (rx_u (rx_u (rx_u hi1 104 j55 (vp_nar .boolean (0 : Int32))) 101 j56 (hi1 101 j3)) 102 j57 (hi1 102 j4)) hl1 v1) Q
        refine rx_aw_s 6 (pc := 260) rfl ?_
        show rx_aw 193 269 [.ref 90, .int a0, .int a1, .int (((402 : Int32) * a0) + a1), .int z1, .int (hi1 103 j2), .int (hi1 101 j3), .int (hi1 102 j4), .int (0 : Int32), rx_no] [.int (hi1 103 j2), .int ((((402 : Int32) * a0) + a1) + (1 : Int32)), .ref 103] (rx_hp L t (rx_u (rx_u (rx_u hi1 104 j55 (vp_nar .boolean (0 : Int32))) 101 j56 (hi1 101 j3)) 102 j57 (hi1 102 j4)) hl1 v1) Q
        obtain ⟨j58, ej58, hj58, k⟩ := k
        refine rx_aw_iast (pc := 269) (n := 2412) j58 ej58 rfl rfl (by decide) rfl hj58 (by decide) ?_
        show rx_aw 193 270 [.ref 90, .int a0, .int a1, .int (((402 : Int32) * a0) + a1), .int z1, .int (hi1 103 j2), .int (hi1 101 j3), .int (hi1 102 j4), .int (0 : Int32), rx_no] [] (rx_hp L t (rx_u (rx_u (rx_u (rx_u hi1 104 j55 (vp_nar .boolean (0 : Int32))) 101 j56 (hi1 101 j3)) 102 j57 (hi1 102 j4)) 103 j58 (hi1 103 j2)) hl1 v1) Q
        exact rx_aw_ret (pc := 270) rfl k
    · have k := k.2 c37
      show rx_aw 193 182 [.ref 90, .int a0, .int a1, .int (((402 : Int32) * a0) + a1), .int z1, .int (hi1 103 j2), .int (hi1 101 j3), .int (hi1 102 j4), .int (1 : Int32), rx_no] [] (rx_hp L t hi1 hl1 v1) Q
      refine rx_aw_s 4 (pc := 182) rfl ?_
      show rx_aw 193 188 [.ref 90, .int a0, .int a1, .int (((402 : Int32) * a0) + a1), .int z1, .int (hi1 103 j2), .int (hi1 101 j3), .int (hi1 102 j4), .int (1 : Int32), rx_no] [.int a0, .ref 93, .ref 90] (rx_hp L t hi1 hl1 v1) Q
      obtain ⟨j59, ej59, hj59, k⟩ := k
      refine rx_aw_iald (pc := 188) (n := 6) j59 ej59 rfl rfl rfl hj59 (by decide) ?_
      show rx_aw 193 189 [.ref 90, .int a0, .int a1, .int (((402 : Int32) * a0) + a1), .int z1, .int (hi1 103 j2), .int (hi1 101 j3), .int (hi1 102 j4), .int (1 : Int32), rx_no] [.int (hi1 93 j59), .ref 90] (rx_hp L t hi1 hl1 v1) Q
      refine rx_aw_s 3 (pc := 189) rfl ?_
      show rx_aw 193 195 [.ref 90, .int a0, .int a1, .int (((402 : Int32) * a0) + a1), .int z1, .int (hi1 103 j2), .int (hi1 101 j3), .int (hi1 102 j4), .int (1 : Int32), rx_no] [.int z1, .int (hi1 102 j4), .int (hi1 101 j3), .int (hi1 93 j59), .ref 90] (rx_hp L t hi1 hl1 v1) Q
      refine rx_w_callI (j := 184) (pc := 195) rfl rfl rfl rfl rfl ?_
      refine rx_aw.mono k (fun r h2 k => ?_)
      obtain ⟨z60, rfl, hi60, hl60, v60, rfl, k⟩ := k
      refine ⟨z60, rfl, ?_⟩
      show rx_aw 193 198 [.ref 90, .int a0, .int a1, .int (((402 : Int32) * a0) + a1), .int z1, .int (hi1 103 j2), .int (hi1 101 j3), .int (hi1 102 j4), .int (1 : Int32), rx_no] [.int z60] (rx_hp L t hi60 hl60 v60) Q
      refine rx_aw_s 3 (pc := 198) rfl ?_
      refine rx_w_if (c := z60 = 0) ⟨fun c61 => ?_, fun c61 => ?_⟩
      · have k := k.1 c61
        show rx_aw 193 212 [.ref 90, .int a0, .int a1, .int (((402 : Int32) * a0) + a1), .int z1, .int (hi1 103 j2), .int (hi1 101 j3), .int (hi1 102 j4), .int z60, rx_no] [] (rx_hp L t hi60 hl60 v60) Q
        refine rx_aw_s 4 (pc := 212) rfl ?_
        refine rx_w_if (c := z60 = 0) ⟨fun c62 => ?_, fun c62 => ?_⟩
        · have k := k.1 c62
          show rx_aw 193 228 [.ref 90, .int a0, .int a1, .int (((402 : Int32) * a0) + a1), .int z1, .int (hi1 103 j2), .int (hi1 101 j3), .int (hi1 102 j4), .int z60, rx_no] [] (rx_hp L t hi60 hl60 v60) Q
          refine rx_aw_s 6 (pc := 228) rfl ?_
          show rx_aw 193 239 [.ref 90, .int a0, .int a1, .int (((402 : Int32) * a0) + a1), .int z1, .int (hi1 103 j2), .int (hi1 101 j3), .int (hi1 102 j4), .int z60, rx_no] [.int z60, .int (((402 : Int32) * a0) + a1), .ref 104] (rx_hp L t hi60 hl60 v60) Q
          obtain ⟨j63, ej63, hj63, k⟩ := k
          refine rx_aw_zast (pc := 239) (n := 2412) j63 ej63 rfl rfl (by decide) rfl hj63 (by decide) ?_
          show rx_aw 193 240 [.ref 90, .int a0, .int a1, .int (((402 : Int32) * a0) + a1), .int z1, .int (hi1 103 j2), .int (hi1 101 j3), .int (hi1 102 j4), .int z60, rx_no] [] (rx_hp L t (rx_u hi60 104 j63 (vp_nar .boolean z60)) hl60 v60) Q
          refine rx_aw_s 6 (pc := 240) rfl ?_
          show rx_aw 193 249 [.ref 90, .int a0, .int a1, .int (((402 : Int32) * a0) + a1), .int z1, .int (hi1 103 j2), .int (hi1 101 j3), .int (hi1 102 j4), .int z60, rx_no] [.int (hi1 101 j3), .int ((((402 : Int32) * a0) + a1) + (1 : Int32)), .ref 101] (rx_hp L t (rx_u hi60 104 j63 (vp_nar .boolean z60)) hl60 v60) Q
          obtain ⟨j64, ej64, hj64, k⟩ := k
          refine rx_aw_iast (pc := 249) (n := 2412) j64 ej64 rfl rfl (by decide) rfl hj64 (by decide) ?_
          show rx_aw 193 250 [.ref 90, .int a0, .int a1, .int (((402 : Int32) * a0) + a1), .int z1, .int (hi1 103 j2), .int (hi1 101 j3), .int (hi1 102 j4), .int z60, rx_no] [] (rx_hp L t (rx_u (rx_u hi60 104 j63 (vp_nar .boolean z60)) 101 j64 (hi1 101 j3)) hl60 v60) Q
          refine rx_aw_s 6 (pc := 250) rfl ?_
          show rx_aw 193 259 [.ref 90, .int a0, .int a1, .int (((402 : Int32) * a0) + a1), .int z1, .int (hi1 103 j2), .int (hi1 101 j3), .int (hi1 102 j4), .int z60, rx_no] [.int (hi1 102 j4), .int ((((402 : Int32) * a0) + a1) + (1 : Int32)), .ref 102] (rx_hp L t (rx_u (rx_u hi60 104 j63 (vp_nar .boolean z60)) 101 j64 (hi1 101 j3)) hl60 v60) Q
          obtain ⟨j65, ej65, hj65, k⟩ := k
          refine rx_aw_iast (pc := 259) (n := 2412) j65 ej65 rfl rfl (by decide) rfl hj65 (by decide) ?_
          show rx_aw 193 260 [.ref 90, .int a0, .int a1, .int (((402 : Int32) * a0) + a1), .int z1, .int (hi1 103 j2), .int (hi1 101 j3), .int (hi1 102 j4), .int z60, rx_no] [] (rx_hp L t (rx_u (rx_u (rx_u hi60 104 j63 (vp_nar .boolean z60)) 101 j64 (hi1 101 j3)) 102 j65 (hi1 102 j4)) hl60 v60) Q
          refine rx_aw_s 6 (pc := 260) rfl ?_
          show rx_aw 193 269 [.ref 90, .int a0, .int a1, .int (((402 : Int32) * a0) + a1), .int z1, .int (hi1 103 j2), .int (hi1 101 j3), .int (hi1 102 j4), .int z60, rx_no] [.int (hi1 103 j2), .int ((((402 : Int32) * a0) + a1) + (1 : Int32)), .ref 103] (rx_hp L t (rx_u (rx_u (rx_u hi60 104 j63 (vp_nar .boolean z60)) 101 j64 (hi1 101 j3)) 102 j65 (hi1 102 j4)) hl60 v60) Q
          obtain ⟨j66, ej66, hj66, k⟩ := k
          refine rx_aw_iast (pc := 269) (n := 2412) j66 ej66 rfl rfl (by decide) rfl hj66 (by decide) ?_
          show rx_aw 193 270 [.ref 90, .int a0, .int a1, .int (((402 : Int32) * a0) + a1), .int z1, .int (hi1 103 j2), .int (hi1 101 j3), .int (hi1 102 j4), .int z60, rx_no] [] (rx_hp L t (rx_u (rx_u (rx_u (rx_u hi60 104 j63 (vp_nar .boolean z60)) 101 j64 (hi1 101 j3)) 102 j65 (hi1 102 j4)) 103 j66 (hi1 103 j2)) hl60 v60) Q
          exact rx_aw_ret (pc := 270) rfl k
        · have k := k.2 c62
          show rx_aw 193 221 [.ref 90, .int a0, .int a1, .int (((402 : Int32) * a0) + a1), .int z1, .int (hi1 103 j2), .int (hi1 101 j3), .int (hi1 102 j4), .int z60, rx_no] [] (rx_hp L t hi60 hl60 v60) Q
          refine rx_aw_s 8 (pc := 221) rfl ?_
          show rx_aw 193 239 [.ref 90, .int a0, .int a1, .int (((402 : Int32) * a0) + a1), .int z1, .int (hi1 103 j2), .int (hi1 101 j3), .int (hi60 90 34), .int z60, rx_no] [.int z60, .int (((402 : Int32) * a0) + a1), .ref 104] (rx_hp L t hi60 hl60 v60) Q
          obtain ⟨j67, ej67, hj67, k⟩ := k
          refine rx_aw_zast (pc := 239) (n := 2412) j67 ej67 rfl rfl (by decide) rfl hj67 (by decide) ?_
          show rx_aw 193 240 [.ref 90, .int a0, .int a1, .int (((402 : Int32) * a0) + a1), .int z1, .int (hi1 103 j2), .int (hi1 101 j3), .int (hi60 90 34), .int z60, rx_no] [] (rx_hp L t (rx_u hi60 104 j67 (vp_nar .boolean z60)) hl60 v60) Q
          refine rx_aw_s 6 (pc := 240) rfl ?_
          show rx_aw 193 249 [.ref 90, .int a0, .int a1, .int (((402 : Int32) * a0) + a1), .int z1, .int (hi1 103 j2), .int (hi1 101 j3), .int (hi60 90 34), .int z60, rx_no] [.int (hi1 101 j3), .int ((((402 : Int32) * a0) + a1) + (1 : Int32)), .ref 101] (rx_hp L t (rx_u hi60 104 j67 (vp_nar .boolean z60)) hl60 v60) Q
          obtain ⟨j68, ej68, hj68, k⟩ := k
          refine rx_aw_iast (pc := 249) (n := 2412) j68 ej68 rfl rfl (by decide) rfl hj68 (by decide) ?_
          show rx_aw 193 250 [.ref 90, .int a0, .int a1, .int (((402 : Int32) * a0) + a1), .int z1, .int (hi1 103 j2), .int (hi1 101 j3), .int (hi60 90 34), .int z60, rx_no] [] (rx_hp L t (rx_u (rx_u hi60 104 j67 (vp_nar .boolean z60)) 101 j68 (hi1 101 j3)) hl60 v60) Q
          refine rx_aw_s 6 (pc := 250) rfl ?_
          show rx_aw 193 259 [.ref 90, .int a0, .int a1, .int (((402 : Int32) * a0) + a1), .int z1, .int (hi1 103 j2), .int (hi1 101 j3), .int (hi60 90 34), .int z60, rx_no] [.int (hi60 90 34), .int ((((402 : Int32) * a0) + a1) + (1 : Int32)), .ref 102] (rx_hp L t (rx_u (rx_u hi60 104 j67 (vp_nar .boolean z60)) 101 j68 (hi1 101 j3)) hl60 v60) Q
          obtain ⟨j69, ej69, hj69, k⟩ := k
          refine rx_aw_iast (pc := 259) (n := 2412) j69 ej69 rfl rfl (by decide) rfl hj69 (by decide) ?_
          show rx_aw 193 260 [.ref 90, .int a0, .int a1, .int (((402 : Int32) * a0) + a1), .int z1, .int (hi1 103 j2), .int (hi1 101 j3), .int (hi60 90 34), .int z60, rx_no] [] (rx_hp L t (rx_u (rx_u (rx_u hi60 104 j67 (vp_nar .boolean z60)) 101 j68 (hi1 101 j3)) 102 j69 (hi60 90 34)) hl60 v60) Q
          refine rx_aw_s 6 (pc := 260) rfl ?_
          show rx_aw 193 269 [.ref 90, .int a0, .int a1, .int (((402 : Int32) * a0) + a1), .int z1, .int (hi1 103 j2), .int (hi1 101 j3), .int (hi60 90 34), .int z60, rx_no] [.int (hi1 103 j2), .int ((((402 : Int32) * a0) + a1) + (1 : Int32)), .ref 103] (rx_hp L t (rx_u (rx_u (rx_u hi60 104 j67 (vp_nar .boolean z60)) 101 j68 (hi1 101 j3)) 102 j69 (hi60 90 34)) hl60 v60) Q
          obtain ⟨j70, ej70, hj70, k⟩ := k
          refine rx_aw_iast (pc := 269) (n := 2412) j70 ej70 rfl rfl (by decide) rfl hj70 (by decide) ?_
          show rx_aw 193 270 [.ref 90, .int a0, .int a1, .int (((402 : Int32) * a0) + a1), .int z1, .int (hi1 103 j2), .int (hi1 101 j3), .int (hi60 90 34), .int z60, rx_no] [] (rx_hp L t (rx_u (rx_u (rx_u (rx_u hi60 104 j67 (vp_nar .boolean z60)) 101 j68 (hi1 101 j3)) 102 j69 (hi60 90 34)) 103 j70 (hi1 103 j2)) hl60 v60) Q
          exact rx_aw_ret (pc := 270) rfl k
      · have k := k.2 c61
        show rx_aw 193 205 [.ref 90, .int a0, .int a1, .int (((402 : Int32) * a0) + a1), .int z1, .int (hi1 103 j2), .int (hi1 101 j3), .int (hi1 102 j4), .int z60, rx_no] [] (rx_hp L t hi60 hl60 v60) Q
        refine rx_aw_s 6 (pc := 205) rfl ?_
        refine rx_w_if (c := z60 = 0) ⟨fun c71 => ?_, fun c71 => ?_⟩
        · have k := k.1 c71
          show rx_aw 193 228 [.ref 90, .int a0, .int a1, .int (((402 : Int32) * a0) + a1), .int z1, .int (hi1 103 j2), .int (hi60 90 33), .int (hi1 102 j4), .int z60, rx_no] [] (rx_hp L t hi60 hl60 v60) Q
          refine rx_aw_s 6 (pc := 228) rfl ?_
          show rx_aw 193 239 [.ref 90, .int a0, .int a1, .int (((402 : Int32) * a0) + a1), .int z1, .int (hi1 103 j2), .int (hi60 90 33), .int (hi1 102 j4), .int z60, rx_no] [.int z60, .int (((402 : Int32) * a0) + a1), .ref 104] (rx_hp L t hi60 hl60 v60) Q
          obtain ⟨j72, ej72, hj72, k⟩ := k
          refine rx_aw_zast (pc := 239) (n := 2412) j72 ej72 rfl rfl (by decide) rfl hj72 (by decide) ?_
          show rx_aw 193 240 [.ref 90, .int a0, .int a1, .int (((402 : Int32) * a0) + a1), .int z1, .int (hi1 103 j2), .int (hi60 90 33), .int (hi1 102 j4), .int z60, rx_no] [] (rx_hp L t (rx_u hi60 104 j72 (vp_nar .boolean z60)) hl60 v60) Q
          refine rx_aw_s 6 (pc := 240) rfl ?_
          show rx_aw 193 249 [.ref 90, .int a0, .int a1, .int (((402 : Int32) * a0) + a1), .int z1, .int (hi1 103 j2), .int (hi60 90 33), .int (hi1 102 j4), .int z60, rx_no] [.int (hi60 90 33), .int ((((402 : Int32) * a0) + a1) + (1 : Int32)), .ref 101] (rx_hp L t (rx_u hi60 104 j72 (vp_nar .boolean z60)) hl60 v60) Q
          obtain ⟨j73, ej73, hj73, k⟩ := k
          refine rx_aw_iast (pc := 249) (n := 2412) j73 ej73 rfl rfl (by decide) rfl hj73 (by decide) ?_
          show rx_aw 193 250 [.ref 90, .int a0, .int a1, .int (((402 : Int32) * a0) + a1), .int z1, .int (hi1 103 j2), .int (hi60 90 33), .int (hi1 102 j4), .int z60, rx_no] [] (rx_hp L t (rx_u (rx_u hi60 104 j72 (vp_nar .boolean z60)) 101 j73 (hi60 90 33)) hl60 v60) Q
          refine rx_aw_s 6 (pc := 250) rfl ?_
          show rx_aw 193 259 [.ref 90, .int a0, .int a1, .int (((402 : Int32) * a0) + a1), .int z1, .int (hi1 103 j2), .int (hi60 90 33), .int (hi1 102 j4), .int z60, rx_no] [.int (hi1 102 j4), .int ((((402 : Int32) * a0) + a1) + (1 : Int32)), .ref 102] (rx_hp L t (rx_u (rx_u hi60 104 j72 (vp_nar .boolean z60)) 101 j73 (hi60 90 33)) hl60 v60) Q
          obtain ⟨j74, ej74, hj74, k⟩ := k
          refine rx_aw_iast (pc := 259) (n := 2412) j74 ej74 rfl rfl (by decide) rfl hj74 (by decide) ?_
          show rx_aw 193 260 [.ref 90, .int a0, .int a1, .int (((402 : Int32) * a0) + a1), .int z1, .int (hi1 103 j2), .int (hi60 90 33), .int (hi1 102 j4), .int z60, rx_no] [] (rx_hp L t (rx_u (rx_u (rx_u hi60 104 j72 (vp_nar .boolean z60)) 101 j73 (hi60 90 33)) 102 j74 (hi1 102 j4)) hl60 v60) Q
          refine rx_aw_s 6 (pc := 260) rfl ?_
          show rx_aw 193 269 [.ref 90, .int a0, .int a1, .int (((402 : Int32) * a0) + a1), .int z1, .int (hi1 103 j2), .int (hi60 90 33), .int (hi1 102 j4), .int z60, rx_no] [.int (hi1 103 j2), .int ((((402 : Int32) * a0) + a1) + (1 : Int32)), .ref 103] (rx_hp L t (rx_u (rx_u (rx_u hi60 104 j72 (vp_nar .boolean z60)) 101 j73 (hi60 90 33)) 102 j74 (hi1 102 j4)) hl60 v60) Q
          obtain ⟨j75, ej75, hj75, k⟩ := k
          refine rx_aw_iast (pc := 269) (n := 2412) j75 ej75 rfl rfl (by decide) rfl hj75 (by decide) ?_
          show rx_aw 193 270 [.ref 90, .int a0, .int a1, .int (((402 : Int32) * a0) + a1), .int z1, .int (hi1 103 j2), .int (hi60 90 33), .int (hi1 102 j4), .int z60, rx_no] [] (rx_hp L t (rx_u (rx_u (rx_u (rx_u hi60 104 j72 (vp_nar .boolean z60)) 101 j73 (hi60 90 33)) 102 j74 (hi1 102 j4)) 103 j75 (hi1 103 j2)) hl60 v60) Q
          exact rx_aw_ret (pc := 270) rfl k
        · have k := k.2 c71
          show rx_aw 193 221 [.ref 90, .int a0, .int a1, .int (((402 : Int32) * a0) + a1), .int z1, .int (hi1 103 j2), .int (hi60 90 33), .int (hi1 102 j4), .int z60, rx_no] [] (rx_hp L t hi60 hl60 v60) Q
          refine rx_aw_s 8 (pc := 221) rfl ?_
          show rx_aw 193 239 [.ref 90, .int a0, .int a1, .int (((402 : Int32) * a0) + a1), .int z1, .int (hi1 103 j2), .int (hi60 90 33), .int (hi60 90 34), .int z60, rx_no] [.int z60, .int (((402 : Int32) * a0) + a1), .ref 104] (rx_hp L t hi60 hl60 v60) Q
          obtain ⟨j76, ej76, hj76, k⟩ := k
          refine rx_aw_zast (pc := 239) (n := 2412) j76 ej76 rfl rfl (by decide) rfl hj76 (by decide) ?_
          show rx_aw 193 240 [.ref 90, .int a0, .int a1, .int (((402 : Int32) * a0) + a1), .int z1, .int (hi1 103 j2), .int (hi60 90 33), .int (hi60 90 34), .int z60, rx_no] [] (rx_hp L t (rx_u hi60 104 j76 (vp_nar .boolean z60)) hl60 v60) Q
          refine rx_aw_s 6 (pc := 240) rfl ?_
          show rx_aw 193 249 [.ref 90, .int a0, .int a1, .int (((402 : Int32) * a0) + a1), .int z1, .int (hi1 103 j2), .int (hi60 90 33), .int (hi60 90 34), .int z60, rx_no] [.int (hi60 90 33), .int ((((402 : Int32) * a0) + a1) + (1 : Int32)), .ref 101] (rx_hp L t (rx_u hi60 104 j76 (vp_nar .boolean z60)) hl60 v60) Q
          obtain ⟨j77, ej77, hj77, k⟩ := k
          refine rx_aw_iast (pc := 249) (n := 2412) j77 ej77 rfl rfl (by decide) rfl hj77 (by decide) ?_
          show rx_aw 193 250 [.ref 90, .int a0, .int a1, .int (((402 : Int32) * a0) + a1), .int z1, .int (hi1 103 j2), .int (hi60 90 33), .int (hi60 90 34), .int z60, rx_no] [] (rx_hp L t (rx_u (rx_u hi60 104 j76 (vp_nar .boolean z60)) 101 j77 (hi60 90 33)) hl60 v60) Q
          refine rx_aw_s 6 (pc := 250) rfl ?_
          show rx_aw 193 259 [.ref 90, .int a0, .int a1, .int (((402 : Int32) * a0) + a1), .int z1, .int (hi1 103 j2), .int (hi60 90 33), .int (hi60 90 34), .int z60, rx_no] [.int (hi60 90 34), .int ((((402 : Int32) * a0) + a1) + (1 : Int32)), .ref 102] (rx_hp L t (rx_u (rx_u hi60 104 j76 (vp_nar .boolean z60)) 101 j77 (hi60 90 33)) hl60 v60) Q
          obtain ⟨j78, ej78, hj78, k⟩ := k
          refine rx_aw_iast (pc := 259) (n := 2412) j78 ej78 rfl rfl (by decide) rfl hj78 (by decide) ?_
          show rx_aw 193 260 [.ref 90, .int a0, .int a1, .int (((402 : Int32) * a0) + a1), .int z1, .int (hi1 103 j2), .int (hi60 90 33), .int (hi60 90 34), .int z60, rx_no] [] (rx_hp L t (rx_u (rx_u (rx_u hi60 104 j76 (vp_nar .boolean z60)) 101 j77 (hi60 90 33)) 102 j78 (hi60 90 34)) hl60 v60) Q
          refine rx_aw_s 6 (pc := 260) rfl ?_
          show rx_aw 193 269 [.ref 90, .int a0, .int a1, .int (((402 : Int32) * a0) + a1), .int z1, .int (hi1 103 j2), .int (hi60 90 33), .int (hi60 90 34), .int z60, rx_no] [.int (hi1 103 j2), .int ((((402 : Int32) * a0) + a1) + (1 : Int32)), .ref 103] (rx_hp L t (rx_u (rx_u (rx_u hi60 104 j76 (vp_nar .boolean z60)) 101 j77 (hi60 90 33)) 102 j78 (hi60 90 34)) hl60 v60) Q
          obtain ⟨j79, ej79, hj79, k⟩ := k
          refine rx_aw_iast (pc := 269) (n := 2412) j79 ej79 rfl rfl (by decide) rfl hj79 (by decide) ?_
          show rx_aw 193 270 [.ref 90, .int a0, .int a1, .int (((402 : Int32) * a0) + a1), .int z1, .int (hi1 103 j2), .int (hi60 90 33), .int (hi60 90 34), .int z60, rx_no] [] (rx_hp L t (rx_u (rx_u (rx_u (rx_u hi60 104 j76 (vp_nar .boolean z60)) 101 j77 (hi60 90 33)) 102 j78 (hi60 90 34)) 103 j79 (hi1 103 j2)) hl60 v60) Q
          exact rx_aw_ret (pc := 270) rfl k
set_option maxRecDepth 100000 in
/-- CartFloorModel.moveAt(II)I -/
theorem w194_moveAt_r {L : Nat} {t : List (Nat × Nat)} {hi : Nat → Nat → Int32} {hl : Nat → Nat → Int64} {v : Nat → Nat → Option Nat} {Q : Option Value → rx_H → Prop} {a0 : Int32} {a1 : Int32} (k : (∃ j1 : Nat, a0 = nI j1 ∧ j1 < 6 ∧ (((hi 94 j1) ≤ a1 → Q (some (.int (0 : Int32))) (rx_hp L t hi hl v)) ∧ (¬ ((hi 94 j1) ≤ a1) → (∃ j3 : Nat, (((400 : Int32) * a0) + a1) = nI j3 ∧ j3 < 2400 ∧ Q (some (.int (hi 95 j3))) (rx_hp L t hi hl v)))))) : rx_me 194 [.ref 90, .int a0, .int a1] (rx_hp L t hi hl v) Q := by
  show rx_aw 194 0 [.ref 90, .int a0, .int a1] [] (rx_hp L t hi hl v) Q
  refine rx_aw_s 4 (pc := 0) rfl ?_
  show rx_aw 194 6 [.ref 90, .int a0, .int a1] [.int a0, .ref 94, .int a1] (rx_hp L t hi hl v) Q
  obtain ⟨j1, ej1, hj1, k⟩ := k
  refine rx_aw_iald (pc := 6) (n := 6) j1 ej1 rfl rfl rfl hj1 (by decide) ?_
  show rx_aw 194 7 [.ref 90, .int a0, .int a1] [.int (hi 94 j1), .int a1] (rx_hp L t hi hl v) Q
  refine rx_aw_s 1 (pc := 7) rfl ?_
  refine rx_w_if (c := (hi 94 j1) ≤ a1) ⟨fun c2 => ?_, fun c2 => ?_⟩
  · have k := k.1 c2
    show rx_aw 194 25 [.ref 90, .int a0, .int a1] [] (rx_hp L t hi hl v) Q
    refine rx_aw_s 1 (pc := 25) rfl ?_
    show rx_aw 194 26 [.ref 90, .int a0, .int a1] [.int (0 : Int32)] (rx_hp L t hi hl v) Q
    exact rx_aw_ret (pc := 26) rfl k
  · have k := k.2 c2
    show rx_aw 194 10 [.ref 90, .int a0, .int a1] [] (rx_hp L t hi hl v) Q
    refine rx_aw_s 7 (pc := 10) rfl ?_
    show rx_aw 194 21 [.ref 90, .int a0, .int a1] [.int (((400 : Int32) * a0) + a1), .ref 95] (rx_hp L t hi hl v) Q
    obtain ⟨j3, ej3, hj3, k⟩ := k
    refine rx_aw_iald (pc := 21) (n := 2400) j3 ej3 rfl rfl rfl hj3 (by decide) ?_
    show rx_aw 194 22 [.ref 90, .int a0, .int a1] [.int (hi 95 j3)] (rx_hp L t hi hl v) Q
    refine rx_aw_s 1 (pc := 22) rfl ?_
    show rx_aw 194 26 [.ref 90, .int a0, .int a1] [.int (hi 95 j3)] (rx_hp L t hi hl v) Q
    exact rx_aw_ret (pc := 26) rfl k
set_option maxRecDepth 100000 in
/-- CartFloorModel.looseShelf(II)I -/
theorem w195_looseShelf_r {L : Nat} {t : List (Nat × Nat)} {hi : Nat → Nat → Int32} {hl : Nat → Nat → Int64} {v : Nat → Nat → Option Nat} {Q : Option Value → rx_H → Prop} {a0 : Int32} {a1 : Int32} (k : rx_aw 195 2 [.ref 90, .int a0, .int a1, .int (0 : Int32)] [] (rx_hp L t hi hl v) Q) : rx_me 195 [.ref 90, .int a0, .int a1] (rx_hp L t hi hl v) Q := by
  show rx_aw 195 0 [.ref 90, .int a0, .int a1, rx_no] [] (rx_hp L t hi hl v) Q
  refine rx_aw_s 2 (pc := 0) rfl ?_
  show rx_aw 195 2 [.ref 90, .int a0, .int a1, .int (0 : Int32)] [] (rx_hp L t hi hl v) Q
  exact k
set_option maxRecDepth 100000 in
theorem w195_looseShelf_r_2 {L : Nat} {t : List (Nat × Nat)} {hi : Nat → Nat → Int32} {hl : Nat → Nat → Int64} {v : Nat → Nat → Option Nat} {Q : Option Value → rx_H → Prop} {x1 : Int32} {x2 : Int32} {x3 : Int32} (k : (((hi 90 21) ≤ x3 → Q (some (.int (-1 : Int32))) (rx_hp L t hi hl v)) ∧ (¬ ((hi 90 21) ≤ x3) → (∃ j2 : Nat, (((402 : Int32) * x3) + x2) = nI j2 ∧ j2 < 4824 ∧ (((hi 108 j2) = x1 → rx_me 178 [.ref 90, .int x3, .int x2] (rx_hp L t hi hl v) (fun r h2 => ∃ z4 : Int32, r = some (.int z4) ∧ rx_ok2 L t h2 (fun hi4 hl4 v4 => ((z4 = 0 → Q (some (.int x3)) (rx_hp L t hi4 hl4 v4)) ∧ (¬ (z4 = 0) → rx_aw 195 2 [.ref 90, .int x1, .int x2, .int (x3 + (1 : Int32))] [] (rx_hp L t hi4 hl4 v4) Q))))) ∧ (¬ ((hi 108 j2) = x1) → rx_aw 195 2 [.ref 90, .int x1, .int x2, .int (x3 + (1 : Int32))] [] (rx_hp L t hi hl v) Q)))))) : rx_aw 195 2 [.ref 90, .int x1, .int x2, .int x3] [] (rx_hp L t hi hl v) Q := by
  refine rx_aw_s 4 (pc := 2) rfl ?_
  refine rx_w_if (c := (hi 90 21) ≤ x3) ⟨fun c1 => ?_, fun c1 => ?_⟩
  · have k := k.1 c1
    show rx_aw 195 43 [.ref 90, .int x1, .int x2, .int x3] [] (rx_hp L t hi hl v) Q
    refine rx_aw_s 1 (pc := 43) rfl ?_
    show rx_aw 195 44 [.ref 90, .int x1, .int x2, .int x3] [.int (-1 : Int32)] (rx_hp L t hi hl v) Q
    exact rx_aw_ret (pc := 44) rfl k
  · have k := k.2 c1
    show rx_aw 195 10 [.ref 90, .int x1, .int x2, .int x3] [] (rx_hp L t hi hl v) Q
    refine rx_aw_s 7 (pc := 10) rfl ?_
    show rx_aw 195 21 [.ref 90, .int x1, .int x2, .int x3] [.int (((402 : Int32) * x3) + x2), .ref 108] (rx_hp L t hi hl v) Q
    obtain ⟨j2, ej2, hj2, k⟩ := k
    refine rx_aw_iald (pc := 21) (n := 4824) j2 ej2 rfl rfl rfl hj2 (by decide) ?_
    show rx_aw 195 22 [.ref 90, .int x1, .int x2, .int x3] [.int (hi 108 j2)] (rx_hp L t hi hl v) Q
    refine rx_aw_s 2 (pc := 22) rfl ?_
    refine rx_w_ifn (c := (hi 108 j2) = x1) ⟨fun c3 => ?_, fun c3 => ?_⟩
    · have k := k.1 c3
      show rx_aw 195 26 [.ref 90, .int x1, .int x2, .int x3] [] (rx_hp L t hi hl v) Q
      refine rx_aw_s 3 (pc := 26) rfl ?_
      show rx_aw 195 29 [.ref 90, .int x1, .int x2, .int x3] [.int x2, .int x3, .ref 90] (rx_hp L t hi hl v) Q
      refine rx_w_callI (j := 178) (pc := 29) rfl rfl rfl rfl rfl ?_
      refine rx_aw.mono k (fun r h2 k => ?_)
      obtain ⟨z4, rfl, hi4, hl4, v4, rfl, k⟩ := k
      refine ⟨z4, rfl, ?_⟩
      show rx_aw 195 32 [.ref 90, .int x1, .int x2, .int x3] [.int z4] (rx_hp L t hi4 hl4 v4) Q
      refine rx_aw_s 1 (pc := 32) rfl ?_
      refine rx_w_ifn (c := z4 = 0) ⟨fun c5 => ?_, fun c5 => ?_⟩
      · have k := k.1 c5
        show rx_aw 195 35 [.ref 90, .int x1, .int x2, .int x3] [] (rx_hp L t hi4 hl4 v4) Q
        refine rx_aw_s 1 (pc := 35) rfl ?_
        show rx_aw 195 36 [.ref 90, .int x1, .int x2, .int x3] [.int x3] (rx_hp L t hi4 hl4 v4) Q
        exact rx_aw_ret (pc := 36) rfl k
      · have k := k.2 c5
        show rx_aw 195 37 [.ref 90, .int x1, .int x2, .int x3] [] (rx_hp L t hi4 hl4 v4) Q
        refine rx_aw_s 2 (pc := 37) rfl ?_
        show rx_aw 195 2 [.ref 90, .int x1, .int x2, .int (x3 + (1 : Int32))] [] (rx_hp L t hi4 hl4 v4) Q
        exact k
    · have k := k.2 c3
      show rx_aw 195 37 [.ref 90, .int x1, .int x2, .int x3] [] (rx_hp L t hi hl v) Q
      refine rx_aw_s 2 (pc := 37) rfl ?_
      show rx_aw 195 2 [.ref 90, .int x1, .int x2, .int (x3 + (1 : Int32))] [] (rx_hp L t hi hl v) Q
      exact k
set_option maxRecDepth 100000 in
/-- CartFloorModel.turned(II)J -/
theorem w196_turned_r {L : Nat} {t : List (Nat × Nat)} {hi : Nat → Nat → Int32} {hl : Nat → Nat → Int64} {v : Nat → Nat → Option Nat} {Q : Option Value → rx_H → Prop} {a0 : Int32} {a1 : Int32} (k : rx_me 194 [.ref 90, .int a0, .int a1] (rx_hp L t hi hl v) (fun r h2 => ∃ z1 : Int32, r = some (.int z1) ∧ rx_ok2 L t h2 (fun hi1 hl1 v1 => (((402 : Int32) ≤ (a1 + (1 : Int32)) → Q (some (.long (0 : Int64))) (rx_hp L t hi1 hl1 v1)) ∧ (¬ ((402 : Int32) ≤ (a1 + (1 : Int32))) → (∃ j3 : Nat, a0 = nI j3 ∧ j3 < 6 ∧ rx_me 186 [.ref 90, .int (hi1 93 j3), .int z1] (rx_hp L t hi1 hl1 v1) (fun r h2 => ∃ z4 : Int32, r = some (.int z4) ∧ rx_ok2 L t h2 (fun hi4 hl4 v4 => ((z4 = 0 → Q (some (.long (0 : Int64))) (rx_hp L t hi4 hl4 v4)) ∧ (¬ (z4 = 0) → (∃ j6 : Nat, (((402 : Int32) * a0) + a1) = nI j6 ∧ j6 < 2412 ∧ (((hi4 104 j6) = 0 → Q (some (.long (0 : Int64))) (rx_hp L t hi4 hl4 v4)) ∧ (¬ ((hi4 104 j6) = 0) → (∃ j8 : Nat, (((402 : Int32) * a0) + a1) = nI j8 ∧ j8 < 2412 ∧ (∃ j9 : Nat, (((402 : Int32) * a0) + a1) = nI j9 ∧ j9 < 2412 ∧ rx_me 185 [.ref 90, .int (hi4 101 j8), .int (hi4 102 j9), .int z1] (rx_hp L t hi4 hl4 v4) (fun r h2 => ∃ z10 : Int64, r = some (.long z10) ∧ rx_ok2 L t h2 (fun hi10 hl10 v10 => Q (some (.long z10)) (rx_hp L t hi10 hl10 v10)))))))))))))))))) : rx_me 196 [.ref 90, .int a0, .int a1] (rx_hp L t hi hl v) Q := by
  show rx_aw 196 0 [.ref 90, .int a0, .int a1, rx_no, rx_no] [] (rx_hp L t hi hl v) Q
  refine rx_aw_s 9 (pc := 0) rfl ?_
  show rx_aw 196 11 [.ref 90, .int a0, .int a1, .int (((402 : Int32) * a0) + a1), rx_no] [.int a1, .int a0, .ref 90] (rx_hp L t hi hl v) Q
  refine rx_w_callI (j := 194) (pc := 11) rfl rfl rfl rfl rfl ?_
  refine rx_aw.mono k (fun r h2 k => ?_)
  obtain ⟨z1, rfl, hi1, hl1, v1, rfl, k⟩ := k
  refine ⟨z1, rfl, ?_⟩
  show rx_aw 196 14 [.ref 90, .int a0, .int a1, .int (((402 : Int32) * a0) + a1), rx_no] [.int z1] (rx_hp L t hi1 hl1 v1) Q
  refine rx_aw_s 6 (pc := 14) rfl ?_
  refine rx_w_if (c := (402 : Int32) ≤ (a1 + (1 : Int32))) ⟨fun c2 => ?_, fun c2 => ?_⟩
  · have k := k.1 c2
    show rx_aw 196 70 [.ref 90, .int a0, .int a1, .int (((402 : Int32) * a0) + a1), .int z1] [] (rx_hp L t hi1 hl1 v1) Q
    refine rx_aw_s 1 (pc := 70) rfl ?_
    show rx_aw 196 71 [.ref 90, .int a0, .int a1, .int (((402 : Int32) * a0) + a1), .int z1] [.long (0 : Int64)] (rx_hp L t hi1 hl1 v1) Q
    exact rx_aw_ret (pc := 71) rfl k
  · have k := k.2 c2
    show rx_aw 196 25 [.ref 90, .int a0, .int a1, .int (((402 : Int32) * a0) + a1), .int z1] [] (rx_hp L t hi1 hl1 v1) Q
    refine rx_aw_s 4 (pc := 25) rfl ?_
    show rx_aw 196 31 [.ref 90, .int a0, .int a1, .int (((402 : Int32) * a0) + a1), .int z1] [.int a0, .ref 93, .ref 90] (rx_hp L t hi1 hl1 v1) Q
    obtain ⟨j3, ej3, hj3, k⟩ := k
    refine rx_aw_iald (pc := 31) (n := 6) j3 ej3 rfl rfl rfl hj3 (by decide) ?_
    show rx_aw 196 32 [.ref 90, .int a0, .int a1, .int (((402 : Int32) * a0) + a1), .int z1] [.int (hi1 93 j3), .ref 90] (rx_hp L t hi1 hl1 v1) Q
    refine rx_aw_s 1 (pc := 32) rfl ?_
    show rx_aw 196 34 [.ref 90, .int a0, .int a1, .int (((402 : Int32) * a0) + a1), .int z1] [.int z1, .int (hi1 93 j3), .ref 90] (rx_hp L t hi1 hl1 v1) Q
    refine rx_w_callI (j := 186) (pc := 34) rfl rfl rfl rfl rfl ?_
    refine rx_aw.mono k (fun r h2 k => ?_)
    obtain ⟨z4, rfl, hi4, hl4, v4, rfl, k⟩ := k
    refine ⟨z4, rfl, ?_⟩
    show rx_aw 196 37 [.ref 90, .int a0, .int a1, .int (((402 : Int32) * a0) + a1), .int z1] [.int z4] (rx_hp L t hi4 hl4 v4) Q
    refine rx_aw_s 1 (pc := 37) rfl ?_
    refine rx_w_if (c := z4 = 0) ⟨fun c5 => ?_, fun c5 => ?_⟩
    · have k := k.1 c5
      show rx_aw 196 70 [.ref 90, .int a0, .int a1, .int (((402 : Int32) * a0) + a1), .int z1] [] (rx_hp L t hi4 hl4 v4) Q
      refine rx_aw_s 1 (pc := 70) rfl ?_
      show rx_aw 196 71 [.ref 90, .int a0, .int a1, .int (((402 : Int32) * a0) + a1), .int z1] [.long (0 : Int64)] (rx_hp L t hi4 hl4 v4) Q
      exact rx_aw_ret (pc := 71) rfl k
    · have k := k.2 c5
      show rx_aw 196 40 [.ref 90, .int a0, .int a1, .int (((402 : Int32) * a0) + a1), .int z1] [] (rx_hp L t hi4 hl4 v4) Q
      refine rx_aw_s 3 (pc := 40) rfl ?_
      show rx_aw 196 45 [.ref 90, .int a0, .int a1, .int (((402 : Int32) * a0) + a1), .int z1] [.int (((402 : Int32) * a0) + a1), .ref 104] (rx_hp L t hi4 hl4 v4) Q
      obtain ⟨j6, ej6, hj6, k⟩ := k
      refine rx_aw_bald (pc := 45) (n := 2412) j6 ej6 rfl (Or.inr rfl) (by decide) rfl hj6 (by decide) ?_
      show rx_aw 196 46 [.ref 90, .int a0, .int a1, .int (((402 : Int32) * a0) + a1), .int z1] [.int (hi4 104 j6)] (rx_hp L t hi4 hl4 v4) Q
      refine rx_aw_s 1 (pc := 46) rfl ?_
      refine rx_w_if (c := (hi4 104 j6) = 0) ⟨fun c7 => ?_, fun c7 => ?_⟩
      · have k := k.1 c7
        show rx_aw 196 70 [.ref 90, .int a0, .int a1, .int (((402 : Int32) * a0) + a1), .int z1] [] (rx_hp L t hi4 hl4 v4) Q
        refine rx_aw_s 1 (pc := 70) rfl ?_
        show rx_aw 196 71 [.ref 90, .int a0, .int a1, .int (((402 : Int32) * a0) + a1), .int z1] [.long (0 : Int64)] (rx_hp L t hi4 hl4 v4) Q
        exact rx_aw_ret (pc := 71) rfl k
      · have k := k.2 c7
        show rx_aw 196 49 [.ref 90, .int a0, .int a1, .int (((402 : Int32) * a0) + a1), .int z1] [] (rx_hp L t hi4 hl4 v4) Q
        refine rx_aw_s 4 (pc := 49) rfl ?_
        show rx_aw 196 55 [.ref 90, .int a0, .int a1, .int (((402 : Int32) * a0) + a1), .int z1] [.int (((402 : Int32) * a0) + a1), .ref 101, .ref 90] (rx_hp L t hi4 hl4 v4) Q
        obtain ⟨j8, ej8, hj8, k⟩ := k
        refine rx_aw_iald (pc := 55) (n := 2412) j8 ej8 rfl rfl rfl hj8 (by decide) ?_
        show rx_aw 196 56 [.ref 90, .int a0, .int a1, .int (((402 : Int32) * a0) + a1), .int z1] [.int (hi4 101 j8), .ref 90] (rx_hp L t hi4 hl4 v4) Q
        refine rx_aw_s 3 (pc := 56) rfl ?_
        show rx_aw 196 61 [.ref 90, .int a0, .int a1, .int (((402 : Int32) * a0) + a1), .int z1] [.int (((402 : Int32) * a0) + a1), .ref 102, .int (hi4 101 j8), .ref 90] (rx_hp L t hi4 hl4 v4) Q
        obtain ⟨j9, ej9, hj9, k⟩ := k
        refine rx_aw_iald (pc := 61) (n := 2412) j9 ej9 rfl rfl rfl hj9 (by decide) ?_
        show rx_aw 196 62 [.ref 90, .int a0, .int a1, .int (((402 : Int32) * a0) + a1), .int z1] [.int (hi4 102 j9), .int (hi4 101 j8), .ref 90] (rx_hp L t hi4 hl4 v4) Q
        refine rx_aw_s 1 (pc := 62) rfl ?_
        show rx_aw 196 64 [.ref 90, .int a0, .int a1, .int (((402 : Int32) * a0) + a1), .int z1] [.int z1, .int (hi4 102 j9), .int (hi4 101 j8), .ref 90] (rx_hp L t hi4 hl4 v4) Q
        refine rx_w_callL (j := 185) (pc := 64) rfl rfl rfl rfl rfl ?_
        refine rx_aw.mono k (fun r h2 k => ?_)
        obtain ⟨z10, rfl, hi10, hl10, v10, rfl, k⟩ := k
        refine ⟨z10, rfl, ?_⟩
        show rx_aw 196 67 [.ref 90, .int a0, .int a1, .int (((402 : Int32) * a0) + a1), .int z1] [.long z10] (rx_hp L t hi10 hl10 v10) Q
        refine rx_aw_s 1 (pc := 67) rfl ?_
        show rx_aw 196 71 [.ref 90, .int a0, .int a1, .int (((402 : Int32) * a0) + a1), .int z1] [.long z10] (rx_hp L t hi10 hl10 v10) Q
        exact rx_aw_ret (pc := 71) rfl k
set_option maxRecDepth 100000 in
/-- CartFloorModel.does(II)Z -/
theorem w197_does_r {L : Nat} {t : List (Nat × Nat)} {hi : Nat → Nat → Int32} {hl : Nat → Nat → Int64} {v : Nat → Nat → Option Nat} {Q : Option Value → rx_H → Prop} {a0 : Int32} {a1 : Int32} (k : (∃ j1 : Nat, a0 = nI j1 ∧ j1 < 6 ∧ (((hi 94 j1) = (400 : Int32) → Q (some (.int (0 : Int32))) (rx_hp L t hi hl v)) ∧ (¬ ((hi 94 j1) = (400 : Int32)) → (∃ j3 : Nat, a0 = nI j3 ∧ j3 < 6 ∧ (∃ j4 : Nat, (((400 : Int32) * a0) + (hi 94 j3)) = nI j4 ∧ j4 < 2400 ∧ (∃ j5 : Nat, a0 = nI j5 ∧ j5 < 6 ∧ (∃ j6 : Nat, a0 = nI j6 ∧ j6 < 6 ∧ rx_me 191 [.ref 90] (rx_hp L t (rx_u (rx_u hi 95 j4 a1) 94 j6 (((rx_u hi 95 j4 a1) 94 j5) + (1 : Int32))) hl v) (fun r h2 => r = none ∧ rx_ok2 L t h2 (fun hi7 hl7 v7 => (∃ j8 : Nat, (((402 : Int32) * a0) + (hi 94 j3)) = nI j8 ∧ j8 < 2412 ∧ (((hi7 104 j8) = 0 → Q (some (.int (0 : Int32))) (rx_hp L t hi7 hl7 v7)) ∧ (¬ ((hi7 104 j8) = 0) → rx_me 173 [.ref 90, .int a0, .int ((hi 94 j3) + (1 : Int32))] (rx_hp L t hi7 hl7 v7) (fun r h2 => ∃ z10 : Int32, r = some (.int z10) ∧ rx_ok2 L t h2 (fun hi10 hl10 v10 => ((z10 = 0 → Q (some (.int (0 : Int32))) (rx_hp L t hi10 hl10 v10)) ∧ (¬ (z10 = 0) → rx_me 174 [.ref 90, .int a0, .int ((hi 94 j3) + (1 : Int32))] (rx_hp L t hi10 hl10 v10) (fun r h2 => ∃ z12 : Int32, r = some (.int z12) ∧ rx_ok2 L t h2 (fun hi12 hl12 v12 => ((z12 = 0 → Q (some (.int (1 : Int32))) (rx_hp L t hi12 hl12 v12)) ∧ (¬ (z12 = 0) → Q (some (.int (0 : Int32))) (rx_hp L t hi12 hl12 v12)))))))))))))))))))))) : rx_me 197 [.ref 90, .int a0, .int a1] (rx_hp L t hi hl v) Q := by
  show rx_aw 197 0 [.ref 90, .int a0, .int a1, rx_no] [] (rx_hp L t hi hl v) Q
  refine rx_aw_s 3 (pc := 0) rfl ?_
  show rx_aw 197 5 [.ref 90, .int a0, .int a1, rx_no] [.int a0, .ref 94] (rx_hp L t hi hl v) Q
  obtain ⟨j1, ej1, hj1, k⟩ := k
  refine rx_aw_iald (pc := 5) (n := 6) j1 ej1 rfl rfl rfl hj1 (by decide) ?_
  show rx_aw 197 6 [.ref 90, .int a0, .int a1, rx_no] [.int (hi 94 j1)] (rx_hp L t hi hl v) Q
  refine rx_aw_s 2 (pc := 6) rfl ?_
  refine rx_w_ifn (c := (hi 94 j1) = (400 : Int32)) ⟨fun c2 => ?_, fun c2 => ?_⟩
  · have k := k.1 c2
    show rx_aw 197 12 [.ref 90, .int a0, .int a1, rx_no] [] (rx_hp L t hi hl v) Q
    refine rx_aw_s 1 (pc := 12) rfl ?_
    show rx_aw 197 13 [.ref 90, .int a0, .int a1, rx_no] [.int (0 : Int32)] (rx_hp L t hi hl v) Q
    exact rx_aw_ret (pc := 13) rfl k
  · have k := k.2 c2
    show rx_aw 197 14 [.ref 90, .int a0, .int a1, rx_no] [] (rx_hp L t hi hl v) Q
    refine rx_aw_s 3 (pc := 14) rfl ?_
    show rx_aw 197 19 [.ref 90, .int a0, .int a1, rx_no] [.int a0, .ref 94] (rx_hp L t hi hl v) Q
    obtain ⟨j3, ej3, hj3, k⟩ := k
    refine rx_aw_iald (pc := 19) (n := 6) j3 ej3 rfl rfl rfl hj3 (by decide) ?_
    show rx_aw 197 20 [.ref 90, .int a0, .int a1, rx_no] [.int (hi 94 j3)] (rx_hp L t hi hl v) Q
    refine rx_aw_s 9 (pc := 20) rfl ?_
    show rx_aw 197 33 [.ref 90, .int a0, .int a1, .int (hi 94 j3)] [.int a1, .int (((400 : Int32) * a0) + (hi 94 j3)), .ref 95] (rx_hp L t hi hl v) Q
    obtain ⟨j4, ej4, hj4, k⟩ := k
    refine rx_aw_iast (pc := 33) (n := 2400) j4 ej4 rfl rfl (by decide) rfl hj4 (by decide) ?_
    show rx_aw 197 34 [.ref 90, .int a0, .int a1, .int (hi 94 j3)] [] (rx_hp L t (rx_u hi 95 j4 a1) hl v) Q
    refine rx_aw_s 4 (pc := 34) rfl ?_
    show rx_aw 197 40 [.ref 90, .int a0, .int a1, .int (hi 94 j3)] [.int a0, .ref 94, .int a0, .ref 94] (rx_hp L t (rx_u hi 95 j4 a1) hl v) Q
    obtain ⟨j5, ej5, hj5, k⟩ := k
    refine rx_aw_iald (pc := 40) (n := 6) j5 ej5 rfl rfl rfl hj5 (by decide) ?_
    show rx_aw 197 41 [.ref 90, .int a0, .int a1, .int (hi 94 j3)] [.int ((rx_u hi 95 j4 a1) 94 j5), .int a0, .ref 94] (rx_hp L t (rx_u hi 95 j4 a1) hl v) Q
    refine rx_aw_s 2 (pc := 41) rfl ?_
    show rx_aw 197 43 [.ref 90, .int a0, .int a1, .int (hi 94 j3)] [.int (((rx_u hi 95 j4 a1) 94 j5) + (1 : Int32)), .int a0, .ref 94] (rx_hp L t (rx_u hi 95 j4 a1) hl v) Q
    obtain ⟨j6, ej6, hj6, k⟩ := k
    refine rx_aw_iast (pc := 43) (n := 6) j6 ej6 rfl rfl (by decide) rfl hj6 (by decide) ?_
    show rx_aw 197 44 [.ref 90, .int a0, .int a1, .int (hi 94 j3)] [] (rx_hp L t (rx_u (rx_u hi 95 j4 a1) 94 j6 (((rx_u hi 95 j4 a1) 94 j5) + (1 : Int32))) hl v) Q
    refine rx_aw_s 1 (pc := 44) rfl ?_
    show rx_aw 197 45 [.ref 90, .int a0, .int a1, .int (hi 94 j3)] [.ref 90] (rx_hp L t (rx_u (rx_u hi 95 j4 a1) 94 j6 (((rx_u hi 95 j4 a1) 94 j5) + (1 : Int32))) hl v) Q
    refine rx_w_callV (j := 191) (pc := 45) rfl rfl rfl rfl rfl ?_
    refine rx_aw.mono k (fun r h2 k => ?_)
    obtain ⟨rfl, hi7, hl7, v7, rfl, k⟩ := k
    refine ⟨rfl, ?_⟩
    show rx_aw 197 48 [.ref 90, .int a0, .int a1, .int (hi 94 j3)] [] (rx_hp L t hi7 hl7 v7) Q
    refine rx_aw_s 7 (pc := 48) rfl ?_
    show rx_aw 197 59 [.ref 90, .int a0, .int a1, .int (hi 94 j3)] [.int (((402 : Int32) * a0) + (hi 94 j3)), .ref 104] (rx_hp L t hi7 hl7 v7) Q
    obtain ⟨j8, ej8, hj8, k⟩ := k
    refine rx_aw_bald (pc := 59) (n := 2412) j8 ej8 rfl (Or.inr rfl) (by decide) rfl hj8 (by decide) ?_
    show rx_aw 197 60 [.ref 90, .int a0, .int a1, .int (hi 94 j3)] [.int (hi7 104 j8)] (rx_hp L t hi7 hl7 v7) Q
    refine rx_aw_s 1 (pc := 60) rfl ?_
    refine rx_w_if (c := (hi7 104 j8) = 0) ⟨fun c9 => ?_, fun c9 => ?_⟩
    · have k := k.1 c9
      show rx_aw 197 89 [.ref 90, .int a0, .int a1, .int (hi 94 j3)] [] (rx_hp L t hi7 hl7 v7) Q
      refine rx_aw_s 1 (pc := 89) rfl ?_
      show rx_aw 197 90 [.ref 90, .int a0, .int a1, .int (hi 94 j3)] [.int (0 : Int32)] (rx_hp L t hi7 hl7 v7) Q
      exact rx_aw_ret (pc := 90) rfl k
    · have k := k.2 c9
      show rx_aw 197 63 [.ref 90, .int a0, .int a1, .int (hi 94 j3)] [] (rx_hp L t hi7 hl7 v7) Q
      refine rx_aw_s 5 (pc := 63) rfl ?_
      show rx_aw 197 68 [.ref 90, .int a0, .int a1, .int (hi 94 j3)] [.int ((hi 94 j3) + (1 : Int32)), .int a0, .ref 90] (rx_hp L t hi7 hl7 v7) Q
      refine rx_w_callI (j := 173) (pc := 68) rfl rfl rfl rfl rfl ?_
      refine rx_aw.mono k (fun r h2 k => ?_)
      obtain ⟨z10, rfl, hi10, hl10, v10, rfl, k⟩ := k
      refine ⟨z10, rfl, ?_⟩
      show rx_aw 197 71 [.ref 90, .int a0, .int a1, .int (hi 94 j3)] [.int z10] (rx_hp L t hi10 hl10 v10) Q
      refine rx_aw_s 1 (pc := 71) rfl ?_
      refine rx_w_if (c := z10 = 0) ⟨fun c11 => ?_, fun c11 => ?_⟩
      · have k := k.1 c11
        show rx_aw 197 89 [.ref 90, .int a0, .int a1, .int (hi 94 j3)] [] (rx_hp L t hi10 hl10 v10) Q
        refine rx_aw_s 1 (pc := 89) rfl ?_
        show rx_aw 197 90 [.ref 90, .int a0, .int a1, .int (hi 94 j3)] [.int (0 : Int32)] (rx_hp L t hi10 hl10 v10) Q
        exact rx_aw_ret (pc := 90) rfl k
      · have k := k.2 c11
        show rx_aw 197 74 [.ref 90, .int a0, .int a1, .int (hi 94 j3)] [] (rx_hp L t hi10 hl10 v10) Q
        refine rx_aw_s 5 (pc := 74) rfl ?_
        show rx_aw 197 79 [.ref 90, .int a0, .int a1, .int (hi 94 j3)] [.int ((hi 94 j3) + (1 : Int32)), .int a0, .ref 90] (rx_hp L t hi10 hl10 v10) Q
        refine rx_w_callI (j := 174) (pc := 79) rfl rfl rfl rfl rfl ?_
        refine rx_aw.mono k (fun r h2 k => ?_)
        obtain ⟨z12, rfl, hi12, hl12, v12, rfl, k⟩ := k
        refine ⟨z12, rfl, ?_⟩
        show rx_aw 197 82 [.ref 90, .int a0, .int a1, .int (hi 94 j3)] [.int z12] (rx_hp L t hi12 hl12 v12) Q
        refine rx_aw_s 1 (pc := 82) rfl ?_
        refine rx_w_ifn (c := z12 = 0) ⟨fun c13 => ?_, fun c13 => ?_⟩
        · have k := k.1 c13
          show rx_aw 197 85 [.ref 90, .int a0, .int a1, .int (hi 94 j3)] [] (rx_hp L t hi12 hl12 v12) Q
          refine rx_aw_s 2 (pc := 85) rfl ?_
          show rx_aw 197 90 [.ref 90, .int a0, .int a1, .int (hi 94 j3)] [.int (1 : Int32)] (rx_hp L t hi12 hl12 v12) Q
          exact rx_aw_ret (pc := 90) rfl k
        · have k := k.2 c13
          show rx_aw 197 89 [.ref 90, .int a0, .int a1, .int (hi 94 j3)] [] (rx_hp L t hi12 hl12 v12) Q
          refine rx_aw_s 1 (pc := 89) rfl ?_
          show rx_aw 197 90 [.ref 90, .int a0, .int a1, .int (hi 94 j3)] [.int (0 : Int32)] (rx_hp L t hi12 hl12 v12) Q
          exact rx_aw_ret (pc := 90) rfl k
set_option maxRecDepth 100000 in
/-- CartFloorModel.many()I -/
theorem w198_many_r {L : Nat} {t : List (Nat × Nat)} {hi : Nat → Nat → Int32} {hl : Nat → Nat → Int64} {v : Nat → Nat → Option Nat} {Q : Option Value → rx_H → Prop}  (k : rx_aw 198 4 [.ref 90, .int (0 : Int32), .int (0 : Int32)] [] (rx_hp L t hi hl v) Q) : rx_me 198 [.ref 90] (rx_hp L t hi hl v) Q := by
  show rx_aw 198 0 [.ref 90, rx_no, rx_no] [] (rx_hp L t hi hl v) Q
  refine rx_aw_s 4 (pc := 0) rfl ?_
  show rx_aw 198 4 [.ref 90, .int (0 : Int32), .int (0 : Int32)] [] (rx_hp L t hi hl v) Q
  exact k
set_option maxRecDepth 100000 in
theorem w198_many_r_4 {L : Nat} {t : List (Nat × Nat)} {hi : Nat → Nat → Int32} {hl : Nat → Nat → Int64} {v : Nat → Nat → Option Nat} {Q : Option Value → rx_H → Prop} {x1 : Int32} {x2 : Int32} (k : (((hi 90 6) ≤ x2 → Q (some (.int x1)) (rx_hp L t hi hl v)) ∧ (¬ ((hi 90 6) ≤ x2) → rx_me 162 [.ref 90, .int x2] (rx_hp L t hi hl v) (fun r h2 => ∃ z2 : Int32, r = some (.int z2) ∧ rx_ok2 L t h2 (fun hi2 hl2 v2 => ((z2 = 0 → rx_aw 198 4 [.ref 90, .int (x1 + (0 : Int32)), .int (x2 + (1 : Int32))] [] (rx_hp L t hi2 hl2 v2) Q) ∧ (¬ (z2 = 0) → rx_me 163 [.ref 90, .int x2] (rx_hp L t hi2 hl2 v2) (fun r h2 => ∃ z4 : Int32, r = some (.int z4) ∧ rx_ok2 L t h2 (fun hi4 hl4 v4 => ((z4 = 0 → rx_aw 198 4 [.ref 90, .int (x1 + (0 : Int32)), .int (x2 + (1 : Int32))] [] (rx_hp L t hi4 hl4 v4) Q) ∧ (¬ (z4 = 0) → rx_aw 198 4 [.ref 90, .int (x1 + (1 : Int32)), .int (x2 + (1 : Int32))] [] (rx_hp L t hi4 hl4 v4) Q))))))))))) : rx_aw 198 4 [.ref 90, .int x1, .int x2] [] (rx_hp L t hi hl v) Q := by
  refine rx_aw_s 4 (pc := 4) rfl ?_
  refine rx_w_if (c := (hi 90 6) ≤ x2) ⟨fun c1 => ?_, fun c1 => ?_⟩
  · have k := k.1 c1
    show rx_aw 198 42 [.ref 90, .int x1, .int x2] [] (rx_hp L t hi hl v) Q
    refine rx_aw_s 1 (pc := 42) rfl ?_
    show rx_aw 198 43 [.ref 90, .int x1, .int x2] [.int x1] (rx_hp L t hi hl v) Q
    exact rx_aw_ret (pc := 43) rfl k
  · have k := k.2 c1
    show rx_aw 198 12 [.ref 90, .int x1, .int x2] [] (rx_hp L t hi hl v) Q
    refine rx_aw_s 3 (pc := 12) rfl ?_
    show rx_aw 198 15 [.ref 90, .int x1, .int x2] [.int x2, .ref 90, .int x1] (rx_hp L t hi hl v) Q
    refine rx_w_callI (j := 162) (pc := 15) rfl rfl rfl rfl rfl ?_
    refine rx_aw.mono k (fun r h2 k => ?_)
    obtain ⟨z2, rfl, hi2, hl2, v2, rfl, k⟩ := k
    refine ⟨z2, rfl, ?_⟩
    show rx_aw 198 18 [.ref 90, .int x1, .int x2] [.int z2, .int x1] (rx_hp L t hi2 hl2 v2) Q
    refine rx_aw_s 1 (pc := 18) rfl ?_
    refine rx_w_if (c := z2 = 0) ⟨fun c3 => ?_, fun c3 => ?_⟩
    · have k := k.1 c3
      show rx_aw 198 33 [.ref 90, .int x1, .int x2] [.int x1] (rx_hp L t hi2 hl2 v2) Q
      refine rx_aw_s 5 (pc := 33) rfl ?_
      show rx_aw 198 4 [.ref 90, .int (x1 + (0 : Int32)), .int (x2 + (1 : Int32))] [] (rx_hp L t hi2 hl2 v2) Q
      exact k
    · have k := k.2 c3
      show rx_aw 198 21 [.ref 90, .int x1, .int x2] [.int x1] (rx_hp L t hi2 hl2 v2) Q
      refine rx_aw_s 2 (pc := 21) rfl ?_
      show rx_aw 198 23 [.ref 90, .int x1, .int x2] [.int x2, .ref 90, .int x1] (rx_hp L t hi2 hl2 v2) Q
      refine rx_w_callI (j := 163) (pc := 23) rfl rfl rfl rfl rfl ?_
      refine rx_aw.mono k (fun r h2 k => ?_)
      obtain ⟨z4, rfl, hi4, hl4, v4, rfl, k⟩ := k
      refine ⟨z4, rfl, ?_⟩
      show rx_aw 198 26 [.ref 90, .int x1, .int x2] [.int z4, .int x1] (rx_hp L t hi4 hl4 v4) Q
      refine rx_aw_s 1 (pc := 26) rfl ?_
      refine rx_w_if (c := z4 = 0) ⟨fun c5 => ?_, fun c5 => ?_⟩
      · have k := k.1 c5
        show rx_aw 198 33 [.ref 90, .int x1, .int x2] [.int x1] (rx_hp L t hi4 hl4 v4) Q
        refine rx_aw_s 5 (pc := 33) rfl ?_
        show rx_aw 198 4 [.ref 90, .int (x1 + (0 : Int32)), .int (x2 + (1 : Int32))] [] (rx_hp L t hi4 hl4 v4) Q
        exact k
      · have k := k.2 c5
        show rx_aw 198 29 [.ref 90, .int x1, .int x2] [.int x1] (rx_hp L t hi4 hl4 v4) Q
        refine rx_aw_s 6 (pc := 29) rfl ?_
        show rx_aw 198 4 [.ref 90, .int (x1 + (1 : Int32)), .int (x2 + (1 : Int32))] [] (rx_hp L t hi4 hl4 v4) Q
        exact k
set_option maxRecDepth 100000 in
/-- CartFloorModel.stop(II)I -/
theorem w199_stop_r {L : Nat} {t : List (Nat × Nat)} {hi : Nat → Nat → Int32} {hl : Nat → Nat → Int64} {v : Nat → Nat → Option Nat} {Q : Option Value → rx_H → Prop} {a0 : Int32} {a1 : Int32} (k : rx_me 161 [.ref 90, .int a0] (rx_hp L t hi hl v) (fun r h2 => ∃ z1 : Int32, r = some (.int z1) ∧ rx_ok2 L t h2 (fun hi1 hl1 v1 => ((z1 = 0 → Q (some (.int (-2 : Int32))) (rx_hp L t hi1 hl1 v1)) ∧ (¬ (z1 = 0) → (∃ j3 : Nat, a0 = nI j3 ∧ j3 < 6 ∧ (((hi1 93 j3) = (3 : Int32) → Q (some (.int (-2 : Int32))) (rx_hp L t hi1 hl1 v1)) ∧ (¬ ((hi1 93 j3) = (3 : Int32)) → (∃ j5 : Nat, a0 = nI j5 ∧ j5 < 6 ∧ (((hi1 100 j5) = 0 → ((a1 < (hi1 90 48) → Q (some (.int (-2 : Int32))) (rx_hp L t hi1 hl1 v1)) ∧ (¬ (a1 < (hi1 90 48)) → ((a1 ≤ (400 : Int32) → rx_me 200 [.ref 90, .int (0 : Int32)] (rx_hp L t hi1 hl1 v1) (fun r h2 => r = none ∧ rx_ok2 L t h2 (fun hi9 hl9 v9 => (∃ j10 : Nat, a0 = nI j10 ∧ j10 < 6 ∧ (∃ j11 : Nat, a0 = nI j11 ∧ j11 < 6 ∧ ((((rx_u hi9 100 j10 (1 : Int32)) 94 j11) ≤ a1 → (∃ j13 : Nat, a0 = nI j13 ∧ j13 < 6 ∧ (∃ j14 : Nat, a0 = nI j14 ∧ j14 < 6 ∧ rx_me 191 [.ref 90] (rx_hp L t (rx_u (rx_u hi9 100 j10 (1 : Int32)) 94 j14 ((rx_u hi9 100 j10 (1 : Int32)) 94 j13)) hl9 v9) (fun r h2 => r = none ∧ rx_ok2 L t h2 (fun hi15 hl15 v15 => rx_me 201 [.ref 90, .int a1, .int (0 : Int32)] (rx_hp L t hi15 hl15 v15) (fun r h2 => ∃ z16 : Int32, r = some (.int z16) ∧ rx_ok2 L t h2 (fun hi16 hl16 v16 => rx_aw 199 97 [.ref 90, .int a0, .int a1, .int (0 : Int32), .int z16] [] (rx_hp L t hi16 hl16 v16) Q))))))) ∧ (¬ (((rx_u hi9 100 j10 (1 : Int32)) 94 j11) ≤ a1) → (∃ j17 : Nat, a0 = nI j17 ∧ j17 < 6 ∧ rx_me 191 [.ref 90] (rx_hp L t (rx_u (rx_u hi9 100 j10 (1 : Int32)) 94 j17 a1) hl9 v9) (fun r h2 => r = none ∧ rx_ok2 L t h2 (fun hi18 hl18 v18 => rx_me 201 [.ref 90, .int a1, .int (0 : Int32)] (rx_hp L t hi18 hl18 v18) (fun r h2 => ∃ z19 : Int32, r = some (.int z19) ∧ rx_ok2 L t h2 (fun hi19 hl19 v19 => rx_aw 199 97 [.ref 90, .int a0, .int a1, .int (0 : Int32), .int z19] [] (rx_hp L t hi19 hl19 v19) Q)))))))))))) ∧ (¬ (a1 ≤ (400 : Int32)) → Q (some (.int (-2 : Int32))) (rx_hp L t hi1 hl1 v1)))))) ∧ (¬ ((hi1 100 j5) = 0) → Q (some (.int (-2 : Int32))) (rx_hp L t hi1 hl1 v1)))))))))))) : rx_me 199 [.ref 90, .int a0, .int a1] (rx_hp L t hi hl v) Q := by
  show rx_aw 199 0 [.ref 90, .int a0, .int a1, rx_no, rx_no] [] (rx_hp L t hi hl v) Q
  refine rx_aw_s 2 (pc := 0) rfl ?_
  show rx_aw 199 2 [.ref 90, .int a0, .int a1, rx_no, rx_no] [.int a0, .ref 90] (rx_hp L t hi hl v) Q
  refine rx_w_callI (j := 161) (pc := 2) rfl rfl rfl rfl rfl ?_
  refine rx_aw.mono k (fun r h2 k => ?_)
  obtain ⟨z1, rfl, hi1, hl1, v1, rfl, k⟩ := k
  refine ⟨z1, rfl, ?_⟩
  show rx_aw 199 5 [.ref 90, .int a0, .int a1, rx_no, rx_no] [.int z1] (rx_hp L t hi1 hl1 v1) Q
  refine rx_aw_s 1 (pc := 5) rfl ?_
  refine rx_w_if (c := z1 = 0) ⟨fun c2 => ?_, fun c2 => ?_⟩
  · have k := k.1 c2
    show rx_aw 199 42 [.ref 90, .int a0, .int a1, rx_no, rx_no] [] (rx_hp L t hi1 hl1 v1) Q
    refine rx_aw_s 1 (pc := 42) rfl ?_
    show rx_aw 199 44 [.ref 90, .int a0, .int a1, rx_no, rx_no] [.int (-2 : Int32)] (rx_hp L t hi1 hl1 v1) Q
    exact rx_aw_ret (pc := 44) rfl k
  · have k := k.2 c2
    show rx_aw 199 8 [.ref 90, .int a0, .int a1, rx_no, rx_no] [] (rx_hp L t hi1 hl1 v1) Q
    refine rx_aw_s 3 (pc := 8) rfl ?_
    show rx_aw 199 13 [.ref 90, .int a0, .int a1, rx_no, rx_no] [.int a0, .ref 93] (rx_hp L t hi1 hl1 v1) Q
    obtain ⟨j3, ej3, hj3, k⟩ := k
    refine rx_aw_iald (pc := 13) (n := 6) j3 ej3 rfl rfl rfl hj3 (by decide) ?_
    show rx_aw 199 14 [.ref 90, .int a0, .int a1, rx_no, rx_no] [.int (hi1 93 j3)] (rx_hp L t hi1 hl1 v1) Q
    refine rx_aw_s 2 (pc := 14) rfl ?_
    refine rx_w_if (c := (hi1 93 j3) = (3 : Int32)) ⟨fun c4 => ?_, fun c4 => ?_⟩
    · have k := k.1 c4
      show rx_aw 199 42 [.ref 90, .int a0, .int a1, rx_no, rx_no] [] (rx_hp L t hi1 hl1 v1) Q
      refine rx_aw_s 1 (pc := 42) rfl ?_
      show rx_aw 199 44 [.ref 90, .int a0, .int a1, rx_no, rx_no] [.int (-2 : Int32)] (rx_hp L t hi1 hl1 v1) Q
      exact rx_aw_ret (pc := 44) rfl k
    · have k := k.2 c4
      show rx_aw 199 18 [.ref 90, .int a0, .int a1, rx_no, rx_no] [] (rx_hp L t hi1 hl1 v1) Q
      refine rx_aw_s 3 (pc := 18) rfl ?_
      show rx_aw 199 23 [.ref 90, .int a0, .int a1, rx_no, rx_no] [.int a0, .ref 100] (rx_hp L t hi1 hl1 v1) Q
      obtain ⟨j5, ej5, hj5, k⟩ := k
      refine rx_aw_iald (pc := 23) (n := 6) j5 ej5 rfl rfl rfl hj5 (by decide) ?_
      show rx_aw 199 24 [.ref 90, .int a0, .int a1, rx_no, rx_no] [.int (hi1 100 j5)] (rx_hp L t hi1 hl1 v1) Q
      refine rx_aw_s 1 (pc := 24) rfl ?_
      refine rx_w_ifn (c := (hi1 100 j5) = 0) ⟨fun c6 => ?_, fun c6 => ?_⟩
      · have k := k.1 c6
        show rx_aw 199 27 [.ref 90, .int a0, .int a1, rx_no, rx_no] [] (rx_hp L t hi1 hl1 v1) Q
        refine rx_aw_s 4 (pc := 27) rfl ?_
        refine rx_w_if (c := a1 < (hi1 90 48)) ⟨fun c7 => ?_, fun c7 => ?_⟩
        · have k := k.1 c7
          show rx_aw 199 42 [.ref 90, .int a0, .int a1, rx_no, rx_no] [] (rx_hp L t hi1 hl1 v1) Q
          refine rx_aw_s 1 (pc := 42) rfl ?_
          show rx_aw 199 44 [.ref 90, .int a0, .int a1, rx_no, rx_no] [.int (-2 : Int32)] (rx_hp L t hi1 hl1 v1) Q
          exact rx_aw_ret (pc := 44) rfl k
        · have k := k.2 c7
          show rx_aw 199 35 [.ref 90, .int a0, .int a1, rx_no, rx_no] [] (rx_hp L t hi1 hl1 v1) Q
          refine rx_aw_s 3 (pc := 35) rfl ?_
          refine rx_w_if (c := a1 ≤ (400 : Int32)) ⟨fun c8 => ?_, fun c8 => ?_⟩
          · have k := k.1 c8
            show rx_aw 199 45 [.ref 90, .int a0, .int a1, rx_no, rx_no] [] (rx_hp L t hi1 hl1 v1) Q
            refine rx_aw_s 2 (pc := 45) rfl ?_
            show rx_aw 199 47 [.ref 90, .int a0, .int a1, rx_no, rx_no] [.int (0 : Int32), .ref 90] (rx_hp L t hi1 hl1 v1) Q
            refine rx_w_callV (j := 200) (pc := 47) rfl rfl rfl rfl rfl ?_
            refine rx_aw.mono k (fun r h2 k => ?_)
            obtain ⟨rfl, hi9, hl9, v9, rfl, k⟩ := k
            refine ⟨rfl, ?_⟩
            show rx_aw 199 50 [.ref 90, .int a0, .int a1, rx_no, rx_no] [] (rx_hp L t hi9 hl9 v9) Q
            refine rx_aw_s 4 (pc := 50) rfl ?_
            show rx_aw 199 56 [.ref 90, .int a0, .int a1, rx_no, rx_no] [.int (1 : Int32), .int a0, .ref 100] (rx_hp L t hi9 hl9 v9) Q
            obtain ⟨j10, ej10, hj10, k⟩ := k
            refine rx_aw_iast (pc := 56) (n := 6) j10 ej10 rfl rfl (by decide) rfl hj10 (by decide) ?_
            show rx_aw 199 57 [.ref 90, .int a0, .int a1, rx_no, rx_no] [] (rx_hp L t (rx_u hi9 100 j10 (1 : Int32)) hl9 v9) Q
            refine rx_aw_s 6 (pc := 57) rfl ?_
            show rx_aw 199 67 [.ref 90, .int a0, .int a1, rx_no, rx_no] [.int a0, .ref 94, .int a0, .ref 94] (rx_hp L t (rx_u hi9 100 j10 (1 : Int32)) hl9 v9) Q
            obtain ⟨j11, ej11, hj11, k⟩ := k
            refine rx_aw_iald (pc := 67) (n := 6) j11 ej11 rfl rfl rfl hj11 (by decide) ?_
            show rx_aw 199 68 [.ref 90, .int a0, .int a1, rx_no, rx_no] [.int ((rx_u hi9 100 j10 (1 : Int32)) 94 j11), .int a0, .ref 94] (rx_hp L t (rx_u hi9 100 j10 (1 : Int32)) hl9 v9) Q
            refine rx_aw_s 2 (pc := 68) rfl ?_
            refine rx_w_if (c := ((rx_u hi9 100 j10 (1 : Int32)) 94 j11) ≤ a1) ⟨fun c12 => ?_, fun c12 => ?_⟩
            · have k := k.1 c12
              show rx_aw 199 76 [.ref 90, .int a0, .int a1, rx_no, rx_no] [.int a0, .ref 94] (rx_hp L t (rx_u hi9 100 j10 (1 : Int32)) hl9 v9) Q
              refine rx_aw_s 3 (pc := 76) rfl ?_
              show rx_aw 199 81 [.ref 90, .int a0, .int a1, rx_no, rx_no] [.int a0, .ref 94, .int a0, .ref 94] (rx_hp L t (rx_u hi9 100 j10 (1 : Int32)) hl9 v9) Q
              obtain ⟨j13, ej13, hj13, k⟩ := k
              refine rx_aw_iald (pc := 81) (n := 6) j13 ej13 rfl rfl rfl hj13 (by decide) ?_
              show rx_aw 199 82 [.ref 90, .int a0, .int a1, rx_no, rx_no] [.int ((rx_u hi9 100 j10 (1 : Int32)) 94 j13), .int a0, .ref 94] (rx_hp L t (rx_u hi9 100 j10 (1 : Int32)) hl9 v9) Q
              obtain ⟨j14, ej14, hj14, k⟩ := k
              refine rx_aw_iast (pc := 82) (n := 6) j14 ej14 rfl rfl (by decide) rfl hj14 (by decide) ?_
              show rx_aw 199 83 [.ref 90, .int a0, .int a1, rx_no, rx_no] [] (rx_hp L t (rx_u (rx_u hi9 100 j10 (1 : Int32)) 94 j14 ((rx_u hi9 100 j10 (1 : Int32)) 94 j13)) hl9 v9) Q
              refine rx_aw_s 1 (pc := 83) rfl ?_
              show rx_aw 199 84 [.ref 90, .int a0, .int a1, rx_no, rx_no] [.ref 90] (rx_hp L t (rx_u (rx_u hi9 100 j10 (1 : Int32)) 94 j14 ((rx_u hi9 100 j10 (1 : Int32)) 94 j13)) hl9 v9) Q
              refine rx_w_callV (j := 191) (pc := 84) rfl rfl rfl rfl rfl ?_
              refine rx_aw.mono k (fun r h2 k => ?_)
              obtain ⟨rfl, hi15, hl15, v15, rfl, k⟩ := k
              refine ⟨rfl, ?_⟩
              show rx_aw 199 87 [.ref 90, .int a0, .int a1, rx_no, rx_no] [] (rx_hp L t hi15 hl15 v15) Q
              refine rx_aw_s 5 (pc := 87) rfl ?_
              show rx_aw 199 92 [.ref 90, .int a0, .int a1, .int (0 : Int32), rx_no] [.int (0 : Int32), .int a1, .ref 90] (rx_hp L t hi15 hl15 v15) Q
              refine rx_w_callI (j := 201) (pc := 92) rfl rfl rfl rfl rfl ?_
              refine rx_aw.mono k (fun r h2 k => ?_)
              obtain ⟨z16, rfl, hi16, hl16, v16, rfl, k⟩ := k
              refine ⟨z16, rfl, ?_⟩
              show rx_aw 199 95 [.ref 90, .int a0, .int a1, .int (0 : Int32), rx_no] [.int z16] (rx_hp L t hi16 hl16 v16) Q
              refine rx_aw_s 1 (pc := 95) rfl ?_
              show rx_aw 199 97 [.ref 90, .int a0, .int a1, .int (0 : Int32), .int z16] [] (rx_hp L t hi16 hl16 v16) Q
              exact k
            · have k := k.2 c12
              show rx_aw 199 72 [.ref 90, .int a0, .int a1, rx_no, rx_no] [.int a0, .ref 94] (rx_hp L t (rx_u hi9 100 j10 (1 : Int32)) hl9 v9) Q
              refine rx_aw_s 2 (pc := 72) rfl ?_
              show rx_aw 199 82 [.ref 90, .int a0, .int a1, rx_no, rx_no] [.int a1, .int a0, .ref 94] (rx_hp L t (rx_u hi9 100 j10 (1 : Int32)) hl9 v9) Q
              obtain ⟨j17, ej17, hj17, k⟩ := k
              refine rx_aw_iast (pc := 82) (n := 6) j17 ej17 rfl rfl (by decide) rfl hj17 (by decide) ?_
              show rx_aw 199 83 [.ref 90, .int a0, .int a1, rx_no, rx_no] [] (rx_hp L t (rx_u (rx_u hi9 100 j10 (1 : Int32)) 94 j17 a1) hl9 v9) Q
              refine rx_aw_s 1 (pc := 83) rfl ?_
              show rx_aw 199 84 [.ref 90, .int a0, .int a1, rx_no, rx_no] [.ref 90] (rx_hp L t (rx_u (rx_u hi9 100 j10 (1 : Int32)) 94 j17 a1) hl9 v9) Q
              refine rx_w_callV (j := 191) (pc := 84) rfl rfl rfl rfl rfl ?_
              refine rx_aw.mono k (fun r h2 k => ?_)
              obtain ⟨rfl, hi18, hl18, v18, rfl, k⟩ := k
              refine ⟨rfl, ?_⟩
              show rx_aw 199 87 [.ref 90, .int a0, .int a1, rx_no, rx_no] [] (rx_hp L t hi18 hl18 v18) Q
              refine rx_aw_s 5 (pc := 87) rfl ?_
              show rx_aw 199 92 [.ref 90, .int a0, .int a1, .int (0 : Int32), rx_no] [.int (0 : Int32), .int a1, .ref 90] (rx_hp L t hi18 hl18 v18) Q
              refine rx_w_callI (j := 201) (pc := 92) rfl rfl rfl rfl rfl ?_
              refine rx_aw.mono k (fun r h2 k => ?_)
              obtain ⟨z19, rfl, hi19, hl19, v19, rfl, k⟩ := k
              refine ⟨z19, rfl, ?_⟩
              show rx_aw 199 95 [.ref 90, .int a0, .int a1, .int (0 : Int32), rx_no] [.int z19] (rx_hp L t hi19 hl19 v19) Q
              refine rx_aw_s 1 (pc := 95) rfl ?_
              show rx_aw 199 97 [.ref 90, .int a0, .int a1, .int (0 : Int32), .int z19] [] (rx_hp L t hi19 hl19 v19) Q
              exact k
          · have k := k.2 c8
            show rx_aw 199 42 [.ref 90, .int a0, .int a1, rx_no, rx_no] [] (rx_hp L t hi1 hl1 v1) Q
            refine rx_aw_s 1 (pc := 42) rfl ?_
            show rx_aw 199 44 [.ref 90, .int a0, .int a1, rx_no, rx_no] [.int (-2 : Int32)] (rx_hp L t hi1 hl1 v1) Q
            exact rx_aw_ret (pc := 44) rfl k
      · have k := k.2 c6
        show rx_aw 199 42 [.ref 90, .int a0, .int a1, rx_no, rx_no] [] (rx_hp L t hi1 hl1 v1) Q
        refine rx_aw_s 1 (pc := 42) rfl ?_
        show rx_aw 199 44 [.ref 90, .int a0, .int a1, rx_no, rx_no] [.int (-2 : Int32)] (rx_hp L t hi1 hl1 v1) Q
        exact rx_aw_ret (pc := 44) rfl k
set_option maxRecDepth 100000 in
theorem w199_stop_r_97 {L : Nat} {t : List (Nat × Nat)} {hi : Nat → Nat → Int32} {hl : Nat → Nat → Int64} {v : Nat → Nat → Option Nat} {Q : Option Value → rx_H → Prop} {x1 : Int32} {x2 : Int32} {x3 : Int32} {x4 : Int32} (k : ((x4 < 0 → rx_me 201 [.ref 90, .int x2, .int (1 : Int32)] (rx_hp L t hi hl v) (fun r h2 => ∃ z21 : Int32, r = some (.int z21) ∧ rx_ok2 L t h2 (fun hi21 hl21 v21 => ((z21 < 0 → Q (some (.int x3)) (rx_hp L t (rx_u hi21 90 48 x2) hl21 v21)) ∧ (¬ (z21 < 0) → rx_me 200 [.ref 90, .int (1 : Int32)] (rx_hp L t hi21 hl21 v21) (fun r h2 => r = none ∧ rx_ok2 L t h2 (fun hi23 hl23 v23 => Q (some (.int (-3 : Int32))) (rx_hp L t hi23 hl23 v23)))))))) ∧ (¬ (x4 < 0) → (∃ j24 : Nat, x4 = nI j24 ∧ j24 < 6 ∧ rx_me 191 [.ref 90] (rx_hp L t (rx_u hi 94 j24 x2) hl v) (fun r h2 => r = none ∧ rx_ok2 L t h2 (fun hi25 hl25 v25 => rx_me 163 [.ref 90, .int x4] (rx_hp L t hi25 hl25 v25) (fun r h2 => ∃ z26 : Int32, r = some (.int z26) ∧ rx_ok2 L t h2 (fun hi26 hl26 v26 => ((z26 = 0 → (∃ j28 : Nat, x4 = nI j28 ∧ j28 < 6 ∧ rx_me 201 [.ref 90, .int x2, .int (0 : Int32)] (rx_hp L t (rx_u hi26 100 j28 (2 : Int32)) hl26 v26) (fun r h2 => ∃ z29 : Int32, r = some (.int z29) ∧ rx_ok2 L t h2 (fun hi29 hl29 v29 => rx_aw 199 97 [.ref 90, .int x1, .int x2, .int x3, .int z29] [] (rx_hp L t hi29 hl29 v29) Q)))) ∧ (¬ (z26 = 0) → rx_me 201 [.ref 90, .int x2, .int (0 : Int32)] (rx_hp L t hi26 hl26 v26) (fun r h2 => ∃ z30 : Int32, r = some (.int z30) ∧ rx_ok2 L t h2 (fun hi30 hl30 v30 => rx_aw 199 97 [.ref 90, .int x1, .int x2, .int (x3 + (1 : Int32)), .int z30] [] (rx_hp L t hi30 hl30 v30) Q)))))))))))) : rx_aw 199 97 [.ref 90, .int x1, .int x2, .int x3, .int x4] [] (rx_hp L t hi hl v) Q := by
  refine rx_aw_s 2 (pc := 97) rfl ?_
  refine rx_w_if (c := x4 < 0) ⟨fun c20 => ?_, fun c20 => ?_⟩
  · have k := k.1 c20
    show rx_aw 199 148 [.ref 90, .int x1, .int x2, .int x3, .int x4] [] (rx_hp L t hi hl v) Q
    refine rx_aw_s 3 (pc := 148) rfl ?_
    show rx_aw 199 151 [.ref 90, .int x1, .int x2, .int x3, .int x4] [.int (1 : Int32), .int x2, .ref 90] (rx_hp L t hi hl v) Q
    refine rx_w_callI (j := 201) (pc := 151) rfl rfl rfl rfl rfl ?_
    refine rx_aw.mono k (fun r h2 k => ?_)
    obtain ⟨z21, rfl, hi21, hl21, v21, rfl, k⟩ := k
    refine ⟨z21, rfl, ?_⟩
    show rx_aw 199 154 [.ref 90, .int x1, .int x2, .int x3, .int x4] [.int z21] (rx_hp L t hi21 hl21 v21) Q
    refine rx_aw_s 1 (pc := 154) rfl ?_
    refine rx_w_if (c := z21 < 0) ⟨fun c22 => ?_, fun c22 => ?_⟩
    · have k := k.1 c22
      show rx_aw 199 165 [.ref 90, .int x1, .int x2, .int x3, .int x4] [] (rx_hp L t hi21 hl21 v21) Q
      refine rx_aw_s 4 (pc := 165) rfl ?_
      show rx_aw 199 171 [.ref 90, .int x1, .int x2, .int x3, .int x4] [.int x3] (rx_hp L t (rx_u hi21 90 48 x2) hl21 v21) Q
      exact rx_aw_ret (pc := 171) rfl k
    · have k := k.2 c22
      show rx_aw 199 157 [.ref 90, .int x1, .int x2, .int x3, .int x4] [] (rx_hp L t hi21 hl21 v21) Q
      refine rx_aw_s 2 (pc := 157) rfl ?_
      show rx_aw 199 159 [.ref 90, .int x1, .int x2, .int x3, .int x4] [.int (1 : Int32), .ref 90] (rx_hp L t hi21 hl21 v21) Q
      refine rx_w_callV (j := 200) (pc := 159) rfl rfl rfl rfl rfl ?_
      refine rx_aw.mono k (fun r h2 k => ?_)
      obtain ⟨rfl, hi23, hl23, v23, rfl, k⟩ := k
      refine ⟨rfl, ?_⟩
      show rx_aw 199 162 [.ref 90, .int x1, .int x2, .int x3, .int x4] [] (rx_hp L t hi23 hl23 v23) Q
      refine rx_aw_s 1 (pc := 162) rfl ?_
      show rx_aw 199 164 [.ref 90, .int x1, .int x2, .int x3, .int x4] [.int (-3 : Int32)] (rx_hp L t hi23 hl23 v23) Q
      exact rx_aw_ret (pc := 164) rfl k
  · have k := k.2 c20
    show rx_aw 199 102 [.ref 90, .int x1, .int x2, .int x3, .int x4] [] (rx_hp L t hi hl v) Q
    refine rx_aw_s 4 (pc := 102) rfl ?_
    show rx_aw 199 109 [.ref 90, .int x1, .int x2, .int x3, .int x4] [.int x2, .int x4, .ref 94] (rx_hp L t hi hl v) Q
    obtain ⟨j24, ej24, hj24, k⟩ := k
    refine rx_aw_iast (pc := 109) (n := 6) j24 ej24 rfl rfl (by decide) rfl hj24 (by decide) ?_
    show rx_aw 199 110 [.ref 90, .int x1, .int x2, .int x3, .int x4] [] (rx_hp L t (rx_u hi 94 j24 x2) hl v) Q
    refine rx_aw_s 1 (pc := 110) rfl ?_
    show rx_aw 199 111 [.ref 90, .int x1, .int x2, .int x3, .int x4] [.ref 90] (rx_hp L t (rx_u hi 94 j24 x2) hl v) Q
    refine rx_w_callV (j := 191) (pc := 111) rfl rfl rfl rfl rfl ?_
    refine rx_aw.mono k (fun r h2 k => ?_)
    obtain ⟨rfl, hi25, hl25, v25, rfl, k⟩ := k
    refine ⟨rfl, ?_⟩
    show rx_aw 199 114 [.ref 90, .int x1, .int x2, .int x3, .int x4] [] (rx_hp L t hi25 hl25 v25) Q
    refine rx_aw_s 2 (pc := 114) rfl ?_
    show rx_aw 199 117 [.ref 90, .int x1, .int x2, .int x3, .int x4] [.int x4, .ref 90] (rx_hp L t hi25 hl25 v25) Q
    refine rx_w_callI (j := 163) (pc := 117) rfl rfl rfl rfl rfl ?_
    refine rx_aw.mono k (fun r h2 k => ?_)
    obtain ⟨z26, rfl, hi26, hl26, v26, rfl, k⟩ := k
    refine ⟨z26, rfl, ?_⟩
    show rx_aw 199 120 [.ref 90, .int x1, .int x2, .int x3, .int x4] [.int z26] (rx_hp L t hi26 hl26 v26) Q
    refine rx_aw_s 1 (pc := 120) rfl ?_
    refine rx_w_if (c := z26 = 0) ⟨fun c27 => ?_, fun c27 => ?_⟩
    · have k := k.1 c27
      show rx_aw 199 129 [.ref 90, .int x1, .int x2, .int x3, .int x4] [] (rx_hp L t hi26 hl26 v26) Q
      refine rx_aw_s 4 (pc := 129) rfl ?_
      show rx_aw 199 136 [.ref 90, .int x1, .int x2, .int x3, .int x4] [.int (2 : Int32), .int x4, .ref 100] (rx_hp L t hi26 hl26 v26) Q
      obtain ⟨j28, ej28, hj28, k⟩ := k
      refine rx_aw_iast (pc := 136) (n := 6) j28 ej28 rfl rfl (by decide) rfl hj28 (by decide) ?_
      show rx_aw 199 137 [.ref 90, .int x1, .int x2, .int x3, .int x4] [] (rx_hp L t (rx_u hi26 100 j28 (2 : Int32)) hl26 v26) Q
      refine rx_aw_s 3 (pc := 137) rfl ?_
      show rx_aw 199 140 [.ref 90, .int x1, .int x2, .int x3, .int x4] [.int (0 : Int32), .int x2, .ref 90] (rx_hp L t (rx_u hi26 100 j28 (2 : Int32)) hl26 v26) Q
      refine rx_w_callI (j := 201) (pc := 140) rfl rfl rfl rfl rfl ?_
      refine rx_aw.mono k (fun r h2 k => ?_)
      obtain ⟨z29, rfl, hi29, hl29, v29, rfl, k⟩ := k
      refine ⟨z29, rfl, ?_⟩
      show rx_aw 199 143 [.ref 90, .int x1, .int x2, .int x3, .int x4] [.int z29] (rx_hp L t hi29 hl29 v29) Q
      refine rx_aw_s 2 (pc := 143) rfl ?_
      show rx_aw 199 97 [.ref 90, .int x1, .int x2, .int x3, .int z29] [] (rx_hp L t hi29 hl29 v29) Q
      exact k
    · have k := k.2 c27
      show rx_aw 199 123 [.ref 90, .int x1, .int x2, .int x3, .int x4] [] (rx_hp L t hi26 hl26 v26) Q
      refine rx_aw_s 5 (pc := 123) rfl ?_
      show rx_aw 199 140 [.ref 90, .int x1, .int x2, .int (x3 + (1 : Int32)), .int x4] [.int (0 : Int32), .int x2, .ref 90] (rx_hp L t hi26 hl26 v26) Q
      refine rx_w_callI (j := 201) (pc := 140) rfl rfl rfl rfl rfl ?_
      refine rx_aw.mono k (fun r h2 k => ?_)
      obtain ⟨z30, rfl, hi30, hl30, v30, rfl, k⟩ := k
      refine ⟨z30, rfl, ?_⟩
      show rx_aw 199 143 [.ref 90, .int x1, .int x2, .int (x3 + (1 : Int32)), .int x4] [.int z30] (rx_hp L t hi30 hl30 v30) Q
      refine rx_aw_s 2 (pc := 143) rfl ?_
      show rx_aw 199 97 [.ref 90, .int x1, .int x2, .int (x3 + (1 : Int32)), .int z30] [] (rx_hp L t hi30 hl30 v30) Q
      exact k
set_option maxRecDepth 100000 in
/-- CartFloorModel.remember(Z)V -/
theorem w200_remember_r {L : Nat} {t : List (Nat × Nat)} {hi : Nat → Nat → Int32} {hl : Nat → Nat → Int64} {v : Nat → Nat → Option Nat} {Q : Option Value → rx_H → Prop} {a0 : Int32} (k : rx_aw 200 2 [.ref 90, .int a0, .int (0 : Int32)] [] (rx_hp L t hi hl v) Q) : rx_me 200 [.ref 90, .int a0] (rx_hp L t hi hl v) Q := by
  show rx_aw 200 0 [.ref 90, .int a0, rx_no] [] (rx_hp L t hi hl v) Q
  refine rx_aw_s 2 (pc := 0) rfl ?_
  show rx_aw 200 2 [.ref 90, .int a0, .int (0 : Int32)] [] (rx_hp L t hi hl v) Q
  exact k
set_option maxRecDepth 100000 in
theorem w200_remember_r_2 {L : Nat} {t : List (Nat × Nat)} {hi : Nat → Nat → Int32} {hl : Nat → Nat → Int64} {v : Nat → Nat → Option Nat} {Q : Option Value → rx_H → Prop} {x1 : Int32} {x2 : Int32} (k : (((6 : Int32) ≤ x2 → rx_aw 200 95 [.ref 90, .int x1, .int (0 : Int32)] [] (rx_hp L t hi hl v) Q) ∧ (¬ ((6 : Int32) ≤ x2) → ((x1 = 0 → (∃ j3 : Nat, x2 = nI j3 ∧ j3 < 6 ∧ (∃ j4 : Nat, x2 = nI j4 ∧ j4 < 6 ∧ (∃ j5 : Nat, x2 = nI j5 ∧ j5 < 6 ∧ (∃ j6 : Nat, x2 = nI j6 ∧ j6 < 6 ∧ (∃ j7 : Nat, x2 = nI j7 ∧ j7 < 6 ∧ (∃ j8 : Nat, x2 = nI j8 ∧ j8 < 6 ∧ rx_aw 200 2 [.ref 90, .int x1, .int (x2 + (1 : Int32))] [] (rx_hp L t (rx_u (rx_u (rx_u hi 121 j4 (hi 94 j3)) 122 j6 ((rx_u hi 121 j4 (hi 94 j3)) 100 j5)) 124 j8 (vp_nar .boolean ((rx_u (rx_u hi 121 j4 (hi 94 j3)) 122 j6 ((rx_u hi 121 j4 (hi 94 j3)) 100 j5)) 99 j7))) hl v) Q))))))) ∧ (¬ (x1 = 0) → (∃ j9 : Nat, x2 = nI j9 ∧ j9 < 6 ∧ (∃ j10 : Nat, x2 = nI j10 ∧ j10 < 6 ∧ (∃ j11 : Nat, x2 = nI j11 ∧ j11 < 6 ∧ (∃ j12 : Nat, x2 = nI j12 ∧ j12 < 6 ∧ (∃ j13 : Nat, x2 = nI j13 ∧ j13 < 6 ∧ (∃ j14 : Nat, x2 = nI j14 ∧ j14 < 6 ∧ rx_aw 200 2 [.ref 90, .int x1, .int (x2 + (1 : Int32))] [] (rx_hp L t (rx_u (rx_u (rx_u hi 94 j10 (hi 121 j9)) 100 j12 ((rx_u hi 94 j10 (hi 121 j9)) 122 j11)) 99 j14 (vp_nar .boolean ((rx_u (rx_u hi 94 j10 (hi 121 j9)) 100 j12 ((rx_u hi 94 j10 (hi 121 j9)) 122 j11)) 124 j13))) hl v) Q))))))))))) : rx_aw 200 2 [.ref 90, .int x1, .int x2] [] (rx_hp L t hi hl v) Q := by
  refine rx_aw_s 3 (pc := 2) rfl ?_
  refine rx_w_if (c := (6 : Int32) ≤ x2) ⟨fun c1 => ?_, fun c1 => ?_⟩
  · have k := k.1 c1
    show rx_aw 200 93 [.ref 90, .int x1, .int x2] [] (rx_hp L t hi hl v) Q
    refine rx_aw_s 2 (pc := 93) rfl ?_
    show rx_aw 200 95 [.ref 90, .int x1, .int (0 : Int32)] [] (rx_hp L t hi hl v) Q
    exact k
  · have k := k.2 c1
    show rx_aw 200 8 [.ref 90, .int x1, .int x2] [] (rx_hp L t hi hl v) Q
    refine rx_aw_s 2 (pc := 8) rfl ?_
    refine rx_w_if (c := x1 = 0) ⟨fun c2 => ?_, fun c2 => ?_⟩
    · have k := k.1 c2
      show rx_aw 200 51 [.ref 90, .int x1, .int x2] [] (rx_hp L t hi hl v) Q
      refine rx_aw_s 6 (pc := 51) rfl ?_
      show rx_aw 200 61 [.ref 90, .int x1, .int x2] [.int x2, .ref 94, .int x2, .ref 121] (rx_hp L t hi hl v) Q
      obtain ⟨j3, ej3, hj3, k⟩ := k
      refine rx_aw_iald (pc := 61) (n := 6) j3 ej3 rfl rfl rfl hj3 (by decide) ?_
      show rx_aw 200 62 [.ref 90, .int x1, .int x2] [.int (hi 94 j3), .int x2, .ref 121] (rx_hp L t hi hl v) Q
      obtain ⟨j4, ej4, hj4, k⟩ := k
      refine rx_aw_iast (pc := 62) (n := 6) j4 ej4 rfl rfl (by decide) rfl hj4 (by decide) ?_
      show rx_aw 200 63 [.ref 90, .int x1, .int x2] [] (rx_hp L t (rx_u hi 121 j4 (hi 94 j3)) hl v) Q
      refine rx_aw_s 6 (pc := 63) rfl ?_
      show rx_aw 200 73 [.ref 90, .int x1, .int x2] [.int x2, .ref 100, .int x2, .ref 122] (rx_hp L t (rx_u hi 121 j4 (hi 94 j3)) hl v) Q
      obtain ⟨j5, ej5, hj5, k⟩ := k
      refine rx_aw_iald (pc := 73) (n := 6) j5 ej5 rfl rfl rfl hj5 (by decide) ?_
      show rx_aw 200 74 [.ref 90, .int x1, .int x2] [.int ((rx_u hi 121 j4 (hi 94 j3)) 100 j5), .int x2, .ref 122] (rx_hp L t (rx_u hi 121 j4 (hi 94 j3)) hl v) Q
      obtain ⟨j6, ej6, hj6, k⟩ := k
      refine rx_aw_iast (pc := 74) (n := 6) j6 ej6 rfl rfl (by decide) rfl hj6 (by decide) ?_
      show rx_aw 200 75 [.ref 90, .int x1, .int x2] [] (rx_hp L t (rx_u (rx_u hi 121 j4 (hi 94 j3)) 122 j6 ((rx_u hi 121 j4 (hi 94 j3)) 100 j5)) hl v) Q
      refine rx_aw_s 6 (pc := 75) rfl ?_
      show rx_aw 200 85 [.ref 90, .int x1, .int x2] [.int x2, .ref 99, .int x2, .ref 124] (rx_hp L t (rx_u (rx_u hi 121 j4 (hi 94 j3)) 122 j6 ((rx_u hi 121 j4 (hi 94 j3)) 100 j5)) hl v) Q
      obtain ⟨j7, ej7, hj7, k⟩ := k
      refine rx_aw_bald (pc := 85) (n := 6) j7 ej7 rfl (Or.inr rfl) (by decide) rfl hj7 (by decide) ?_
      show rx_aw 200 86 [.ref 90, .int x1, .int x2] [.int ((rx_u (rx_u hi 121 j4 (hi 94 j3)) 122 j6 ((rx_u hi 121 j4 (hi 94 j3)) 100 j5)) 99 j7), .int x2, .ref 124] (rx_hp L t (rx_u (rx_u hi 121 j4 (hi 94 j3)) 122 j6 ((rx_u hi 121 j4 (hi 94 j3)) 100 j5)) hl v) Q
      obtain ⟨j8, ej8, hj8, k⟩ := k
      refine rx_aw_zast (pc := 86) (n := 6) j8 ej8 rfl rfl (by decide) rfl hj8 (by decide) ?_
      show rx_aw 200 87 [.ref 90, .int x1, .int x2] [] (rx_hp L t (rx_u (rx_u (rx_u hi 121 j4 (hi 94 j3)) 122 j6 ((rx_u hi 121 j4 (hi 94 j3)) 100 j5)) 124 j8 (vp_nar .boolean ((rx_u (rx_u hi 121 j4 (hi 94 j3)) 122 j6 ((rx_u hi 121 j4 (hi 94 j3)) 100 j5)) 99 j7))) hl v) Q
      refine rx_aw_s 2 (pc := 87) rfl ?_
      show rx_aw 200 2 [.ref 90, .int x1, .int (x2 + (1 : Int32))] [] (rx_hp L t (rx_u (rx_u (rx_u hi 121 j4 (hi 94 j3)) 122 j6 ((rx_u hi 121 j4 (hi 94 j3)) 100 j5)) 124 j8 (vp_nar .boolean ((rx_u (rx_u hi 121 j4 (hi 94 j3)) 122 j6 ((rx_u hi 121 j4 (hi 94 j3)) 100 j5)) 99 j7))) hl v) Q
      exact k
    · have k := k.2 c2
      show rx_aw 200 12 [.ref 90, .int x1, .int x2] [] (rx_hp L t hi hl v) Q
      refine rx_aw_s 6 (pc := 12) rfl ?_
      show rx_aw 200 22 [.ref 90, .int x1, .int x2] [.int x2, .ref 121, .int x2, .ref 94] (rx_hp L t hi hl v) Q
      obtain ⟨j9, ej9, hj9, k⟩ := k
      refine rx_aw_iald (pc := 22) (n := 6) j9 ej9 rfl rfl rfl hj9 (by decide) ?_
      show rx_aw 200 23 [.ref 90, .int x1, .int x2] [.int (hi 121 j9), .int x2, .ref 94] (rx_hp L t hi hl v) Q
      obtain ⟨j10, ej10, hj10, k⟩ := k
      refine rx_aw_iast (pc := 23) (n := 6) j10 ej10 rfl rfl (by decide) rfl hj10 (by decide) ?_
      show rx_aw 200 24 [.ref 90, .int x1, .int x2] [] (rx_hp L t (rx_u hi 94 j10 (hi 121 j9)) hl v) Q
      refine rx_aw_s 6 (pc := 24) rfl ?_
      show rx_aw 200 34 [.ref 90, .int x1, .int x2] [.int x2, .ref 122, .int x2, .ref 100] (rx_hp L t (rx_u hi 94 j10 (hi 121 j9)) hl v) Q
      obtain ⟨j11, ej11, hj11, k⟩ := k
      refine rx_aw_iald (pc := 34) (n := 6) j11 ej11 rfl rfl rfl hj11 (by decide) ?_
      show rx_aw 200 35 [.ref 90, .int x1, .int x2] [.int ((rx_u hi 94 j10 (hi 121 j9)) 122 j11), .int x2, .ref 100] (rx_hp L t (rx_u hi 94 j10 (hi 121 j9)) hl v) Q
      obtain ⟨j12, ej12, hj12, k⟩ := k
      refine rx_aw_iast (pc := 35) (n := 6) j12 ej12 rfl rfl (by decide) rfl hj12 (by decide) ?_
      show rx_aw 200 36 [.ref 90, .int x1, .int x2] [] (rx_hp L t (rx_u (rx_u hi 94 j10 (hi 121 j9)) 100 j12 ((rx_u hi 94 j10 (hi 121 j9)) 122 j11)) hl v) Q
      refine rx_aw_s 6 (pc := 36) rfl ?_
      show rx_aw 200 46 [.ref 90, .int x1, .int x2] [.int x2, .ref 124, .int x2, .ref 99] (rx_hp L t (rx_u (rx_u hi 94 j10 (hi 121 j9)) 100 j12 ((rx_u hi 94 j10 (hi 121 j9)) 122 j11)) hl v) Q
      obtain ⟨j13, ej13, hj13, k⟩ := k
      refine rx_aw_bald (pc := 46) (n := 6) j13 ej13 rfl (Or.inr rfl) (by decide) rfl hj13 (by decide) ?_
      show rx_aw 200 47 [.ref 90, .int x1, .int x2] [.int ((rx_u (rx_u hi 94 j10 (hi 121 j9)) 100 j12 ((rx_u hi 94 j10 (hi 121 j9)) 122 j11)) 124 j13), .int x2, .ref 99] (rx_hp L t (rx_u (rx_u hi 94 j10 (hi 121 j9)) 100 j12 ((rx_u hi 94 j10 (hi 121 j9)) 122 j11)) hl v) Q
      obtain ⟨j14, ej14, hj14, k⟩ := k
      refine rx_aw_zast (pc := 47) (n := 6) j14 ej14 rfl rfl (by decide) rfl hj14 (by decide) ?_
      show rx_aw 200 48 [.ref 90, .int x1, .int x2] [] (rx_hp L t (rx_u (rx_u (rx_u hi 94 j10 (hi 121 j9)) 100 j12 ((rx_u hi 94 j10 (hi 121 j9)) 122 j11)) 99 j14 (vp_nar .boolean ((rx_u (rx_u hi 94 j10 (hi 121 j9)) 100 j12 ((rx_u hi 94 j10 (hi 121 j9)) 122 j11)) 124 j13))) hl v) Q
      refine rx_aw_s 3 (pc := 48) rfl ?_
      show rx_aw 200 2 [.ref 90, .int x1, .int (x2 + (1 : Int32))] [] (rx_hp L t (rx_u (rx_u (rx_u hi 94 j10 (hi 121 j9)) 100 j12 ((rx_u hi 94 j10 (hi 121 j9)) 122 j11)) 99 j14 (vp_nar .boolean ((rx_u (rx_u hi 94 j10 (hi 121 j9)) 100 j12 ((rx_u hi 94 j10 (hi 121 j9)) 122 j11)) 124 j13))) hl v) Q
      exact k
set_option maxRecDepth 100000 in
theorem w200_remember_r_95 {L : Nat} {t : List (Nat × Nat)} {hi : Nat → Nat → Int32} {hl : Nat → Nat → Int64} {v : Nat → Nat → Option Nat} {Q : Option Value → rx_H → Prop} {x1 : Int32} {x2 : Int32} (k : (((2400 : Int32) ≤ x2 → rx_me 191 [.ref 90] (rx_hp L t hi hl v) (fun r h2 => r = none ∧ rx_ok2 L t h2 (fun hi16 hl16 v16 => Q none (rx_hp L t hi16 hl16 v16)))) ∧ (¬ ((2400 : Int32) ≤ x2) → ((x1 = 0 → (∃ j18 : Nat, x2 = nI j18 ∧ j18 < 2400 ∧ (∃ j19 : Nat, x2 = nI j19 ∧ j19 < 2400 ∧ rx_aw 200 95 [.ref 90, .int x1, .int (x2 + (1 : Int32))] [] (rx_hp L t (rx_u hi 123 j19 (hi 95 j18)) hl v) Q))) ∧ (¬ (x1 = 0) → (∃ j20 : Nat, x2 = nI j20 ∧ j20 < 2400 ∧ (∃ j21 : Nat, x2 = nI j21 ∧ j21 < 2400 ∧ rx_aw 200 95 [.ref 90, .int x1, .int (x2 + (1 : Int32))] [] (rx_hp L t (rx_u hi 95 j21 (hi 123 j20)) hl v) Q))))))) : rx_aw 200 95 [.ref 90, .int x1, .int x2] [] (rx_hp L t hi hl v) Q := by
  refine rx_aw_s 3 (pc := 95) rfl ?_
  refine rx_w_if (c := (2400 : Int32) ≤ x2) ⟨fun c15 => ?_, fun c15 => ?_⟩
  · have k := k.1 c15
    show rx_aw 200 139 [.ref 90, .int x1, .int x2] [] (rx_hp L t hi hl v) Q
    refine rx_aw_s 1 (pc := 139) rfl ?_
    show rx_aw 200 140 [.ref 90, .int x1, .int x2] [.ref 90] (rx_hp L t hi hl v) Q
    refine rx_w_callV (j := 191) (pc := 140) rfl rfl rfl rfl rfl ?_
    refine rx_aw.mono k (fun r h2 k => ?_)
    obtain ⟨rfl, hi16, hl16, v16, rfl, k⟩ := k
    refine ⟨rfl, ?_⟩
    show rx_aw 200 143 [.ref 90, .int x1, .int x2] [] (rx_hp L t hi16 hl16 v16) Q
    exact rx_aw_ret (pc := 143) rfl k
  · have k := k.2 c15
    show rx_aw 200 102 [.ref 90, .int x1, .int x2] [] (rx_hp L t hi hl v) Q
    refine rx_aw_s 2 (pc := 102) rfl ?_
    refine rx_w_if (c := x1 = 0) ⟨fun c17 => ?_, fun c17 => ?_⟩
    · have k := k.1 c17
      show rx_aw 200 121 [.ref 90, .int x1, .int x2] [] (rx_hp L t hi hl v) Q
      refine rx_aw_s 6 (pc := 121) rfl ?_
      show rx_aw 200 131 [.ref 90, .int x1, .int x2] [.int x2, .ref 95, .int x2, .ref 123] (rx_hp L t hi hl v) Q
      obtain ⟨j18, ej18, hj18, k⟩ := k
      refine rx_aw_iald (pc := 131) (n := 2400) j18 ej18 rfl rfl rfl hj18 (by decide) ?_
      show rx_aw 200 132 [.ref 90, .int x1, .int x2] [.int (hi 95 j18), .int x2, .ref 123] (rx_hp L t hi hl v) Q
      obtain ⟨j19, ej19, hj19, k⟩ := k
      refine rx_aw_iast (pc := 132) (n := 2400) j19 ej19 rfl rfl (by decide) rfl hj19 (by decide) ?_
      show rx_aw 200 133 [.ref 90, .int x1, .int x2] [] (rx_hp L t (rx_u hi 123 j19 (hi 95 j18)) hl v) Q
      refine rx_aw_s 2 (pc := 133) rfl ?_
      show rx_aw 200 95 [.ref 90, .int x1, .int (x2 + (1 : Int32))] [] (rx_hp L t (rx_u hi 123 j19 (hi 95 j18)) hl v) Q
      exact k
    · have k := k.2 c17
      show rx_aw 200 106 [.ref 90, .int x1, .int x2] [] (rx_hp L t hi hl v) Q
      refine rx_aw_s 6 (pc := 106) rfl ?_
      show rx_aw 200 116 [.ref 90, .int x1, .int x2] [.int x2, .ref 123, .int x2, .ref 95] (rx_hp L t hi hl v) Q
      obtain ⟨j20, ej20, hj20, k⟩ := k
      refine rx_aw_iald (pc := 116) (n := 2400) j20 ej20 rfl rfl rfl hj20 (by decide) ?_
      show rx_aw 200 117 [.ref 90, .int x1, .int x2] [.int (hi 123 j20), .int x2, .ref 95] (rx_hp L t hi hl v) Q
      obtain ⟨j21, ej21, hj21, k⟩ := k
      refine rx_aw_iast (pc := 117) (n := 2400) j21 ej21 rfl rfl (by decide) rfl hj21 (by decide) ?_
      show rx_aw 200 118 [.ref 90, .int x1, .int x2] [] (rx_hp L t (rx_u hi 95 j21 (hi 123 j20)) hl v) Q
      refine rx_aw_s 3 (pc := 118) rfl ?_
      show rx_aw 200 95 [.ref 90, .int x1, .int (x2 + (1 : Int32))] [] (rx_hp L t (rx_u hi 95 j21 (hi 123 j20)) hl v) Q
      exact k
set_option maxRecDepth 100000 in
/-- CartFloorModel.firstTroubled(IZ)I -/
theorem w201_firstTroubled_r {L : Nat} {t : List (Nat × Nat)} {hi : Nat → Nat → Int32} {hl : Nat → Nat → Int64} {v : Nat → Nat → Option Nat} {Q : Option Value → rx_H → Prop} {a0 : Int32} {a1 : Int32} (k : rx_aw 201 2 [.ref 90, .int a0, .int a1, .int (0 : Int32)] [] (rx_hp L t hi hl v) Q) : rx_me 201 [.ref 90, .int a0, .int a1] (rx_hp L t hi hl v) Q := by
  show rx_aw 201 0 [.ref 90, .int a0, .int a1, rx_no] [] (rx_hp L t hi hl v) Q
  refine rx_aw_s 2 (pc := 0) rfl ?_
  show rx_aw 201 2 [.ref 90, .int a0, .int a1, .int (0 : Int32)] [] (rx_hp L t hi hl v) Q
  exact k
set_option maxRecDepth 100000 in
theorem w201_firstTroubled_r_2 {L : Nat} {t : List (Nat × Nat)} {hi : Nat → Nat → Int32} {hl : Nat → Nat → Int64} {v : Nat → Nat → Option Nat} {Q : Option Value → rx_H → Prop} {x1 : Int32} {x2 : Int32} {x3 : Int32} (k : (((hi 90 6) ≤ x3 → Q (some (.int (-1 : Int32))) (rx_hp L t hi hl v)) ∧ (¬ ((hi 90 6) ≤ x3) → (∃ j2 : Nat, x3 = nI j2 ∧ j2 < 6 ∧ (((hi 93 j2) = (3 : Int32) → (((1 : Int32) = x2 → rx_me 202 [.ref 90, .int x3, .int x1] (rx_hp L t hi hl v) (fun r h2 => ∃ z5 : Int32, r = some (.int z5) ∧ rx_ok2 L t h2 (fun hi5 hl5 v5 => ((z5 = 0 → rx_aw 201 2 [.ref 90, .int x1, .int x2, .int (x3 + (1 : Int32))] [] (rx_hp L t hi5 hl5 v5) Q) ∧ (¬ (z5 = 0) → Q (some (.int x3)) (rx_hp L t hi5 hl5 v5)))))) ∧ (¬ ((1 : Int32) = x2) → rx_aw 201 2 [.ref 90, .int x1, .int x2, .int (x3 + (1 : Int32))] [] (rx_hp L t hi hl v) Q))) ∧ (¬ ((hi 93 j2) = (3 : Int32)) → (((0 : Int32) = x2 → rx_me 202 [.ref 90, .int x3, .int x1] (rx_hp L t hi hl v) (fun r h2 => ∃ z8 : Int32, r = some (.int z8) ∧ rx_ok2 L t h2 (fun hi8 hl8 v8 => ((z8 = 0 → rx_aw 201 2 [.ref 90, .int x1, .int x2, .int (x3 + (1 : Int32))] [] (rx_hp L t hi8 hl8 v8) Q) ∧ (¬ (z8 = 0) → Q (some (.int x3)) (rx_hp L t hi8 hl8 v8)))))) ∧ (¬ ((0 : Int32) = x2) → rx_aw 201 2 [.ref 90, .int x1, .int x2, .int (x3 + (1 : Int32))] [] (rx_hp L t hi hl v) Q)))))))) : rx_aw 201 2 [.ref 90, .int x1, .int x2, .int x3] [] (rx_hp L t hi hl v) Q := by
  refine rx_aw_s 4 (pc := 2) rfl ?_
  refine rx_w_if (c := (hi 90 6) ≤ x3) ⟨fun c1 => ?_, fun c1 => ?_⟩
  · have k := k.1 c1
    show rx_aw 201 46 [.ref 90, .int x1, .int x2, .int x3] [] (rx_hp L t hi hl v) Q
    refine rx_aw_s 1 (pc := 46) rfl ?_
    show rx_aw 201 47 [.ref 90, .int x1, .int x2, .int x3] [.int (-1 : Int32)] (rx_hp L t hi hl v) Q
    exact rx_aw_ret (pc := 47) rfl k
  · have k := k.2 c1
    show rx_aw 201 10 [.ref 90, .int x1, .int x2, .int x3] [] (rx_hp L t hi hl v) Q
    refine rx_aw_s 3 (pc := 10) rfl ?_
    show rx_aw 201 15 [.ref 90, .int x1, .int x2, .int x3] [.int x3, .ref 93] (rx_hp L t hi hl v) Q
    obtain ⟨j2, ej2, hj2, k⟩ := k
    refine rx_aw_iald (pc := 15) (n := 6) j2 ej2 rfl rfl rfl hj2 (by decide) ?_
    show rx_aw 201 16 [.ref 90, .int x1, .int x2, .int x3] [.int (hi 93 j2)] (rx_hp L t hi hl v) Q
    refine rx_aw_s 2 (pc := 16) rfl ?_
    refine rx_w_ifn (c := (hi 93 j2) = (3 : Int32)) ⟨fun c3 => ?_, fun c3 => ?_⟩
    · have k := k.1 c3
      show rx_aw 201 20 [.ref 90, .int x1, .int x2, .int x3] [] (rx_hp L t hi hl v) Q
      refine rx_aw_s 4 (pc := 20) rfl ?_
      refine rx_w_ifn (c := (1 : Int32) = x2) ⟨fun c4 => ?_, fun c4 => ?_⟩
      · have k := k.1 c4
        show rx_aw 201 29 [.ref 90, .int x1, .int x2, .int x3] [] (rx_hp L t hi hl v) Q
        refine rx_aw_s 3 (pc := 29) rfl ?_
        show rx_aw 201 32 [.ref 90, .int x1, .int x2, .int x3] [.int x1, .int x3, .ref 90] (rx_hp L t hi hl v) Q
        refine rx_w_callI (j := 202) (pc := 32) rfl rfl rfl rfl rfl ?_
        refine rx_aw.mono k (fun r h2 k => ?_)
        obtain ⟨z5, rfl, hi5, hl5, v5, rfl, k⟩ := k
        refine ⟨z5, rfl, ?_⟩
        show rx_aw 201 35 [.ref 90, .int x1, .int x2, .int x3] [.int z5] (rx_hp L t hi5 hl5 v5) Q
        refine rx_aw_s 1 (pc := 35) rfl ?_
        refine rx_w_if (c := z5 = 0) ⟨fun c6 => ?_, fun c6 => ?_⟩
        · have k := k.1 c6
          show rx_aw 201 40 [.ref 90, .int x1, .int x2, .int x3] [] (rx_hp L t hi5 hl5 v5) Q
          refine rx_aw_s 2 (pc := 40) rfl ?_
          show rx_aw 201 2 [.ref 90, .int x1, .int x2, .int (x3 + (1 : Int32))] [] (rx_hp L t hi5 hl5 v5) Q
          exact k
        · have k := k.2 c6
          show rx_aw 201 38 [.ref 90, .int x1, .int x2, .int x3] [] (rx_hp L t hi5 hl5 v5) Q
          refine rx_aw_s 1 (pc := 38) rfl ?_
          show rx_aw 201 39 [.ref 90, .int x1, .int x2, .int x3] [.int x3] (rx_hp L t hi5 hl5 v5) Q
          exact rx_aw_ret (pc := 39) rfl k
      · have k := k.2 c4
        show rx_aw 201 40 [.ref 90, .int x1, .int x2, .int x3] [] (rx_hp L t hi hl v) Q
        refine rx_aw_s 2 (pc := 40) rfl ?_
        show rx_aw 201 2 [.ref 90, .int x1, .int x2, .int (x3 + (1 : Int32))] [] (rx_hp L t hi hl v) Q
        exact k
    · have k := k.2 c3
      show rx_aw 201 24 [.ref 90, .int x1, .int x2, .int x3] [] (rx_hp L t hi hl v) Q
      refine rx_aw_s 3 (pc := 24) rfl ?_
      refine rx_w_ifn (c := (0 : Int32) = x2) ⟨fun c7 => ?_, fun c7 => ?_⟩
      · have k := k.1 c7
        show rx_aw 201 29 [.ref 90, .int x1, .int x2, .int x3] [] (rx_hp L t hi hl v) Q
        refine rx_aw_s 3 (pc := 29) rfl ?_
        show rx_aw 201 32 [.ref 90, .int x1, .int x2, .int x3] [.int x1, .int x3, .ref 90] (rx_hp L t hi hl v) Q
        refine rx_w_callI (j := 202) (pc := 32) rfl rfl rfl rfl rfl ?_
        refine rx_aw.mono k (fun r h2 k => ?_)
        obtain ⟨z8, rfl, hi8, hl8, v8, rfl, k⟩ := k
        refine ⟨z8, rfl, ?_⟩
        show rx_aw 201 35 [.ref 90, .int x1, .int x2, .int x3] [.int z8] (rx_hp L t hi8 hl8 v8) Q
        refine rx_aw_s 1 (pc := 35) rfl ?_
        refine rx_w_if (c := z8 = 0) ⟨fun c9 => ?_, fun c9 => ?_⟩
        · have k := k.1 c9
          show rx_aw 201 40 [.ref 90, .int x1, .int x2, .int x3] [] (rx_hp L t hi8 hl8 v8) Q
          refine rx_aw_s 2 (pc := 40) rfl ?_
          show rx_aw 201 2 [.ref 90, .int x1, .int x2, .int (x3 + (1 : Int32))] [] (rx_hp L t hi8 hl8 v8) Q
          exact k
        · have k := k.2 c9
          show rx_aw 201 38 [.ref 90, .int x1, .int x2, .int x3] [] (rx_hp L t hi8 hl8 v8) Q
          refine rx_aw_s 1 (pc := 38) rfl ?_
          show rx_aw 201 39 [.ref 90, .int x1, .int x2, .int x3] [.int x3] (rx_hp L t hi8 hl8 v8) Q
          exact rx_aw_ret (pc := 39) rfl k
      · have k := k.2 c7
        show rx_aw 201 40 [.ref 90, .int x1, .int x2, .int x3] [] (rx_hp L t hi hl v) Q
        refine rx_aw_s 2 (pc := 40) rfl ?_
        show rx_aw 201 2 [.ref 90, .int x1, .int x2, .int (x3 + (1 : Int32))] [] (rx_hp L t hi hl v) Q
        exact k
set_option maxRecDepth 100000 in
/-- CartFloorModel.isTroubled(II)Z -/
theorem w202_isTroubled_r {L : Nat} {t : List (Nat × Nat)} {hi : Nat → Nat → Int32} {hl : Nat → Nat → Int64} {v : Nat → Nat → Option Nat} {Q : Option Value → rx_H → Prop} {a0 : Int32} {a1 : Int32} (k : rx_aw 202 5 [.ref 90, .int a0, .int a1, .int (0 : Int32), .int a1] [] (rx_hp L t hi hl v) Q) : rx_me 202 [.ref 90, .int a0, .int a1] (rx_hp L t hi hl v) Q := by
  show rx_aw 202 0 [.ref 90, .int a0, .int a1, rx_no, rx_no] [] (rx_hp L t hi hl v) Q
  refine rx_aw_s 4 (pc := 0) rfl ?_
  show rx_aw 202 5 [.ref 90, .int a0, .int a1, .int (0 : Int32), .int a1] [] (rx_hp L t hi hl v) Q
  exact k
set_option maxRecDepth 100000 in
theorem w202_isTroubled_r_5 {L : Nat} {t : List (Nat × Nat)} {hi : Nat → Nat → Int32} {hl : Nat → Nat → Int64} {v : Nat → Nat → Option Nat} {Q : Option Value → rx_H → Prop} {x1 : Int32} {x2 : Int32} {x3 : Int32} {x4 : Int32} (k : (((402 : Int32) ≤ x4 → ((x3 = 0 ∨ x3 = 1) ∧ Q (some (.int x3)) (rx_hp L t hi hl v))) ∧ (¬ ((402 : Int32) ≤ x4) → (∃ j2 : Nat, x1 = nI j2 ∧ j2 < 6 ∧ (((hi 100 j2) = 0 → (∃ j4 : Nat, x1 = nI j4 ∧ j4 < 6 ∧ (((hi 94 j4) ≤ x2 → ((x3 = 0 ∨ x3 = 1) ∧ Q (some (.int x3)) (rx_hp L t hi hl v))) ∧ (¬ ((hi 94 j4) ≤ x2) → ((x3 = 0 → ((x4 ≤ x2 → (∃ j8 : Nat, x1 = nI j8 ∧ j8 < 6 ∧ (((hi 94 j8) ≤ x4 → rx_aw 202 5 [.ref 90, .int x1, .int x2, .int (0 : Int32), .int (x4 + (1 : Int32))] [] (rx_hp L t hi hl v) Q) ∧ (¬ ((hi 94 j8) ≤ x4) → (∃ j10 : Nat, (((402 : Int32) * x1) + x4) = nI j10 ∧ j10 < 2412 ∧ (((hi 104 j10) = 0 → rx_aw 202 5 [.ref 90, .int x1, .int x2, .int (1 : Int32), .int (x4 + (1 : Int32))] [] (rx_hp L t hi hl v) Q) ∧ (¬ ((hi 104 j10) = 0) → rx_aw 202 5 [.ref 90, .int x1, .int x2, .int (0 : Int32), .int (x4 + (1 : Int32))] [] (rx_hp L t hi hl v) Q))))))) ∧ (¬ (x4 ≤ x2) → rx_me 173 [.ref 90, .int x1, .int x4] (rx_hp L t hi hl v) (fun r h2 => ∃ z12 : Int32, r = some (.int z12) ∧ rx_ok2 L t h2 (fun hi12 hl12 v12 => ((z12 = 0 → rx_aw 202 5 [.ref 90, .int x1, .int x2, .int (1 : Int32), .int (x4 + (1 : Int32))] [] (rx_hp L t hi12 hl12 v12) Q) ∧ (¬ (z12 = 0) → rx_me 174 [.ref 90, .int x1, .int x4] (rx_hp L t hi12 hl12 v12) (fun r h2 => ∃ z14 : Int32, r = some (.int z14) ∧ rx_ok2 L t h2 (fun hi14 hl14 v14 => ((z14 = 0 → (∃ j16 : Nat, x1 = nI j16 ∧ j16 < 6 ∧ (((hi14 94 j16) ≤ x4 → rx_aw 202 5 [.ref 90, .int x1, .int x2, .int (0 : Int32), .int (x4 + (1 : Int32))] [] (rx_hp L t hi14 hl14 v14) Q) ∧ (¬ ((hi14 94 j16) ≤ x4) → (∃ j18 : Nat, (((402 : Int32) * x1) + x4) = nI j18 ∧ j18 < 2412 ∧ (((hi14 104 j18) = 0 → rx_aw 202 5 [.ref 90, .int x1, .int x2, .int (1 : Int32), .int (x4 + (1 : Int32))] [] (rx_hp L t hi14 hl14 v14) Q) ∧ (¬ ((hi14 104 j18) = 0) → rx_aw 202 5 [.ref 90, .int x1, .int x2, .int (0 : Int32), .int (x4 + (1 : Int32))] [] (rx_hp L t hi14 hl14 v14) Q))))))) ∧ (¬ (z14 = 0) → rx_aw 202 5 [.ref 90, .int x1, .int x2, .int (1 : Int32), .int (x4 + (1 : Int32))] [] (rx_hp L t hi14 hl14 v14) Q))))))))))) ∧ (¬ (x3 = 0) → ((x3 = 0 ∨ x3 = 1) ∧ Q (some (.int x3)) (rx_hp L t hi hl v)))))))) ∧ (¬ ((hi 100 j2) = 0) → ((x3 = 0 ∨ x3 = 1) ∧ Q (some (.int x3)) (rx_hp L t hi hl v)))))))) : rx_aw 202 5 [.ref 90, .int x1, .int x2, .int x3, .int x4] [] (rx_hp L t hi hl v) Q := by
  refine rx_aw_s 3 (pc := 5) rfl ?_
  refine rx_w_if (c := (402 : Int32) ≤ x4) ⟨fun c1 => ?_, fun c1 => ?_⟩
  · have k := k.1 c1
    show rx_aw 202 101 [.ref 90, .int x1, .int x2, .int x3, .int x4] [] (rx_hp L t hi hl v) Q
    refine rx_aw_s 1 (pc := 101) rfl ?_
    show rx_aw 202 102 [.ref 90, .int x1, .int x2, .int x3, .int x4] [.int x3] (rx_hp L t hi hl v) Q
    exact rx_w_zret (pc := 102) rfl rfl k
  · have k := k.2 c1
    show rx_aw 202 13 [.ref 90, .int x1, .int x2, .int x3, .int x4] [] (rx_hp L t hi hl v) Q
    refine rx_aw_s 3 (pc := 13) rfl ?_
    show rx_aw 202 18 [.ref 90, .int x1, .int x2, .int x3, .int x4] [.int x1, .ref 100] (rx_hp L t hi hl v) Q
    obtain ⟨j2, ej2, hj2, k⟩ := k
    refine rx_aw_iald (pc := 18) (n := 6) j2 ej2 rfl rfl rfl hj2 (by decide) ?_
    show rx_aw 202 19 [.ref 90, .int x1, .int x2, .int x3, .int x4] [.int (hi 100 j2)] (rx_hp L t hi hl v) Q
    refine rx_aw_s 1 (pc := 19) rfl ?_
    refine rx_w_ifn (c := (hi 100 j2) = 0) ⟨fun c3 => ?_, fun c3 => ?_⟩
    · have k := k.1 c3
      show rx_aw 202 22 [.ref 90, .int x1, .int x2, .int x3, .int x4] [] (rx_hp L t hi hl v) Q
      refine rx_aw_s 3 (pc := 22) rfl ?_
      show rx_aw 202 27 [.ref 90, .int x1, .int x2, .int x3, .int x4] [.int x1, .ref 94] (rx_hp L t hi hl v) Q
      obtain ⟨j4, ej4, hj4, k⟩ := k
      refine rx_aw_iald (pc := 27) (n := 6) j4 ej4 rfl rfl rfl hj4 (by decide) ?_
      show rx_aw 202 28 [.ref 90, .int x1, .int x2, .int x3, .int x4] [.int (hi 94 j4)] (rx_hp L t hi hl v) Q
      refine rx_aw_s 2 (pc := 28) rfl ?_
      refine rx_w_if (c := (hi 94 j4) ≤ x2) ⟨fun c5 => ?_, fun c5 => ?_⟩
      · have k := k.1 c5
        show rx_aw 202 101 [.ref 90, .int x1, .int x2, .int x3, .int x4] [] (rx_hp L t hi hl v) Q
        refine rx_aw_s 1 (pc := 101) rfl ?_
        show rx_aw 202 102 [.ref 90, .int x1, .int x2, .int x3, .int x4] [.int x3] (rx_hp L t hi hl v) Q
        exact rx_w_zret (pc := 102) rfl rfl k
      · have k := k.2 c5
        show rx_aw 202 32 [.ref 90, .int x1, .int x2, .int x3, .int x4] [] (rx_hp L t hi hl v) Q
        refine rx_aw_s 2 (pc := 32) rfl ?_
        refine rx_w_ifn (c := x3 = 0) ⟨fun c6 => ?_, fun c6 => ?_⟩
        · have k := k.1 c6
          show rx_aw 202 36 [.ref 90, .int x1, .int x2, .int x3, .int x4] [] (rx_hp L t hi hl v) Q
          refine rx_aw_s 3 (pc := 36) rfl ?_
          refine rx_w_if (c := x4 ≤ x2) ⟨fun c7 => ?_, fun c7 => ?_⟩
          · have k := k.1 c7
            show rx_aw 202 62 [.ref 90, .int x1, .int x2, .int x3, .int x4] [] (rx_hp L t hi hl v) Q
            refine rx_aw_s 4 (pc := 62) rfl ?_
            show rx_aw 202 69 [.ref 90, .int x1, .int x2, .int x3, .int x4] [.int x1, .ref 94, .int x4] (rx_hp L t hi hl v) Q
            obtain ⟨j8, ej8, hj8, k⟩ := k
            refine rx_aw_iald (pc := 69) (n := 6) j8 ej8 rfl rfl rfl hj8 (by decide) ?_
            show rx_aw 202 70 [.ref 90, .int x1, .int x2, .int x3, .int x4] [.int (hi 94 j8), .int x4] (rx_hp L t hi hl v) Q
            refine rx_aw_s 1 (pc := 70) rfl ?_
            refine rx_w_if (c := (hi 94 j8) ≤ x4) ⟨fun c9 => ?_, fun c9 => ?_⟩
            · have k := k.1 c9
              show rx_aw 202 93 [.ref 90, .int x1, .int x2, .int x3, .int x4] [] (rx_hp L t hi hl v) Q
              refine rx_aw_s 4 (pc := 93) rfl ?_
              show rx_aw 202 5 [.ref 90, .int x1, .int x2, .int (0 : Int32), .int (x4 + (1 : Int32))] [] (rx_hp L t hi hl v) Q
              exact k
            · have k := k.2 c9
              show rx_aw 202 73 [.ref 90, .int x1, .int x2, .int x3, .int x4] [] (rx_hp L t hi hl v) Q
              refine rx_aw_s 7 (pc := 73) rfl ?_
              show rx_aw 202 85 [.ref 90, .int x1, .int x2, .int x3, .int x4] [.int (((402 : Int32) * x1) + x4), .ref 104] (rx_hp L t hi hl v) Q
              obtain ⟨j10, ej10, hj10, k⟩ := k
              refine rx_aw_bald (pc := 85) (n := 2412) j10 ej10 rfl (Or.inr rfl) (by decide) rfl hj10 (by decide) ?_
              show rx_aw 202 86 [.ref 90, .int x1, .int x2, .int x3, .int x4] [.int (hi 104 j10)] (rx_hp L t hi hl v) Q
              refine rx_aw_s 1 (pc := 86) rfl ?_
              refine rx_w_ifn (c := (hi 104 j10) = 0) ⟨fun c11 => ?_, fun c11 => ?_⟩
              · have k := k.1 c11
                show rx_aw 202 89 [.ref 90, .int x1, .int x2, .int x3, .int x4] [] (rx_hp L t hi hl v) Q
                refine rx_aw_s 5 (pc := 89) rfl ?_
                show rx_aw 202 5 [.ref 90, .int x1, .int x2, .int (1 : Int32), .int (x4 + (1 : Int32))] [] (rx_hp L t hi hl v) Q
                exact k
              · have k := k.2 c11
                show rx_aw 202 93 [.ref 90, .int x1, .int x2, .int x3, .int x4] [] (rx_hp L t hi hl v) Q
                refine rx_aw_s 4 (pc := 93) rfl ?_
                show rx_aw 202 5 [.ref 90, .int x1, .int x2, .int (0 : Int32), .int (x4 + (1 : Int32))] [] (rx_hp L t hi hl v) Q
                exact k
          · have k := k.2 c7
            show rx_aw 202 42 [.ref 90, .int x1, .int x2, .int x3, .int x4] [] (rx_hp L t hi hl v) Q
            refine rx_aw_s 3 (pc := 42) rfl ?_
            show rx_aw 202 46 [.ref 90, .int x1, .int x2, .int x3, .int x4] [.int x4, .int x1, .ref 90] (rx_hp L t hi hl v) Q
            refine rx_w_callI (j := 173) (pc := 46) rfl rfl rfl rfl rfl ?_
            refine rx_aw.mono k (fun r h2 k => ?_)
            obtain ⟨z12, rfl, hi12, hl12, v12, rfl, k⟩ := k
            refine ⟨z12, rfl, ?_⟩
            show rx_aw 202 49 [.ref 90, .int x1, .int x2, .int x3, .int x4] [.int z12] (rx_hp L t hi12 hl12 v12) Q
            refine rx_aw_s 1 (pc := 49) rfl ?_
            refine rx_w_if (c := z12 = 0) ⟨fun c13 => ?_, fun c13 => ?_⟩
            · have k := k.1 c13
              show rx_aw 202 89 [.ref 90, .int x1, .int x2, .int x3, .int x4] [] (rx_hp L t hi12 hl12 v12) Q
              refine rx_aw_s 5 (pc := 89) rfl ?_
              show rx_aw 202 5 [.ref 90, .int x1, .int x2, .int (1 : Int32), .int (x4 + (1 : Int32))] [] (rx_hp L t hi12 hl12 v12) Q
              exact k
            · have k := k.2 c13
              show rx_aw 202 52 [.ref 90, .int x1, .int x2, .int x3, .int x4] [] (rx_hp L t hi12 hl12 v12) Q
              refine rx_aw_s 3 (pc := 52) rfl ?_
              show rx_aw 202 56 [.ref 90, .int x1, .int x2, .int x3, .int x4] [.int x4, .int x1, .ref 90] (rx_hp L t hi12 hl12 v12) Q
              refine rx_w_callI (j := 174) (pc := 56) rfl rfl rfl rfl rfl ?_
              refine rx_aw.mono k (fun r h2 k => ?_)
              obtain ⟨z14, rfl, hi14, hl14, v14, rfl, k⟩ := k
              refine ⟨z14, rfl, ?_⟩
              show rx_aw 202 59 [.ref 90, .int x1, .int x2, .int x3, .int x4] [.int z14] (rx_hp L t hi14 hl14 v14) Q
              refine rx_aw_s 1 (pc := 59) rfl ?_
              refine rx_w_ifn (c := z14 = 0) ⟨fun c15 => ?_, fun c15 => ?_⟩
              · have k := k.1 c15
                show rx_aw 202 62 [.ref 90, .int x1, .int x2, .int x3, .int x4] [] (rx_hp L t hi14 hl14 v14) Q
                refine rx_aw_s 4 (pc := 62) rfl ?_
                show rx_aw 202 69 [.ref 90, .int x1, .int x2, .int x3, .int x4] [.int x1, .ref 94, .int x4] (rx_hp L t hi14 hl14 v14) Q
                obtain ⟨j16, ej16, hj16, k⟩ := k
                refine rx_aw_iald (pc := 69) (n := 6) j16 ej16 rfl rfl rfl hj16 (by decide) ?_
                show rx_aw 202 70 [.ref 90, .int x1, .int x2, .int x3, .int x4] [.int (hi14 94 j16), .int x4] (rx_hp L t hi14 hl14 v14) Q
                refine rx_aw_s 1 (pc := 70) rfl ?_
                refine rx_w_if (c := (hi14 94 j16) ≤ x4) ⟨fun c17 => ?_, fun c17 => ?_⟩
                · have k := k.1 c17
                  show rx_aw 202 93 [.ref 90, .int x1, .int x2, .int x3, .int x4] [] (rx_hp L t hi14 hl14 v14) Q
                  refine rx_aw_s 4 (pc := 93) rfl ?_
                  show rx_aw 202 5 [.ref 90, .int x1, .int x2, .int (0 : Int32), .int (x4 + (1 : Int32))] [] (rx_hp L t hi14 hl14 v14) Q
                  exact k
                · have k := k.2 c17
                  show rx_aw 202 73 [.ref 90, .int x1, .int x2, .int x3, .int x4] [] (rx_hp L t hi14 hl14 v14) Q
                  refine rx_aw_s 7 (pc := 73) rfl ?_
                  show rx_aw 202 85 [.ref 90, .int x1, .int x2, .int x3, .int x4] [.int (((402 : Int32) * x1) + x4), .ref 104] (rx_hp L t hi14 hl14 v14) Q
                  obtain ⟨j18, ej18, hj18, k⟩ := k
                  refine rx_aw_bald (pc := 85) (n := 2412) j18 ej18 rfl (Or.inr rfl) (by decide) rfl hj18 (by decide) ?_
                  show rx_aw 202 86 [.ref 90, .int x1, .int x2, .int x3, .int x4] [.int (hi14 104 j18)] (rx_hp L t hi14 hl14 v14) Q
                  refine rx_aw_s 1 (pc := 86) rfl ?_
                  refine rx_w_ifn (c := (hi14 104 j18) = 0) ⟨fun c19 => ?_, fun c19 => ?_⟩
                  · have k := k.1 c19
                    show rx_aw 202 89 [.ref 90, .int x1, .int x2, .int x3, .int x4] [] (rx_hp L t hi14 hl14 v14) Q
                    refine rx_aw_s 5 (pc := 89) rfl ?_
                    show rx_aw 202 5 [.ref 90, .int x1, .int x2, .int (1 : Int32), .int (x4 + (1 : Int32))] [] (rx_hp L t hi14 hl14 v14) Q
                    exact k
                  · have k := k.2 c19
                    show rx_aw 202 93 [.ref 90, .int x1, .int x2, .int x3, .int x4] [] (rx_hp L t hi14 hl14 v14) Q
                    refine rx_aw_s 4 (pc := 93) rfl ?_
                    show rx_aw 202 5 [.ref 90, .int x1, .int x2, .int (0 : Int32), .int (x4 + (1 : Int32))] [] (rx_hp L t hi14 hl14 v14) Q
                    exact k
              · have k := k.2 c15
                show rx_aw 202 89 [.ref 90, .int x1, .int x2, .int x3, .int x4] [] (rx_hp L t hi14 hl14 v14) Q
                refine rx_aw_s 5 (pc := 89) rfl ?_
                show rx_aw 202 5 [.ref 90, .int x1, .int x2, .int (1 : Int32), .int (x4 + (1 : Int32))] [] (rx_hp L t hi14 hl14 v14) Q
                exact k
        · have k := k.2 c6
          show rx_aw 202 101 [.ref 90, .int x1, .int x2, .int x3, .int x4] [] (rx_hp L t hi hl v) Q
          refine rx_aw_s 1 (pc := 101) rfl ?_
          show rx_aw 202 102 [.ref 90, .int x1, .int x2, .int x3, .int x4] [.int x3] (rx_hp L t hi hl v) Q
          exact rx_w_zret (pc := 102) rfl rfl k
    · have k := k.2 c3
      show rx_aw 202 101 [.ref 90, .int x1, .int x2, .int x3, .int x4] [] (rx_hp L t hi hl v) Q
      refine rx_aw_s 1 (pc := 101) rfl ?_
      show rx_aw 202 102 [.ref 90, .int x1, .int x2, .int x3, .int x4] [.int x3] (rx_hp L t hi hl v) Q
      exact rx_w_zret (pc := 102) rfl rfl k
set_option maxRecDepth 100000 in
/-- CartFloorModel.dawn()I -/
theorem w203_dawn_r {L : Nat} {t : List (Nat × Nat)} {hi : Nat → Nat → Int32} {hl : Nat → Nat → Int64} {v : Nat → Nat → Option Nat} {Q : Option Value → rx_H → Prop}  (k : rx_aw 203 7 [.ref 90, .int (0 : Int32), rx_no] [] (rx_hp L t (rx_u hi 90 48 (0 : Int32)) hl v) Q) : rx_me 203 [.ref 90] (rx_hp L t hi hl v) Q := by
  show rx_aw 203 0 [.ref 90, rx_no, rx_no] [] (rx_hp L t hi hl v) Q
  refine rx_aw_s 5 (pc := 0) rfl ?_
  show rx_aw 203 7 [.ref 90, .int (0 : Int32), rx_no] [] (rx_hp L t (rx_u hi 90 48 (0 : Int32)) hl v) Q
  exact k
set_option maxRecDepth 100000 in
theorem w203_dawn_r_7 {L : Nat} {t : List (Nat × Nat)} {hi : Nat → Nat → Int32} {hl : Nat → Nat → Int64} {v : Nat → Nat → Option Nat} {Q : Option Value → rx_H → Prop} {x1 : Int32} (k : (((hi 90 6) ≤ x1 → rx_aw 203 111 [.ref 90, .int (0 : Int32), rx_no] [] (rx_hp L t hi hl v) Q) ∧ (¬ ((hi 90 6) ≤ x1) → (∃ j2 : Nat, ((((402 : Int32) * x1) + (402 : Int32)) - (1 : Int32)) = nI j2 ∧ j2 < 2412 ∧ (∃ j3 : Nat, ((402 : Int32) * x1) = nI j3 ∧ j3 < 2412 ∧ (∃ j4 : Nat, ((((402 : Int32) * x1) + (402 : Int32)) - (1 : Int32)) = nI j4 ∧ j4 < 2412 ∧ (∃ j5 : Nat, ((402 : Int32) * x1) = nI j5 ∧ j5 < 2412 ∧ (∃ j6 : Nat, ((((402 : Int32) * x1) + (402 : Int32)) - (1 : Int32)) = nI j6 ∧ j6 < 2412 ∧ (∃ j7 : Nat, ((402 : Int32) * x1) = nI j7 ∧ j7 < 2412 ∧ (∃ j8 : Nat, x1 = nI j8 ∧ j8 < 6 ∧ (∃ j9 : Nat, x1 = nI j9 ∧ j9 < 6 ∧ (∃ j10 : Nat, x1 = nI j10 ∧ j10 < 6 ∧ (∃ j11 : Nat, x1 = nI j11 ∧ j11 < 6 ∧ rx_aw 203 7 [.ref 90, .int (x1 + (1 : Int32)), rx_no] [] (rx_hp L t (rx_u (rx_u (rx_u (rx_u (rx_u (rx_u (rx_u hi 101 j3 (hi 101 j2)) 102 j5 ((rx_u hi 101 j3 (hi 101 j2)) 102 j4)) 103 j7 ((rx_u (rx_u hi 101 j3 (hi 101 j2)) 102 j5 ((rx_u hi 101 j3 (hi 101 j2)) 102 j4)) 103 j6)) 94 j8 (0 : Int32)) 96 j9 (vp_nar .boolean (0 : Int32))) 99 j10 (vp_nar .boolean (0 : Int32))) 100 j11 (0 : Int32)) hl v) Q))))))))))))) : rx_aw 203 7 [.ref 90, .int x1, rx_no] [] (rx_hp L t hi hl v) Q := by
  refine rx_aw_s 4 (pc := 7) rfl ?_
  refine rx_w_if (c := (hi 90 6) ≤ x1) ⟨fun c1 => ?_, fun c1 => ?_⟩
  · have k := k.1 c1
    show rx_aw 203 109 [.ref 90, .int x1, rx_no] [] (rx_hp L t hi hl v) Q
    refine rx_aw_s 2 (pc := 109) rfl ?_
    show rx_aw 203 111 [.ref 90, .int (0 : Int32), rx_no] [] (rx_hp L t hi hl v) Q
    exact k
  · have k := k.2 c1
    show rx_aw 203 15 [.ref 90, .int x1, rx_no] [] (rx_hp L t hi hl v) Q
    refine rx_aw_s 14 (pc := 15) rfl ?_
    show rx_aw 203 37 [.ref 90, .int x1, .int ((402 : Int32) * x1)] [.int ((((402 : Int32) * x1) + (402 : Int32)) - (1 : Int32)), .ref 101, .int ((402 : Int32) * x1), .ref 101] (rx_hp L t hi hl v) Q
    obtain ⟨j2, ej2, hj2, k⟩ := k
    refine rx_aw_iald (pc := 37) (n := 2412) j2 ej2 rfl rfl rfl hj2 (by decide) ?_
    show rx_aw 203 38 [.ref 90, .int x1, .int ((402 : Int32) * x1)] [.int (hi 101 j2), .int ((402 : Int32) * x1), .ref 101] (rx_hp L t hi hl v) Q
    obtain ⟨j3, ej3, hj3, k⟩ := k
    refine rx_aw_iast (pc := 38) (n := 2412) j3 ej3 rfl rfl (by decide) rfl hj3 (by decide) ?_
    show rx_aw 203 39 [.ref 90, .int x1, .int ((402 : Int32) * x1)] [] (rx_hp L t (rx_u hi 101 j3 (hi 101 j2)) hl v) Q
    refine rx_aw_s 10 (pc := 39) rfl ?_
    show rx_aw 203 55 [.ref 90, .int x1, .int ((402 : Int32) * x1)] [.int ((((402 : Int32) * x1) + (402 : Int32)) - (1 : Int32)), .ref 102, .int ((402 : Int32) * x1), .ref 102] (rx_hp L t (rx_u hi 101 j3 (hi 101 j2)) hl v) Q
    obtain ⟨j4, ej4, hj4, k⟩ := k
    refine rx_aw_iald (pc := 55) (n := 2412) j4 ej4 rfl rfl rfl hj4 (by decide) ?_
    show rx_aw 203 56 [.ref 90, .int x1, .int ((402 : Int32) * x1)] [.int ((rx_u hi 101 j3 (hi 101 j2)) 102 j4), .int ((402 : Int32) * x1), .ref 102] (rx_hp L t (rx_u hi 101 j3 (hi 101 j2)) hl v) Q
    obtain ⟨j5, ej5, hj5, k⟩ := k
    refine rx_aw_iast (pc := 56) (n := 2412) j5 ej5 rfl rfl (by decide) rfl hj5 (by decide) ?_
    show rx_aw 203 57 [.ref 90, .int x1, .int ((402 : Int32) * x1)] [] (rx_hp L t (rx_u (rx_u hi 101 j3 (hi 101 j2)) 102 j5 ((rx_u hi 101 j3 (hi 101 j2)) 102 j4)) hl v) Q
    refine rx_aw_s 10 (pc := 57) rfl ?_
    show rx_aw 203 73 [.ref 90, .int x1, .int ((402 : Int32) * x1)] [.int ((((402 : Int32) * x1) + (402 : Int32)) - (1 : Int32)), .ref 103, .int ((402 : Int32) * x1), .ref 103] (rx_hp L t (rx_u (rx_u hi 101 j3 (hi 101 j2)) 102 j5 ((rx_u hi 101 j3 (hi 101 j2)) 102 j4)) hl v) Q
    obtain ⟨j6, ej6, hj6, k⟩ := k
    refine rx_aw_iald (pc := 73) (n := 2412) j6 ej6 rfl rfl rfl hj6 (by decide) ?_
    show rx_aw 203 74 [.ref 90, .int x1, .int ((402 : Int32) * x1)] [.int ((rx_u (rx_u hi 101 j3 (hi 101 j2)) 102 j5 ((rx_u hi 101 j3 (hi 101 j2)) 102 j4)) 103 j6), .int ((402 : Int32) * x1), .ref 103] (rx_hp L t (rx_u (rx_u hi 101 j3 (hi 101 j2)) 102 j5 ((rx_u hi 101 j3 (hi 101 j2)) 102 j4)) hl v) Q
    obtain ⟨j7, ej7, hj7, k⟩ := k
    refine rx_aw_iast (pc := 74) (n := 2412) j7 ej7 rfl rfl (by decide) rfl hj7 (by decide) ?_
    show rx_aw 203 75 [.ref 90, .int x1, .int ((402 : Int32) * x1)] [] (rx_hp L t (rx_u (rx_u (rx_u hi 101 j3 (hi 101 j2)) 102 j5 ((rx_u hi 101 j3 (hi 101 j2)) 102 j4)) 103 j7 ((rx_u (rx_u hi 101 j3 (hi 101 j2)) 102 j5 ((rx_u hi 101 j3 (hi 101 j2)) 102 j4)) 103 j6)) hl v) Q
    refine rx_aw_s 4 (pc := 75) rfl ?_
    show rx_aw 203 81 [.ref 90, .int x1, .int ((402 : Int32) * x1)] [.int (0 : Int32), .int x1, .ref 94] (rx_hp L t (rx_u (rx_u (rx_u hi 101 j3 (hi 101 j2)) 102 j5 ((rx_u hi 101 j3 (hi 101 j2)) 102 j4)) 103 j7 ((rx_u (rx_u hi 101 j3 (hi 101 j2)) 102 j5 ((rx_u hi 101 j3 (hi 101 j2)) 102 j4)) 103 j6)) hl v) Q
    obtain ⟨j8, ej8, hj8, k⟩ := k
    refine rx_aw_iast (pc := 81) (n := 6) j8 ej8 rfl rfl (by decide) rfl hj8 (by decide) ?_
    show rx_aw 203 82 [.ref 90, .int x1, .int ((402 : Int32) * x1)] [] (rx_hp L t (rx_u (rx_u (rx_u (rx_u hi 101 j3 (hi 101 j2)) 102 j5 ((rx_u hi 101 j3 (hi 101 j2)) 102 j4)) 103 j7 ((rx_u (rx_u hi 101 j3 (hi 101 j2)) 102 j5 ((rx_u hi 101 j3 (hi 101 j2)) 102 j4)) 103 j6)) 94 j8 (0 : Int32)) hl v) Q
    refine rx_aw_s 4 (pc := 82) rfl ?_
    show rx_aw 203 88 [.ref 90, .int x1, .int ((402 : Int32) * x1)] [.int (0 : Int32), .int x1, .ref 96] (rx_hp L t (rx_u (rx_u (rx_u (rx_u hi 101 j3 (hi 101 j2)) 102 j5 ((rx_u hi 101 j3 (hi 101 j2)) 102 j4)) 103 j7 ((rx_u (rx_u hi 101 j3 (hi 101 j2)) 102 j5 ((rx_u hi 101 j3 (hi 101 j2)) 102 j4)) 103 j6)) 94 j8 (0 : Int32)) hl v) Q
    obtain ⟨j9, ej9, hj9, k⟩ := k
    refine rx_aw_zast (pc := 88) (n := 6) j9 ej9 rfl rfl (by decide) rfl hj9 (by decide) ?_
    show rx_aw 203 89 [.ref 90, .int x1, .int ((402 : Int32) * x1)] [] (rx_hp L t (rx_u (rx_u (rx_u (rx_u (rx_u hi 101 j3 (hi 101 j2)) 102 j5 ((rx_u hi 101 j3 (hi 101 j2)) 102 j4)) 103 j7 ((rx_u (rx_u hi 101 j3 (hi 101 j2)) 102 j5 ((rx_u hi 101 j3 (hi 101 j2)) 102 j4)) 103 j6)) 94 j8 (0 : Int32)) 96 j9 (vp_nar .boolean (0 : Int32))) hl v) Q
    refine rx_aw_s 4 (pc := 89) rfl ?_
    show rx_aw 203 95 [.ref 90, .int x1, .int ((402 : Int32) * x1)] [.int (0 : Int32), .int x1, .ref 99] (rx_hp L t (rx_u (rx_u (rx_u (rx_u (rx_u hi 101 j3 (hi 101 j2)) 102 j5 ((rx_u hi 101 j3 (hi 101 j2)) 102 j4)) 103 j7 ((rx_u (rx_u hi 101 j3 (hi 101 j2)) 102 j5 ((rx_u hi 101 j3 (hi 101 j2)) 102 j4)) 103 j6)) 94 j8 (0 : Int32)) 96 j9 (vp_nar .boolean (0 : Int32))) hl v) Q
    obtain ⟨j10, ej10, hj10, k⟩ := k
    refine rx_aw_zast (pc := 95) (n := 6) j10 ej10 rfl rfl (by decide) rfl hj10 (by decide) ?_
    show rx_aw 203 96 [.ref 90, .int x1, .int ((402 : Int32) * x1)] [] (rx_hp L t (rx_u (rx_u (rx_u (rx_u (rx_u (rx_u hi 101 j3 (hi 101 j2)) 102 j5 ((rx_u hi 101 j3 (hi 101 j2)) 102 j4)) 103 j7 ((rx_u (rx_u hi 101 j3 (hi 101 j2)) 102 j5 ((rx_u hi 101 j3 (hi 101 j2)) 102 j4)) 103 j6)) 94 j8 (0 : Int32)) 96 j9 (vp_nar .boolean (0 : Int32))) 99 j10 (vp_nar .boolean (0 : Int32))) hl v) Q
    refine rx_aw_s 4 (pc := 96) rfl ?_
    show rx_aw 203 102 [.ref 90, .int x1, .int ((402 : Int32) * x1)] [.int (0 : Int32), .int x1, .ref 100] (rx_hp L t (rx_u (rx_u (rx_u (rx_u (rx_u (rx_u hi 101 j3 (hi 101 j2)) 102 j5 ((rx_u hi 101 j3 (hi 101 j2)) 102 j4)) 103 j7 ((rx_u (rx_u hi 101 j3 (hi 101 j2)) 102 j5 ((rx_u hi 101 j3 (hi 101 j2)) 102 j4)) 103 j6)) 94 j8 (0 : Int32)) 96 j9 (vp_nar .boolean (0 : Int32))) 99 j10 (vp_nar .boolean (0 : Int32))) hl v) Q
    obtain ⟨j11, ej11, hj11, k⟩ := k
    refine rx_aw_iast (pc := 102) (n := 6) j11 ej11 rfl rfl (by decide) rfl hj11 (by decide) ?_
    show rx_aw 203 103 [.ref 90, .int x1, .int ((402 : Int32) * x1)] [] (rx_hp L t (rx_u (rx_u (rx_u (rx_u (rx_u (rx_u (rx_u hi 101 j3 (hi 101 j2)) 102 j5 ((rx_u hi 101 j3 (hi 101 j2)) 102 j4)) 103 j7 ((rx_u (rx_u hi 101 j3 (hi 101 j2)) 102 j5 ((rx_u hi 101 j3 (hi 101 j2)) 102 j4)) 103 j6)) 94 j8 (0 : Int32)) 96 j9 (vp_nar .boolean (0 : Int32))) 99 j10 (vp_nar .boolean (0 : Int32))) 100 j11 (0 : Int32)) hl v) Q
    refine rx_aw_s 2 (pc := 103) rfl ?_
    show rx_aw 203 7 [.ref 90, .int (x1 + (1 : Int32)), .int ((402 : Int32) * x1)] [] (rx_hp L t (rx_u (rx_u (rx_u (rx_u (rx_u (rx_u (rx_u hi 101 j3 (hi 101 j2)) 102 j5 ((rx_u hi 101 j3 (hi 101 j2)) 102 j4)) 103 j7 ((rx_u (rx_u hi 101 j3 (hi 101 j2)) 102 j5 ((rx_u hi 101 j3 (hi 101 j2)) 102 j4)) 103 j6)) 94 j8 (0 : Int32)) 96 j9 (vp_nar .boolean (0 : Int32))) 99 j10 (vp_nar .boolean (0 : Int32))) 100 j11 (0 : Int32)) hl v) Q
    exact rx_aw_le (ls := [.ref 90, .int (x1 + (1 : Int32)), rx_no]) ⟨Or.inr rfl, ⟨Or.inr rfl, ⟨Or.inl rfl, trivial⟩⟩⟩ k
set_option maxRecDepth 100000 in
theorem w203_dawn_r_111 {L : Nat} {t : List (Nat × Nat)} {hi : Nat → Nat → Int32} {hl : Nat → Nat → Int64} {v : Nat → Nat → Option Nat} {Q : Option Value → rx_H → Prop} {x1 : Int32} (k : (((hi 90 21) ≤ x1 → rx_me 191 [.ref 90] (rx_hp L t hi hl v) (fun r h2 => r = none ∧ rx_ok2 L t h2 (fun hi13 hl13 v13 => Q (some (.int ((rx_u hi13 90 5 ((hi13 90 5) + (1 : Int32))) 90 5))) (rx_hp L t (rx_u hi13 90 5 ((hi13 90 5) + (1 : Int32))) hl13 v13)))) ∧ (¬ ((hi 90 21) ≤ x1) → (∃ j14 : Nat, ((((402 : Int32) * x1) + (402 : Int32)) - (1 : Int32)) = nI j14 ∧ j14 < 4824 ∧ (∃ j15 : Nat, x1 = nI j15 ∧ j15 < 12 ∧ rx_aw 203 111 [.ref 90, .int (x1 + (1 : Int32)), rx_no] [] (rx_hp L t (rx_u hi 107 j15 (hi 108 j14)) hl v) Q))))) : rx_aw 203 111 [.ref 90, .int x1, rx_no] [] (rx_hp L t hi hl v) Q := by
  refine rx_aw_s 4 (pc := 111) rfl ?_
  refine rx_w_if (c := (hi 90 21) ≤ x1) ⟨fun c12 => ?_, fun c12 => ?_⟩
  · have k := k.1 c12
    show rx_aw 203 147 [.ref 90, .int x1, rx_no] [] (rx_hp L t hi hl v) Q
    refine rx_aw_s 1 (pc := 147) rfl ?_
    show rx_aw 203 148 [.ref 90, .int x1, rx_no] [.ref 90] (rx_hp L t hi hl v) Q
    refine rx_w_callV (j := 191) (pc := 148) rfl rfl rfl rfl rfl ?_
    refine rx_aw.mono k (fun r h2 k => ?_)
    obtain ⟨rfl, hi13, hl13, v13, rfl, k⟩ := k
    refine ⟨rfl, ?_⟩
    show rx_aw 203 151 [.ref 90, .int x1, rx_no] [] (rx_hp L t hi13 hl13 v13) Q
    refine rx_aw_s 8 (pc := 151) rfl ?_
    show rx_aw 203 165 [.ref 90, .int x1, rx_no] [.int ((rx_u hi13 90 5 ((hi13 90 5) + (1 : Int32))) 90 5)] (rx_hp L t (rx_u hi13 90 5 ((hi13 90 5) + (1 : Int32))) hl13 v13) Q
    exact rx_aw_ret (pc := 165) rfl k
  · have k := k.2 c12
    show rx_aw 203 119 [.ref 90, .int x1, rx_no] [] (rx_hp L t hi hl v) Q
    refine rx_aw_s 12 (pc := 119) rfl ?_
    show rx_aw 203 139 [.ref 90, .int x1, rx_no] [.int ((((402 : Int32) * x1) + (402 : Int32)) - (1 : Int32)), .ref 108, .int x1, .ref 107] (rx_hp L t hi hl v) Q
    obtain ⟨j14, ej14, hj14, k⟩ := k
    refine rx_aw_iald (pc := 139) (n := 4824) j14 ej14 rfl rfl rfl hj14 (by decide) ?_
    show rx_aw 203 140 [.ref 90, .int x1, rx_no] [.int (hi 108 j14), .int x1, .ref 107] (rx_hp L t hi hl v) Q
    obtain ⟨j15, ej15, hj15, k⟩ := k
    refine rx_aw_iast (pc := 140) (n := 12) j15 ej15 rfl rfl (by decide) rfl hj15 (by decide) ?_
    show rx_aw 203 141 [.ref 90, .int x1, rx_no] [] (rx_hp L t (rx_u hi 107 j15 (hi 108 j14)) hl v) Q
    refine rx_aw_s 2 (pc := 141) rfl ?_
    show rx_aw 203 111 [.ref 90, .int (x1 + (1 : Int32)), rx_no] [] (rx_hp L t (rx_u hi 107 j15 (hi 108 j14)) hl v) Q
    exact k
set_option maxRecDepth 100000 in
/-- CartFloorModel.lay(III)I -/
theorem w204_lay_r {L : Nat} {t : List (Nat × Nat)} {hi : Nat → Nat → Int32} {hl : Nat → Nat → Int64} {v : Nat → Nat → Option Nat} {Q : Option Value → rx_H → Prop} {a0 : Int32} {a1 : Int32} {a2 : Int32} (k : rx_me 182 [.ref 90, .int a0, .int a1] (rx_hp L t hi hl v) (fun r h2 => ∃ z1 : Int32, r = some (.int z1) ∧ rx_ok2 L t h2 (fun hi1 hl1 v1 => ((z1 = 0 → Q (some (.int (-2 : Int32))) (rx_hp L t hi1 hl1 v1)) ∧ (¬ (z1 = 0) → ((a2 < 0 → Q (some (.int (-2 : Int32))) (rx_hp L t hi1 hl1 v1)) ∧ (¬ (a2 < 0) → (((3 : Int32) < a2 → Q (some (.int (-2 : Int32))) (rx_hp L t hi1 hl1 v1)) ∧ (¬ ((3 : Int32) < a2) → ((((hi1 90 6) + (hi1 90 21)) ≤ 0 → (∃ j6 : Nat, ((a1 * (hi1 90 0)) + a0) = nI j6 ∧ j6 < 64 ∧ (∃ j7 : Nat, ((a1 * (hi1 90 0)) + a0) = nI j7 ∧ j7 < 64 ∧ Q (some (.int (hi1 91 j6))) (rx_hp L t (rx_u hi1 91 j7 a2) hl1 v1)))) ∧ (¬ (((hi1 90 6) + (hi1 90 21)) ≤ 0) → Q (some (.int (-2 : Int32))) (rx_hp L t hi1 hl1 v1)))))))))))) : rx_me 204 [.ref 90, .int a0, .int a1, .int a2] (rx_hp L t hi hl v) Q := by
  show rx_aw 204 0 [.ref 90, .int a0, .int a1, .int a2, rx_no] [] (rx_hp L t hi hl v) Q
  refine rx_aw_s 3 (pc := 0) rfl ?_
  show rx_aw 204 3 [.ref 90, .int a0, .int a1, .int a2, rx_no] [.int a1, .int a0, .ref 90] (rx_hp L t hi hl v) Q
  refine rx_w_callI (j := 182) (pc := 3) rfl rfl rfl rfl rfl ?_
  refine rx_aw.mono k (fun r h2 k => ?_)
  obtain ⟨z1, rfl, hi1, hl1, v1, rfl, k⟩ := k
  refine ⟨z1, rfl, ?_⟩
  show rx_aw 204 6 [.ref 90, .int a0, .int a1, .int a2, rx_no] [.int z1] (rx_hp L t hi1 hl1 v1) Q
  refine rx_aw_s 1 (pc := 6) rfl ?_
  refine rx_w_if (c := z1 = 0) ⟨fun c2 => ?_, fun c2 => ?_⟩
  · have k := k.1 c2
    show rx_aw 204 30 [.ref 90, .int a0, .int a1, .int a2, rx_no] [] (rx_hp L t hi1 hl1 v1) Q
    refine rx_aw_s 1 (pc := 30) rfl ?_
    show rx_aw 204 32 [.ref 90, .int a0, .int a1, .int a2, rx_no] [.int (-2 : Int32)] (rx_hp L t hi1 hl1 v1) Q
    exact rx_aw_ret (pc := 32) rfl k
  · have k := k.2 c2
    show rx_aw 204 9 [.ref 90, .int a0, .int a1, .int a2, rx_no] [] (rx_hp L t hi1 hl1 v1) Q
    refine rx_aw_s 2 (pc := 9) rfl ?_
    refine rx_w_if (c := a2 < 0) ⟨fun c3 => ?_, fun c3 => ?_⟩
    · have k := k.1 c3
      show rx_aw 204 30 [.ref 90, .int a0, .int a1, .int a2, rx_no] [] (rx_hp L t hi1 hl1 v1) Q
      refine rx_aw_s 1 (pc := 30) rfl ?_
      show rx_aw 204 32 [.ref 90, .int a0, .int a1, .int a2, rx_no] [.int (-2 : Int32)] (rx_hp L t hi1 hl1 v1) Q
      exact rx_aw_ret (pc := 32) rfl k
    · have k := k.2 c3
      show rx_aw 204 13 [.ref 90, .int a0, .int a1, .int a2, rx_no] [] (rx_hp L t hi1 hl1 v1) Q
      refine rx_aw_s 3 (pc := 13) rfl ?_
      refine rx_w_if (c := (3 : Int32) < a2) ⟨fun c4 => ?_, fun c4 => ?_⟩
      · have k := k.1 c4
        show rx_aw 204 30 [.ref 90, .int a0, .int a1, .int a2, rx_no] [] (rx_hp L t hi1 hl1 v1) Q
        refine rx_aw_s 1 (pc := 30) rfl ?_
        show rx_aw 204 32 [.ref 90, .int a0, .int a1, .int a2, rx_no] [.int (-2 : Int32)] (rx_hp L t hi1 hl1 v1) Q
        exact rx_aw_ret (pc := 32) rfl k
      · have k := k.2 c4
        show rx_aw 204 18 [.ref 90, .int a0, .int a1, .int a2, rx_no] [] (rx_hp L t hi1 hl1 v1) Q
        refine rx_aw_s 6 (pc := 18) rfl ?_
        refine rx_w_if (c := ((hi1 90 6) + (hi1 90 21)) ≤ 0) ⟨fun c5 => ?_, fun c5 => ?_⟩
        · have k := k.1 c5
          show rx_aw 204 33 [.ref 90, .int a0, .int a1, .int a2, rx_no] [] (rx_hp L t hi1 hl1 v1) Q
          refine rx_aw_s 8 (pc := 33) rfl ?_
          show rx_aw 204 45 [.ref 90, .int a0, .int a1, .int a2, rx_no] [.int ((a1 * (hi1 90 0)) + a0), .ref 91] (rx_hp L t hi1 hl1 v1) Q
          obtain ⟨j6, ej6, hj6, k⟩ := k
          refine rx_aw_iald (pc := 45) (n := 64) j6 ej6 rfl rfl rfl hj6 (by decide) ?_
          show rx_aw 204 46 [.ref 90, .int a0, .int a1, .int a2, rx_no] [.int (hi1 91 j6)] (rx_hp L t hi1 hl1 v1) Q
          refine rx_aw_s 10 (pc := 46) rfl ?_
          show rx_aw 204 61 [.ref 90, .int a0, .int a1, .int a2, .int (hi1 91 j6)] [.int a2, .int ((a1 * (hi1 90 0)) + a0), .ref 91] (rx_hp L t hi1 hl1 v1) Q
          obtain ⟨j7, ej7, hj7, k⟩ := k
          refine rx_aw_iast (pc := 61) (n := 64) j7 ej7 rfl rfl (by decide) rfl hj7 (by decide) ?_
          show rx_aw 204 62 [.ref 90, .int a0, .int a1, .int a2, .int (hi1 91 j6)] [] (rx_hp L t (rx_u hi1 91 j7 a2) hl1 v1) Q
          refine rx_aw_s 1 (pc := 62) rfl ?_
          show rx_aw 204 64 [.ref 90, .int a0, .int a1, .int a2, .int (hi1 91 j6)] [.int (hi1 91 j6)] (rx_hp L t (rx_u hi1 91 j7 a2) hl1 v1) Q
          exact rx_aw_ret (pc := 64) rfl k
        · have k := k.2 c5
          show rx_aw 204 30 [.ref 90, .int a0, .int a1, .int a2, rx_no] [] (rx_hp L t hi1 hl1 v1) Q
          refine rx_aw_s 1 (pc := 30) rfl ?_
          show rx_aw 204 32 [.ref 90, .int a0, .int a1, .int a2, rx_no] [.int (-2 : Int32)] (rx_hp L t hi1 hl1 v1) Q
          exact rx_aw_ret (pc := 32) rfl k
set_option maxRecDepth 100000 in
/-- CartFloorModel.row(IZ)I -/
theorem w205_row_r {L : Nat} {t : List (Nat × Nat)} {hi : Nat → Nat → Int32} {hl : Nat → Nat → Int64} {v : Nat → Nat → Option Nat} {Q : Option Value → rx_H → Prop} {a0 : Int32} {a1 : Int32} (k : ((a0 < 0 → Q (some (.int (-2 : Int32))) (rx_hp L t hi hl v)) ∧ (¬ (a0 < 0) → (((hi 90 1) ≤ a0 → Q (some (.int (-2 : Int32))) (rx_hp L t hi hl v)) ∧ (¬ ((hi 90 1) ≤ a0) → ((((hi 90 6) + (hi 90 21)) ≤ 0 → (∃ j4 : Nat, a0 = nI j4 ∧ j4 < 8 ∧ (((hi 92 j4) = 0 → rx_aw 205 45 [.ref 90, .int a0, .int a1, .int (0 : Int32), .int (0 : Int32)] [] (rx_hp L t hi hl v) Q) ∧ (¬ ((hi 92 j4) = 0) → rx_aw 205 45 [.ref 90, .int a0, .int a1, .int (1 : Int32), .int (0 : Int32)] [] (rx_hp L t hi hl v) Q)))) ∧ (¬ (((hi 90 6) + (hi 90 21)) ≤ 0) → Q (some (.int (-2 : Int32))) (rx_hp L t hi hl v)))))))) : rx_me 205 [.ref 90, .int a0, .int a1] (rx_hp L t hi hl v) Q := by
  show rx_aw 205 0 [.ref 90, .int a0, .int a1, rx_no, rx_no] [] (rx_hp L t hi hl v) Q
  refine rx_aw_s 2 (pc := 0) rfl ?_
  refine rx_w_if (c := a0 < 0) ⟨fun c1 => ?_, fun c1 => ?_⟩
  · have k := k.1 c1
    show rx_aw 205 24 [.ref 90, .int a0, .int a1, rx_no, rx_no] [] (rx_hp L t hi hl v) Q
    refine rx_aw_s 1 (pc := 24) rfl ?_
    show rx_aw 205 26 [.ref 90, .int a0, .int a1, rx_no, rx_no] [.int (-2 : Int32)] (rx_hp L t hi hl v) Q
    exact rx_aw_ret (pc := 26) rfl k
  · have k := k.2 c1
    show rx_aw 205 4 [.ref 90, .int a0, .int a1, rx_no, rx_no] [] (rx_hp L t hi hl v) Q
    refine rx_aw_s 4 (pc := 4) rfl ?_
    refine rx_w_if (c := (hi 90 1) ≤ a0) ⟨fun c2 => ?_, fun c2 => ?_⟩
    · have k := k.1 c2
      show rx_aw 205 24 [.ref 90, .int a0, .int a1, rx_no, rx_no] [] (rx_hp L t hi hl v) Q
      refine rx_aw_s 1 (pc := 24) rfl ?_
      show rx_aw 205 26 [.ref 90, .int a0, .int a1, rx_no, rx_no] [.int (-2 : Int32)] (rx_hp L t hi hl v) Q
      exact rx_aw_ret (pc := 26) rfl k
    · have k := k.2 c2
      show rx_aw 205 12 [.ref 90, .int a0, .int a1, rx_no, rx_no] [] (rx_hp L t hi hl v) Q
      refine rx_aw_s 6 (pc := 12) rfl ?_
      refine rx_w_if (c := ((hi 90 6) + (hi 90 21)) ≤ 0) ⟨fun c3 => ?_, fun c3 => ?_⟩
      · have k := k.1 c3
        show rx_aw 205 27 [.ref 90, .int a0, .int a1, rx_no, rx_no] [] (rx_hp L t hi hl v) Q
        refine rx_aw_s 3 (pc := 27) rfl ?_
        show rx_aw 205 32 [.ref 90, .int a0, .int a1, rx_no, rx_no] [.int a0, .ref 92] (rx_hp L t hi hl v) Q
        obtain ⟨j4, ej4, hj4, k⟩ := k
        refine rx_aw_bald (pc := 32) (n := 8) j4 ej4 rfl (Or.inr rfl) (by decide) rfl hj4 (by decide) ?_
        show rx_aw 205 33 [.ref 90, .int a0, .int a1, rx_no, rx_no] [.int (hi 92 j4)] (rx_hp L t hi hl v) Q
        refine rx_aw_s 1 (pc := 33) rfl ?_
        refine rx_w_if (c := (hi 92 j4) = 0) ⟨fun c5 => ?_, fun c5 => ?_⟩
        · have k := k.1 c5
          show rx_aw 205 40 [.ref 90, .int a0, .int a1, rx_no, rx_no] [] (rx_hp L t hi hl v) Q
          refine rx_aw_s 4 (pc := 40) rfl ?_
          show rx_aw 205 45 [.ref 90, .int a0, .int a1, .int (0 : Int32), .int (0 : Int32)] [] (rx_hp L t hi hl v) Q
          exact k
        · have k := k.2 c5
          show rx_aw 205 36 [.ref 90, .int a0, .int a1, rx_no, rx_no] [] (rx_hp L t hi hl v) Q
          refine rx_aw_s 5 (pc := 36) rfl ?_
          show rx_aw 205 45 [.ref 90, .int a0, .int a1, .int (1 : Int32), .int (0 : Int32)] [] (rx_hp L t hi hl v) Q
          exact k
      · have k := k.2 c3
        show rx_aw 205 24 [.ref 90, .int a0, .int a1, rx_no, rx_no] [] (rx_hp L t hi hl v) Q
        refine rx_aw_s 1 (pc := 24) rfl ?_
        show rx_aw 205 26 [.ref 90, .int a0, .int a1, rx_no, rx_no] [.int (-2 : Int32)] (rx_hp L t hi hl v) Q
        exact rx_aw_ret (pc := 26) rfl k
set_option maxRecDepth 100000 in
theorem w205_row_r_45 {L : Nat} {t : List (Nat × Nat)} {hi : Nat → Nat → Int32} {hl : Nat → Nat → Int64} {v : Nat → Nat → Option Nat} {Q : Option Value → rx_H → Prop} {x1 : Int32} {x2 : Int32} {x3 : Int32} {x4 : Int32} (k : (((hi 90 0) ≤ x4 → (∃ j7 : Nat, x1 = nI j7 ∧ j7 < 8 ∧ Q (some (.int x3)) (rx_hp L t (rx_u hi 92 j7 (vp_nar .boolean x2)) hl v))) ∧ (¬ ((hi 90 0) ≤ x4) → ((x2 = 0 → (∃ j9 : Nat, x1 = nI j9 ∧ j9 < 8 ∧ (((hi 92 j9) = 0 → (∃ j11 : Nat, x1 = nI j11 ∧ j11 < 8 ∧ Q (some (.int x3)) (rx_hp L t (rx_u hi 92 j11 (vp_nar .boolean x2)) hl v))) ∧ (¬ ((hi 92 j9) = 0) → (∃ j12 : Nat, (((8 : Int32) * x1) + x4) = nI j12 ∧ j12 < 64 ∧ rx_aw 205 45 [.ref 90, .int x1, .int x2, .int x3, .int (x4 + (1 : Int32))] [] (rx_hp L t (rx_u hi 112 j12 (0 : Int32)) hl v) Q))))) ∧ (¬ (x2 = 0) → (∃ j13 : Nat, (((8 : Int32) * x1) + x4) = nI j13 ∧ j13 < 64 ∧ rx_aw 205 45 [.ref 90, .int x1, .int x2, .int x3, .int (x4 + (1 : Int32))] [] (rx_hp L t (rx_u hi 112 j13 (0 : Int32)) hl v) Q)))))) : rx_aw 205 45 [.ref 90, .int x1, .int x2, .int x3, .int x4] [] (rx_hp L t hi hl v) Q := by
  refine rx_aw_s 4 (pc := 45) rfl ?_
  refine rx_w_if (c := (hi 90 0) ≤ x4) ⟨fun c6 => ?_, fun c6 => ?_⟩
  · have k := k.1 c6
    show rx_aw 205 86 [.ref 90, .int x1, .int x2, .int x3, .int x4] [] (rx_hp L t hi hl v) Q
    refine rx_aw_s 4 (pc := 86) rfl ?_
    show rx_aw 205 92 [.ref 90, .int x1, .int x2, .int x3, .int x4] [.int x2, .int x1, .ref 92] (rx_hp L t hi hl v) Q
    obtain ⟨j7, ej7, hj7, k⟩ := k
    refine rx_aw_zast (pc := 92) (n := 8) j7 ej7 rfl rfl (by decide) rfl hj7 (by decide) ?_
    show rx_aw 205 93 [.ref 90, .int x1, .int x2, .int x3, .int x4] [] (rx_hp L t (rx_u hi 92 j7 (vp_nar .boolean x2)) hl v) Q
    refine rx_aw_s 1 (pc := 93) rfl ?_
    show rx_aw 205 94 [.ref 90, .int x1, .int x2, .int x3, .int x4] [.int x3] (rx_hp L t (rx_u hi 92 j7 (vp_nar .boolean x2)) hl v) Q
    exact rx_aw_ret (pc := 94) rfl k
  · have k := k.2 c6
    show rx_aw 205 54 [.ref 90, .int x1, .int x2, .int x3, .int x4] [] (rx_hp L t hi hl v) Q
    refine rx_aw_s 2 (pc := 54) rfl ?_
    refine rx_w_ifn (c := x2 = 0) ⟨fun c8 => ?_, fun c8 => ?_⟩
    · have k := k.1 c8
      show rx_aw 205 58 [.ref 90, .int x1, .int x2, .int x3, .int x4] [] (rx_hp L t hi hl v) Q
      refine rx_aw_s 3 (pc := 58) rfl ?_
      show rx_aw 205 63 [.ref 90, .int x1, .int x2, .int x3, .int x4] [.int x1, .ref 92] (rx_hp L t hi hl v) Q
      obtain ⟨j9, ej9, hj9, k⟩ := k
      refine rx_aw_bald (pc := 63) (n := 8) j9 ej9 rfl (Or.inr rfl) (by decide) rfl hj9 (by decide) ?_
      show rx_aw 205 64 [.ref 90, .int x1, .int x2, .int x3, .int x4] [.int (hi 92 j9)] (rx_hp L t hi hl v) Q
      refine rx_aw_s 1 (pc := 64) rfl ?_
      refine rx_w_if (c := (hi 92 j9) = 0) ⟨fun c10 => ?_, fun c10 => ?_⟩
      · have k := k.1 c10
        show rx_aw 205 86 [.ref 90, .int x1, .int x2, .int x3, .int x4] [] (rx_hp L t hi hl v) Q
        refine rx_aw_s 4 (pc := 86) rfl ?_
        show rx_aw 205 92 [.ref 90, .int x1, .int x2, .int x3, .int x4] [.int x2, .int x1, .ref 92] (rx_hp L t hi hl v) Q
        obtain ⟨j11, ej11, hj11, k⟩ := k
        refine rx_aw_zast (pc := 92) (n := 8) j11 ej11 rfl rfl (by decide) rfl hj11 (by decide) ?_
        show rx_aw 205 93 [.ref 90, .int x1, .int x2, .int x3, .int x4] [] (rx_hp L t (rx_u hi 92 j11 (vp_nar .boolean x2)) hl v) Q
        refine rx_aw_s 1 (pc := 93) rfl ?_
        show rx_aw 205 94 [.ref 90, .int x1, .int x2, .int x3, .int x4] [.int x3] (rx_hp L t (rx_u hi 92 j11 (vp_nar .boolean x2)) hl v) Q
        exact rx_aw_ret (pc := 94) rfl k
      · have k := k.2 c10
        show rx_aw 205 67 [.ref 90, .int x1, .int x2, .int x3, .int x4] [] (rx_hp L t hi hl v) Q
        refine rx_aw_s 8 (pc := 67) rfl ?_
        show rx_aw 205 79 [.ref 90, .int x1, .int x2, .int x3, .int x4] [.int (0 : Int32), .int (((8 : Int32) * x1) + x4), .ref 112] (rx_hp L t hi hl v) Q
        obtain ⟨j12, ej12, hj12, k⟩ := k
        refine rx_aw_iast (pc := 79) (n := 64) j12 ej12 rfl rfl (by decide) rfl hj12 (by decide) ?_
        show rx_aw 205 80 [.ref 90, .int x1, .int x2, .int x3, .int x4] [] (rx_hp L t (rx_u hi 112 j12 (0 : Int32)) hl v) Q
        refine rx_aw_s 2 (pc := 80) rfl ?_
        show rx_aw 205 45 [.ref 90, .int x1, .int x2, .int x3, .int (x4 + (1 : Int32))] [] (rx_hp L t (rx_u hi 112 j12 (0 : Int32)) hl v) Q
        exact k
    · have k := k.2 c8
      show rx_aw 205 67 [.ref 90, .int x1, .int x2, .int x3, .int x4] [] (rx_hp L t hi hl v) Q
      refine rx_aw_s 8 (pc := 67) rfl ?_
      show rx_aw 205 79 [.ref 90, .int x1, .int x2, .int x3, .int x4] [.int (0 : Int32), .int (((8 : Int32) * x1) + x4), .ref 112] (rx_hp L t hi hl v) Q
      obtain ⟨j13, ej13, hj13, k⟩ := k
      refine rx_aw_iast (pc := 79) (n := 64) j13 ej13 rfl rfl (by decide) rfl hj13 (by decide) ?_
      show rx_aw 205 80 [.ref 90, .int x1, .int x2, .int x3, .int x4] [] (rx_hp L t (rx_u hi 112 j13 (0 : Int32)) hl v) Q
      refine rx_aw_s 2 (pc := 80) rfl ?_
      show rx_aw 205 45 [.ref 90, .int x1, .int x2, .int x3, .int (x4 + (1 : Int32))] [] (rx_hp L t (rx_u hi 112 j13 (0 : Int32)) hl v) Q
      exact k
set_option maxRecDepth 100000 in
/-- CartFloorModel.shelf(II)I -/
theorem w206_shelf_r {L : Nat} {t : List (Nat × Nat)} {hi : Nat → Nat → Int32} {hl : Nat → Nat → Int64} {v : Nat → Nat → Option Nat} {Q : Option Value → rx_H → Prop} {a0 : Int32} {a1 : Int32} (k : rx_me 182 [.ref 90, .int a0, .int a1] (rx_hp L t hi hl v) (fun r h2 => ∃ z1 : Int32, r = some (.int z1) ∧ rx_ok2 L t h2 (fun hi1 hl1 v1 => ((z1 = 0 → Q (some (.int (-2 : Int32))) (rx_hp L t hi1 hl1 v1)) ∧ (¬ (z1 = 0) → rx_me 168 [.ref 90, .int ((a1 * (hi 90 0)) + a0)] (rx_hp L t hi1 hl1 v1) (fun r h2 => ∃ z3 : Int32, r = some (.int z3) ∧ rx_ok2 L t h2 (fun hi3 hl3 v3 => ((z3 = 0 → (∃ j5 : Nat, ((a1 * (hi 90 0)) + a0) = nI j5 ∧ j5 < 64 ∧ (((hi3 91 j5) = (2 : Int32) → rx_me 207 [.ref 90, .int ((a1 * (hi 90 0)) + a0)] (rx_hp L t hi3 hl3 v3) (fun r h2 => ∃ z7 : Int32, r = some (.int z7) ∧ rx_ok2 L t h2 (fun hi7 hl7 v7 => ((z7 = 0 → rx_me 208 [.ref 90] (rx_hp L t hi7 hl7 v7) (fun r h2 => ∃ z9 : Int64, r = some (.long z9) ∧ rx_ok2 L t h2 (fun hi9 hl9 v9 => rx_me 169 [.int ((a1 * (hi 90 0)) + a0)] (rx_hp L t hi9 hl9 v9) (fun r h2 => ∃ z10 : Int64, r = some (.long z10) ∧ rx_ok2 L t h2 (fun hi10 hl10 v10 => (((lg_cmp (z9 &&& z10) (0 : Int64)) = 0 → rx_me 209 [.ref 90] (rx_hp L t hi10 hl10 v10) (fun r h2 => ∃ z12 : Int32, r = some (.int z12) ∧ rx_ok2 L t h2 (fun hi12 hl12 v12 => ((z12 = 0 → (((hi12 90 21) = (12 : Int32) → Q (some (.int (-2 : Int32))) (rx_hp L t hi12 hl12 v12)) ∧ (¬ ((hi12 90 21) = (12 : Int32)) → (∃ j15 : Nat, (hi12 90 21) = nI j15 ∧ j15 < 12 ∧ rx_me 191 [.ref 90] (rx_hp L t (rx_u (rx_u hi12 107 j15 ((a1 * (hi 90 0)) + a0)) 90 21 (((rx_u hi12 107 j15 ((a1 * (hi 90 0)) + a0)) 90 21) + (1 : Int32))) hl12 v12) (fun r h2 => r = none ∧ rx_ok2 L t h2 (fun hi16 hl16 v16 => Q (some (.int ((hi16 90 21) - (1 : Int32)))) (rx_hp L t hi16 hl16 v16))))))) ∧ (¬ (z12 = 0) → Q (some (.int (-2 : Int32))) (rx_hp L t hi12 hl12 v12)))))) ∧ (¬ ((lg_cmp (z9 &&& z10) (0 : Int64)) = 0) → Q (some (.int (-2 : Int32))) (rx_hp L t hi10 hl10 v10)))))))) ∧ (¬ (z7 = 0) → Q (some (.int (-2 : Int32))) (rx_hp L t hi7 hl7 v7)))))) ∧ (¬ ((hi3 91 j5) = (2 : Int32)) → Q (some (.int (-2 : Int32))) (rx_hp L t hi3 hl3 v3))))) ∧ (¬ (z3 = 0) → Q (some (.int (-2 : Int32))) (rx_hp L t hi3 hl3 v3)))))))))) : rx_me 206 [.ref 90, .int a0, .int a1] (rx_hp L t hi hl v) Q := by
  show rx_aw 206 0 [.ref 90, .int a0, .int a1, rx_no] [] (rx_hp L t hi hl v) Q
  refine rx_aw_s 10 (pc := 0) rfl ?_
  show rx_aw 206 12 [.ref 90, .int a0, .int a1, .int ((a1 * (hi 90 0)) + a0)] [.int a1, .int a0, .ref 90] (rx_hp L t hi hl v) Q
  refine rx_w_callI (j := 182) (pc := 12) rfl rfl rfl rfl rfl ?_
  refine rx_aw.mono k (fun r h2 k => ?_)
  obtain ⟨z1, rfl, hi1, hl1, v1, rfl, k⟩ := k
  refine ⟨z1, rfl, ?_⟩
  show rx_aw 206 15 [.ref 90, .int a0, .int a1, .int ((a1 * (hi 90 0)) + a0)] [.int z1] (rx_hp L t hi1 hl1 v1) Q
  refine rx_aw_s 1 (pc := 15) rfl ?_
  refine rx_w_if (c := z1 = 0) ⟨fun c2 => ?_, fun c2 => ?_⟩
  · have k := k.1 c2
    show rx_aw 206 74 [.ref 90, .int a0, .int a1, .int ((a1 * (hi 90 0)) + a0)] [] (rx_hp L t hi1 hl1 v1) Q
    refine rx_aw_s 1 (pc := 74) rfl ?_
    show rx_aw 206 76 [.ref 90, .int a0, .int a1, .int ((a1 * (hi 90 0)) + a0)] [.int (-2 : Int32)] (rx_hp L t hi1 hl1 v1) Q
    exact rx_aw_ret (pc := 76) rfl k
  · have k := k.2 c2
    show rx_aw 206 18 [.ref 90, .int a0, .int a1, .int ((a1 * (hi 90 0)) + a0)] [] (rx_hp L t hi1 hl1 v1) Q
    refine rx_aw_s 2 (pc := 18) rfl ?_
    show rx_aw 206 20 [.ref 90, .int a0, .int a1, .int ((a1 * (hi 90 0)) + a0)] [.int ((a1 * (hi 90 0)) + a0), .ref 90] (rx_hp L t hi1 hl1 v1) Q
    refine rx_w_callI (j := 168) (pc := 20) rfl rfl rfl rfl rfl ?_
    refine rx_aw.mono k (fun r h2 k => ?_)
    obtain ⟨z3, rfl, hi3, hl3, v3, rfl, k⟩ := k
    refine ⟨z3, rfl, ?_⟩
    show rx_aw 206 23 [.ref 90, .int a0, .int a1, .int ((a1 * (hi 90 0)) + a0)] [.int z3] (rx_hp L t hi3 hl3 v3) Q
    refine rx_aw_s 1 (pc := 23) rfl ?_
    refine rx_w_ifn (c := z3 = 0) ⟨fun c4 => ?_, fun c4 => ?_⟩
    · have k := k.1 c4
      show rx_aw 206 26 [.ref 90, .int a0, .int a1, .int ((a1 * (hi 90 0)) + a0)] [] (rx_hp L t hi3 hl3 v3) Q
      refine rx_aw_s 3 (pc := 26) rfl ?_
      show rx_aw 206 31 [.ref 90, .int a0, .int a1, .int ((a1 * (hi 90 0)) + a0)] [.int ((a1 * (hi 90 0)) + a0), .ref 91] (rx_hp L t hi3 hl3 v3) Q
      obtain ⟨j5, ej5, hj5, k⟩ := k
      refine rx_aw_iald (pc := 31) (n := 64) j5 ej5 rfl rfl rfl hj5 (by decide) ?_
      show rx_aw 206 32 [.ref 90, .int a0, .int a1, .int ((a1 * (hi 90 0)) + a0)] [.int (hi3 91 j5)] (rx_hp L t hi3 hl3 v3) Q
      refine rx_aw_s 2 (pc := 32) rfl ?_
      refine rx_w_ifn (c := (hi3 91 j5) = (2 : Int32)) ⟨fun c6 => ?_, fun c6 => ?_⟩
      · have k := k.1 c6
        show rx_aw 206 36 [.ref 90, .int a0, .int a1, .int ((a1 * (hi 90 0)) + a0)] [] (rx_hp L t hi3 hl3 v3) Q
        refine rx_aw_s 2 (pc := 36) rfl ?_
        show rx_aw 206 38 [.ref 90, .int a0, .int a1, .int ((a1 * (hi 90 0)) + a0)] [.int ((a1 * (hi 90 0)) + a0), .ref 90] (rx_hp L t hi3 hl3 v3) Q
        refine rx_w_callI (j := 207) (pc := 38) rfl rfl rfl rfl rfl ?_
        refine rx_aw.mono k (fun r h2 k => ?_)
        obtain ⟨z7, rfl, hi7, hl7, v7, rfl, k⟩ := k
        refine ⟨z7, rfl, ?_⟩
        show rx_aw 206 41 [.ref 90, .int a0, .int a1, .int ((a1 * (hi 90 0)) + a0)] [.int z7] (rx_hp L t hi7 hl7 v7) Q
        refine rx_aw_s 1 (pc := 41) rfl ?_
        refine rx_w_ifn (c := z7 = 0) ⟨fun c8 => ?_, fun c8 => ?_⟩
        · have k := k.1 c8
          show rx_aw 206 44 [.ref 90, .int a0, .int a1, .int ((a1 * (hi 90 0)) + a0)] [] (rx_hp L t hi7 hl7 v7) Q
          refine rx_aw_s 1 (pc := 44) rfl ?_
          show rx_aw 206 45 [.ref 90, .int a0, .int a1, .int ((a1 * (hi 90 0)) + a0)] [.ref 90] (rx_hp L t hi7 hl7 v7) Q
          refine rx_w_callL (j := 208) (pc := 45) rfl rfl rfl rfl rfl ?_
          refine rx_aw.mono k (fun r h2 k => ?_)
          obtain ⟨z9, rfl, hi9, hl9, v9, rfl, k⟩ := k
          refine ⟨z9, rfl, ?_⟩
          show rx_aw 206 48 [.ref 90, .int a0, .int a1, .int ((a1 * (hi 90 0)) + a0)] [.long z9] (rx_hp L t hi9 hl9 v9) Q
          refine rx_aw_s 1 (pc := 48) rfl ?_
          show rx_aw 206 49 [.ref 90, .int a0, .int a1, .int ((a1 * (hi 90 0)) + a0)] [.int ((a1 * (hi 90 0)) + a0), .long z9] (rx_hp L t hi9 hl9 v9) Q
          refine rx_w_callL (j := 169) (pc := 49) rfl rfl rfl rfl rfl ?_
          refine rx_aw.mono k (fun r h2 k => ?_)
          obtain ⟨z10, rfl, hi10, hl10, v10, rfl, k⟩ := k
          refine ⟨z10, rfl, ?_⟩
          show rx_aw 206 52 [.ref 90, .int a0, .int a1, .int ((a1 * (hi 90 0)) + a0)] [.long z10, .long z9] (rx_hp L t hi10 hl10 v10) Q
          refine rx_aw_s 4 (pc := 52) rfl ?_
          refine rx_w_ifn (c := (lg_cmp (z9 &&& z10) (0 : Int64)) = 0) ⟨fun c11 => ?_, fun c11 => ?_⟩
          · have k := k.1 c11
            show rx_aw 206 58 [.ref 90, .int a0, .int a1, .int ((a1 * (hi 90 0)) + a0)] [] (rx_hp L t hi10 hl10 v10) Q
            refine rx_aw_s 1 (pc := 58) rfl ?_
            show rx_aw 206 59 [.ref 90, .int a0, .int a1, .int ((a1 * (hi 90 0)) + a0)] [.ref 90] (rx_hp L t hi10 hl10 v10) Q
            refine rx_w_callI (j := 209) (pc := 59) rfl rfl rfl rfl rfl ?_
            refine rx_aw.mono k (fun r h2 k => ?_)
            obtain ⟨z12, rfl, hi12, hl12, v12, rfl, k⟩ := k
            refine ⟨z12, rfl, ?_⟩
            show rx_aw 206 62 [.ref 90, .int a0, .int a1, .int ((a1 * (hi 90 0)) + a0)] [.int z12] (rx_hp L t hi12 hl12 v12) Q
            refine rx_aw_s 1 (pc := 62) rfl ?_
            refine rx_w_ifn (c := z12 = 0) ⟨fun c13 => ?_, fun c13 => ?_⟩
            · have k := k.1 c13
              show rx_aw 206 65 [.ref 90, .int a0, .int a1, .int ((a1 * (hi 90 0)) + a0)] [] (rx_hp L t hi12 hl12 v12) Q
              refine rx_aw_s 4 (pc := 65) rfl ?_
              refine rx_w_ifn (c := (hi12 90 21) = (12 : Int32)) ⟨fun c14 => ?_, fun c14 => ?_⟩
              · have k := k.1 c14
                show rx_aw 206 74 [.ref 90, .int a0, .int a1, .int ((a1 * (hi 90 0)) + a0)] [] (rx_hp L t hi12 hl12 v12) Q
                refine rx_aw_s 1 (pc := 74) rfl ?_
                show rx_aw 206 76 [.ref 90, .int a0, .int a1, .int ((a1 * (hi 90 0)) + a0)] [.int (-2 : Int32)] (rx_hp L t hi12 hl12 v12) Q
                exact rx_aw_ret (pc := 76) rfl k
              · have k := k.2 c14
                show rx_aw 206 77 [.ref 90, .int a0, .int a1, .int ((a1 * (hi 90 0)) + a0)] [] (rx_hp L t hi12 hl12 v12) Q
                refine rx_aw_s 5 (pc := 77) rfl ?_
                show rx_aw 206 86 [.ref 90, .int a0, .int a1, .int ((a1 * (hi 90 0)) + a0)] [.int ((a1 * (hi 90 0)) + a0), .int (hi12 90 21), .ref 107] (rx_hp L t hi12 hl12 v12) Q
                obtain ⟨j15, ej15, hj15, k⟩ := k
                refine rx_aw_iast (pc := 86) (n := 12) j15 ej15 rfl rfl (by decide) rfl hj15 (by decide) ?_
                show rx_aw 206 87 [.ref 90, .int a0, .int a1, .int ((a1 * (hi 90 0)) + a0)] [] (rx_hp L t (rx_u hi12 107 j15 ((a1 * (hi 90 0)) + a0)) hl12 v12) Q
                refine rx_aw_s 7 (pc := 87) rfl ?_
                show rx_aw 206 98 [.ref 90, .int a0, .int a1, .int ((a1 * (hi 90 0)) + a0)] [.ref 90] (rx_hp L t (rx_u (rx_u hi12 107 j15 ((a1 * (hi 90 0)) + a0)) 90 21 (((rx_u hi12 107 j15 ((a1 * (hi 90 0)) + a0)) 90 21) + (1 : Int32))) hl12 v12) Q
                refine rx_w_callV (j := 191) (pc := 98) rfl rfl rfl rfl rfl ?_
                refine rx_aw.mono k (fun r h2 k => ?_)
                obtain ⟨rfl, hi16, hl16, v16, rfl, k⟩ := k
                refine ⟨rfl, ?_⟩
                show rx_aw 206 101 [.ref 90, .int a0, .int a1, .int ((a1 * (hi 90 0)) + a0)] [] (rx_hp L t hi16 hl16 v16) Q
                refine rx_aw_s 4 (pc := 101) rfl ?_
                show rx_aw 206 107 [.ref 90, .int a0, .int a1, .int ((a1 * (hi 90 0)) + a0)] [.int ((hi16 90 21) - (1 : Int32))] (rx_hp L t hi16 hl16 v16) Q
                exact rx_aw_ret (pc := 107) rfl k
            · have k := k.2 c13
              show rx_aw 206 74 [.ref 90, .int a0, .int a1, .int ((a1 * (hi 90 0)) + a0)] [] (rx_hp L t hi12 hl12 v12) Q
              refine rx_aw_s 1 (pc := 74) rfl ?_
              show rx_aw 206 76 [.ref 90, .int a0, .int a1, .int ((a1 * (hi 90 0)) + a0)] [.int (-2 : Int32)] (rx_hp L t hi12 hl12 v12) Q
              exact rx_aw_ret (pc := 76) rfl k
          · have k := k.2 c11
            show rx_aw 206 74 [.ref 90, .int a0, .int a1, .int ((a1 * (hi 90 0)) + a0)] [] (rx_hp L t hi10 hl10 v10) Q
            refine rx_aw_s 1 (pc := 74) rfl ?_
            show rx_aw 206 76 [.ref 90, .int a0, .int a1, .int ((a1 * (hi 90 0)) + a0)] [.int (-2 : Int32)] (rx_hp L t hi10 hl10 v10) Q
            exact rx_aw_ret (pc := 76) rfl k
        · have k := k.2 c8
          show rx_aw 206 74 [.ref 90, .int a0, .int a1, .int ((a1 * (hi 90 0)) + a0)] [] (rx_hp L t hi7 hl7 v7) Q
          refine rx_aw_s 1 (pc := 74) rfl ?_
          show rx_aw 206 76 [.ref 90, .int a0, .int a1, .int ((a1 * (hi 90 0)) + a0)] [.int (-2 : Int32)] (rx_hp L t hi7 hl7 v7) Q
          exact rx_aw_ret (pc := 76) rfl k
      · have k := k.2 c6
        show rx_aw 206 74 [.ref 90, .int a0, .int a1, .int ((a1 * (hi 90 0)) + a0)] [] (rx_hp L t hi3 hl3 v3) Q
        refine rx_aw_s 1 (pc := 74) rfl ?_
        show rx_aw 206 76 [.ref 90, .int a0, .int a1, .int ((a1 * (hi 90 0)) + a0)] [.int (-2 : Int32)] (rx_hp L t hi3 hl3 v3) Q
        exact rx_aw_ret (pc := 76) rfl k
    · have k := k.2 c4
      show rx_aw 206 74 [.ref 90, .int a0, .int a1, .int ((a1 * (hi 90 0)) + a0)] [] (rx_hp L t hi3 hl3 v3) Q
      refine rx_aw_s 1 (pc := 74) rfl ?_
      show rx_aw 206 76 [.ref 90, .int a0, .int a1, .int ((a1 * (hi 90 0)) + a0)] [.int (-2 : Int32)] (rx_hp L t hi3 hl3 v3) Q
      exact rx_aw_ret (pc := 76) rfl k
