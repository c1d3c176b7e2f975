/-! The constructor of Traffic. -/
def k18i1 (hi : Nat → Nat → Int32) : Nat → Nat → Int32 := (rx_row hi 14 (fun _ => 0))
def k18l1 (hl : Nat → Nat → Int64) : Nat → Nat → Int64 := (rx_row hl 14 (fun _ => 0))
def k18r1 (r : Nat → Nat → Option Nat) : Nat → Nat → Option Nat := (rx_u (rx_row r 14 (fun _ => none)) 13 1 (some 14))
def k18i2 (hi : Nat → Nat → Int32) : Nat → Nat → Int32 := (rx_row (k18i1 hi) 15 (fun _ => 0))
def k18l2 (hl : Nat → Nat → Int64) : Nat → Nat → Int64 := (rx_row (k18l1 hl) 15 (fun _ => 0))
def k18r2 (r : Nat → Nat → Option Nat) : Nat → Nat → Option Nat := (rx_u (rx_row (k18r1 r) 15 (fun _ => none)) 13 2 (some 15))
def k18i3 (hi : Nat → Nat → Int32) : Nat → Nat → Int32 := (rx_u (rx_u (k18i2 hi) 13 3 (0 : Int32)) 13 4 (0 : Int32))
def k18i4 (hi : Nat → Nat → Int32) : Nat → Nat → Int32 := (rx_u (k18i3 hi) 13 5 (0 : Int32))
def k18r4 (r : Nat → Nat → Option Nat) : Nat → Nat → Option Nat := (rx_u (k18r2 r) 13 0 (some 7))
def k18i6 (hi : Nat → Nat → Int32) : Nat → Nat → Int32 := (rx_row (k18i4 hi) 16 (fun _ => 0))
def k18l6 (hl : Nat → Nat → Int64) : Nat → Nat → Int64 := (rx_row (k18l2 hl) 16 (fun _ => 0))
def k18r6 (r : Nat → Nat → Option Nat) : Nat → Nat → Option Nat := (rx_row (k18r4 r) 16 (fun _ => none))
def k18i7 (hi : Nat → Nat → Int32) : Nat → Nat → Int32 := (kc0_i10 (k18i6 hi))
def k18l7 (hl : Nat → Nat → Int64) : Nat → Nat → Int64 := (kc0_l5 (k18l6 hl))
def k18r7 (r : Nat → Nat → Option Nat) : Nat → Nat → Option Nat := (kc0_r5 (k18r6 r))
def k18r8 (r : Nat → Nat → Option Nat) : Nat → Nat → Option Nat := (rx_u (k18r7 r) 14 0 (some 16))
def k18i9 (hi : Nat → Nat → Int32) : Nat → Nat → Int32 := (rx_row (k18i7 hi) 22 (fun _ => 0))
def k18l9 (hl : Nat → Nat → Int64) : Nat → Nat → Int64 := (rx_row (k18l7 hl) 22 (fun _ => 0))
def k18r9 (r : Nat → Nat → Option Nat) : Nat → Nat → Option Nat := (rx_row (k18r8 r) 22 (fun _ => none))
def k18i10 (hi : Nat → Nat → Int32) : Nat → Nat → Int32 := (kc1_i10 (k18i9 hi))
def k18l10 (hl : Nat → Nat → Int64) : Nat → Nat → Int64 := (kc1_l5 (k18l9 hl))
def k18r10 (r : Nat → Nat → Option Nat) : Nat → Nat → Option Nat := (kc1_r5 (k18r9 r))
def k18r11 (r : Nat → Nat → Option Nat) : Nat → Nat → Option Nat := (rx_u (k18r10 r) 14 1 (some 22))
def k18i12 (hi : Nat → Nat → Int32) : Nat → Nat → Int32 := (rx_row (k18i10 hi) 28 (fun _ => 0))
def k18l12 (hl : Nat → Nat → Int64) : Nat → Nat → Int64 := (rx_row (k18l10 hl) 28 (fun _ => 0))
def k18r12 (r : Nat → Nat → Option Nat) : Nat → Nat → Option Nat := (rx_row (k18r11 r) 28 (fun _ => none))
def k18i13 (hi : Nat → Nat → Int32) : Nat → Nat → Int32 := (kc2_i10 (k18i12 hi))
def k18l13 (hl : Nat → Nat → Int64) : Nat → Nat → Int64 := (kc2_l5 (k18l12 hl))
def k18r13 (r : Nat → Nat → Option Nat) : Nat → Nat → Option Nat := (kc2_r5 (k18r12 r))
def k18r14 (r : Nat → Nat → Option Nat) : Nat → Nat → Option Nat := (rx_u (k18r13 r) 14 2 (some 28))
def k18i15 (hi : Nat → Nat → Int32) : Nat → Nat → Int32 := (rx_row (k18i13 hi) 34 (fun _ => 0))
def k18l15 (hl : Nat → Nat → Int64) : Nat → Nat → Int64 := (rx_row (k18l13 hl) 34 (fun _ => 0))
def k18r15 (r : Nat → Nat → Option Nat) : Nat → Nat → Option Nat := (rx_row (k18r14 r) 34 (fun _ => none))
def k18i16 (hi : Nat → Nat → Int32) : Nat → Nat → Int32 := (kc3_i10 (k18i15 hi))
def k18l16 (hl : Nat → Nat → Int64) : Nat → Nat → Int64 := (kc3_l5 (k18l15 hl))
def k18r16 (r : Nat → Nat → Option Nat) : Nat → Nat → Option Nat := (kc3_r5 (k18r15 r))
def k18r17 (r : Nat → Nat → Option Nat) : Nat → Nat → Option Nat := (rx_u (k18r16 r) 14 3 (some 34))
def k18i18 (hi : Nat → Nat → Int32) : Nat → Nat → Int32 := (rx_row (k18i16 hi) 40 (fun _ => 0))
def k18l18 (hl : Nat → Nat → Int64) : Nat → Nat → Int64 := (rx_row (k18l16 hl) 40 (fun _ => 0))
def k18r18 (r : Nat → Nat → Option Nat) : Nat → Nat → Option Nat := (rx_row (k18r17 r) 40 (fun _ => none))
def k18i19 (hi : Nat → Nat → Int32) : Nat → Nat → Int32 := (kc4_i10 (k18i18 hi))
def k18l19 (hl : Nat → Nat → Int64) : Nat → Nat → Int64 := (kc4_l5 (k18l18 hl))
def k18r19 (r : Nat → Nat → Option Nat) : Nat → Nat → Option Nat := (kc4_r5 (k18r18 r))
def k18r20 (r : Nat → Nat → Option Nat) : Nat → Nat → Option Nat := (rx_u (k18r19 r) 14 4 (some 40))
def k18i21 (hi : Nat → Nat → Int32) : Nat → Nat → Int32 := (rx_row (k18i19 hi) 46 (fun _ => 0))
def k18l21 (hl : Nat → Nat → Int64) : Nat → Nat → Int64 := (rx_row (k18l19 hl) 46 (fun _ => 0))
def k18r21 (r : Nat → Nat → Option Nat) : Nat → Nat → Option Nat := (rx_row (k18r20 r) 46 (fun _ => none))
def k18i22 (hi : Nat → Nat → Int32) : Nat → Nat → Int32 := (kc5_i10 (k18i21 hi))
def k18l22 (hl : Nat → Nat → Int64) : Nat → Nat → Int64 := (kc5_l5 (k18l21 hl))
def k18r22 (r : Nat → Nat → Option Nat) : Nat → Nat → Option Nat := (kc5_r5 (k18r21 r))
def k18r23 (r : Nat → Nat → Option Nat) : Nat → Nat → Option Nat := (rx_u (k18r22 r) 14 5 (some 46))
def k18i25 (hi : Nat → Nat → Int32) : Nat → Nat → Int32 := (rx_row (k18i22 hi) 52 (fun _ => 0))
def k18l25 (hl : Nat → Nat → Int64) : Nat → Nat → Int64 := (rx_row (k18l22 hl) 52 (fun _ => 0))
def k18r25 (r : Nat → Nat → Option Nat) : Nat → Nat → Option Nat := (rx_row (k18r23 r) 52 (fun _ => none))
def k18i26 (hi : Nat → Nat → Int32) : Nat → Nat → Int32 := (ks0_i2 (k18i25 hi))
def k18l26 (hl : Nat → Nat → Int64) : Nat → Nat → Int64 := (ks0_l1 (k18l25 hl))
def k18r26 (r : Nat → Nat → Option Nat) : Nat → Nat → Option Nat := (ks0_r1 (k18r25 r))
def k18r27 (r : Nat → Nat → Option Nat) : Nat → Nat → Option Nat := (rx_u (k18r26 r) 15 0 (some 52))
def k18i28 (hi : Nat → Nat → Int32) : Nat → Nat → Int32 := (rx_row (k18i26 hi) 54 (fun _ => 0))
def k18l28 (hl : Nat → Nat → Int64) : Nat → Nat → Int64 := (rx_row (k18l26 hl) 54 (fun _ => 0))
def k18r28 (r : Nat → Nat → Option Nat) : Nat → Nat → Option Nat := (rx_row (k18r27 r) 54 (fun _ => none))
def k18i29 (hi : Nat → Nat → Int32) : Nat → Nat → Int32 := (ks1_i2 (k18i28 hi))
def k18l29 (hl : Nat → Nat → Int64) : Nat → Nat → Int64 := (ks1_l1 (k18l28 hl))
def k18r29 (r : Nat → Nat → Option Nat) : Nat → Nat → Option Nat := (ks1_r1 (k18r28 r))
def k18r30 (r : Nat → Nat → Option Nat) : Nat → Nat → Option Nat := (rx_u (k18r29 r) 15 1 (some 54))
def k18i31 (hi : Nat → Nat → Int32) : Nat → Nat → Int32 := (rx_row (k18i29 hi) 56 (fun _ => 0))
def k18l31 (hl : Nat → Nat → Int64) : Nat → Nat → Int64 := (rx_row (k18l29 hl) 56 (fun _ => 0))
def k18r31 (r : Nat → Nat → Option Nat) : Nat → Nat → Option Nat := (rx_row (k18r30 r) 56 (fun _ => none))
def k18i32 (hi : Nat → Nat → Int32) : Nat → Nat → Int32 := (ks2_i2 (k18i31 hi))
def k18l32 (hl : Nat → Nat → Int64) : Nat → Nat → Int64 := (ks2_l1 (k18l31 hl))
def k18r32 (r : Nat → Nat → Option Nat) : Nat → Nat → Option Nat := (ks2_r1 (k18r31 r))
def k18r33 (r : Nat → Nat → Option Nat) : Nat → Nat → Option Nat := (rx_u (k18r32 r) 15 2 (some 56))
def k18i34 (hi : Nat → Nat → Int32) : Nat → Nat → Int32 := (rx_row (k18i32 hi) 58 (fun _ => 0))
def k18l34 (hl : Nat → Nat → Int64) : Nat → Nat → Int64 := (rx_row (k18l32 hl) 58 (fun _ => 0))
def k18r34 (r : Nat → Nat → Option Nat) : Nat → Nat → Option Nat := (rx_row (k18r33 r) 58 (fun _ => none))
def k18i35 (hi : Nat → Nat → Int32) : Nat → Nat → Int32 := (ks3_i2 (k18i34 hi))
def k18l35 (hl : Nat → Nat → Int64) : Nat → Nat → Int64 := (ks3_l1 (k18l34 hl))
def k18r35 (r : Nat → Nat → Option Nat) : Nat → Nat → Option Nat := (ks3_r1 (k18r34 r))
def k18r36 (r : Nat → Nat → Option Nat) : Nat → Nat → Option Nat := (rx_u (k18r35 r) 15 3 (some 58))
def k18i37 (hi : Nat → Nat → Int32) : Nat → Nat → Int32 := (rx_row (k18i35 hi) 60 (fun _ => 0))
def k18l37 (hl : Nat → Nat → Int64) : Nat → Nat → Int64 := (rx_row (k18l35 hl) 60 (fun _ => 0))
def k18r37 (r : Nat → Nat → Option Nat) : Nat → Nat → Option Nat := (rx_row (k18r36 r) 60 (fun _ => none))
def k18i38 (hi : Nat → Nat → Int32) : Nat → Nat → Int32 := (ks4_i2 (k18i37 hi))
def k18l38 (hl : Nat → Nat → Int64) : Nat → Nat → Int64 := (ks4_l1 (k18l37 hl))
def k18r38 (r : Nat → Nat → Option Nat) : Nat → Nat → Option Nat := (ks4_r1 (k18r37 r))
def k18r39 (r : Nat → Nat → Option Nat) : Nat → Nat → Option Nat := (rx_u (k18r38 r) 15 4 (some 60))
def k18i40 (hi : Nat → Nat → Int32) : Nat → Nat → Int32 := (rx_row (k18i38 hi) 62 (fun _ => 0))
def k18l40 (hl : Nat → Nat → Int64) : Nat → Nat → Int64 := (rx_row (k18l38 hl) 62 (fun _ => 0))
def k18r40 (r : Nat → Nat → Option Nat) : Nat → Nat → Option Nat := (rx_row (k18r39 r) 62 (fun _ => none))
def k18i41 (hi : Nat → Nat → Int32) : Nat → Nat → Int32 := (ks5_i2 (k18i40 hi))
def k18l41 (hl : Nat → Nat → Int64) : Nat → Nat → Int64 := (ks5_l1 (k18l40 hl))
def k18r41 (r : Nat → Nat → Option Nat) : Nat → Nat → Option Nat := (ks5_r1 (k18r40 r))
def k18r42 (r : Nat → Nat → Option Nat) : Nat → Nat → Option Nat := (rx_u (k18r41 r) 15 5 (some 62))
def k18i43 (hi : Nat → Nat → Int32) : Nat → Nat → Int32 := (rx_row (k18i41 hi) 64 (fun _ => 0))
def k18l43 (hl : Nat → Nat → Int64) : Nat → Nat → Int64 := (rx_row (k18l41 hl) 64 (fun _ => 0))
def k18r43 (r : Nat → Nat → Option Nat) : Nat → Nat → Option Nat := (rx_row (k18r42 r) 64 (fun _ => none))
def k18i44 (hi : Nat → Nat → Int32) : Nat → Nat → Int32 := (ks6_i2 (k18i43 hi))
def k18l44 (hl : Nat → Nat → Int64) : Nat → Nat → Int64 := (ks6_l1 (k18l43 hl))
def k18r44 (r : Nat → Nat → Option Nat) : Nat → Nat → Option Nat := (ks6_r1 (k18r43 r))
def k18r45 (r : Nat → Nat → Option Nat) : Nat → Nat → Option Nat := (rx_u (k18r44 r) 15 6 (some 64))
def k18i46 (hi : Nat → Nat → Int32) : Nat → Nat → Int32 := (rx_row (k18i44 hi) 66 (fun _ => 0))
def k18l46 (hl : Nat → Nat → Int64) : Nat → Nat → Int64 := (rx_row (k18l44 hl) 66 (fun _ => 0))
def k18r46 (r : Nat → Nat → Option Nat) : Nat → Nat → Option Nat := (rx_row (k18r45 r) 66 (fun _ => none))
def k18i47 (hi : Nat → Nat → Int32) : Nat → Nat → Int32 := (ks7_i2 (k18i46 hi))
def k18l47 (hl : Nat → Nat → Int64) : Nat → Nat → Int64 := (ks7_l1 (k18l46 hl))
def k18r47 (r : Nat → Nat → Option Nat) : Nat → Nat → Option Nat := (ks7_r1 (k18r46 r))
def k18r48 (r : Nat → Nat → Option Nat) : Nat → Nat → Option Nat := (rx_u (k18r47 r) 15 7 (some 66))
def k18i49 (hi : Nat → Nat → Int32) : Nat → Nat → Int32 := (rx_row (k18i47 hi) 68 (fun _ => 0))
def k18l49 (hl : Nat → Nat → Int64) : Nat → Nat → Int64 := (rx_row (k18l47 hl) 68 (fun _ => 0))
def k18r49 (r : Nat → Nat → Option Nat) : Nat → Nat → Option Nat := (rx_row (k18r48 r) 68 (fun _ => none))
def k18i50 (hi : Nat → Nat → Int32) : Nat → Nat → Int32 := (ks8_i2 (k18i49 hi))
def k18l50 (hl : Nat → Nat → Int64) : Nat → Nat → Int64 := (ks8_l1 (k18l49 hl))
def k18r50 (r : Nat → Nat → Option Nat) : Nat → Nat → Option Nat := (ks8_r1 (k18r49 r))
def k18r51 (r : Nat → Nat → Option Nat) : Nat → Nat → Option Nat := (rx_u (k18r50 r) 15 8 (some 68))
def k18i52 (hi : Nat → Nat → Int32) : Nat → Nat → Int32 := (rx_row (k18i50 hi) 70 (fun _ => 0))
def k18l52 (hl : Nat → Nat → Int64) : Nat → Nat → Int64 := (rx_row (k18l50 hl) 70 (fun _ => 0))
def k18r52 (r : Nat → Nat → Option Nat) : Nat → Nat → Option Nat := (rx_row (k18r51 r) 70 (fun _ => none))
def k18i53 (hi : Nat → Nat → Int32) : Nat → Nat → Int32 := (ks9_i2 (k18i52 hi))
def k18l53 (hl : Nat → Nat → Int64) : Nat → Nat → Int64 := (ks9_l1 (k18l52 hl))
def k18r53 (r : Nat → Nat → Option Nat) : Nat → Nat → Option Nat := (ks9_r1 (k18r52 r))
def k18r54 (r : Nat → Nat → Option Nat) : Nat → Nat → Option Nat := (rx_u (k18r53 r) 15 9 (some 70))
def k18i55 (hi : Nat → Nat → Int32) : Nat → Nat → Int32 := (rx_row (k18i53 hi) 72 (fun _ => 0))
def k18l55 (hl : Nat → Nat → Int64) : Nat → Nat → Int64 := (rx_row (k18l53 hl) 72 (fun _ => 0))
def k18r55 (r : Nat → Nat → Option Nat) : Nat → Nat → Option Nat := (rx_row (k18r54 r) 72 (fun _ => none))
def k18i56 (hi : Nat → Nat → Int32) : Nat → Nat → Int32 := (ks10_i2 (k18i55 hi))
def k18l56 (hl : Nat → Nat → Int64) : Nat → Nat → Int64 := (ks10_l1 (k18l55 hl))
def k18r56 (r : Nat → Nat → Option Nat) : Nat → Nat → Option Nat := (ks10_r1 (k18r55 r))
def k18r57 (r : Nat → Nat → Option Nat) : Nat → Nat → Option Nat := (rx_u (k18r56 r) 15 10 (some 72))
def k18i58 (hi : Nat → Nat → Int32) : Nat → Nat → Int32 := (rx_row (k18i56 hi) 74 (fun _ => 0))
def k18l58 (hl : Nat → Nat → Int64) : Nat → Nat → Int64 := (rx_row (k18l56 hl) 74 (fun _ => 0))
def k18r58 (r : Nat → Nat → Option Nat) : Nat → Nat → Option Nat := (rx_row (k18r57 r) 74 (fun _ => none))
def k18i59 (hi : Nat → Nat → Int32) : Nat → Nat → Int32 := (ks11_i2 (k18i58 hi))
def k18l59 (hl : Nat → Nat → Int64) : Nat → Nat → Int64 := (ks11_l1 (k18l58 hl))
def k18r59 (r : Nat → Nat → Option Nat) : Nat → Nat → Option Nat := (ks11_r1 (k18r58 r))
def k18r60 (r : Nat → Nat → Option Nat) : Nat → Nat → Option Nat := (rx_u (k18r59 r) 15 11 (some 74))
set_option maxRecDepth 100000 in
theorem w18k {L : Nat} {hi : Nat → Nat → Int32} {hl : Nat → Nat → Int64} {r : Nat → Nat → Option Nat} {Q : Option Value → rx_H → Prop} (k : Q none (rx_tk L 75, (k18i59 hi), (k18l59 hl), (k18r60 r))) : rx_me 18 [.ref 13, .ref 7] (rx_tk L 13, hi, hl, r) Q := by
  show rx_aw 18 0 [.ref 13, .ref 7, rx_no] [] (rx_tk L 13, hi, hl, r) Q
  refine rx_aw_s 6 (pc := 0) rfl ?_
  show rx_aw 18 13 [.ref 13, .ref 7, rx_no] [] (rx_tk L 14, (k18i1 hi), (k18l1 hl), (k18r1 r)) Q
  refine rx_aw_s 4 (pc := 13) rfl ?_
  show rx_aw 18 22 [.ref 13, .ref 7, rx_no] [] (rx_tk L 15, (k18i2 hi), (k18l2 hl), (k18r2 r)) Q
  refine rx_aw_s 6 (pc := 22) rfl ?_
  show rx_aw 18 32 [.ref 13, .ref 7, rx_no] [] (rx_tk L 15, (k18i3 hi), (k18l2 hl), (k18r2 r)) Q
  refine rx_aw_s 6 (pc := 32) rfl ?_
  show rx_aw 18 42 [.ref 13, .ref 7, rx_no] [] (rx_tk L 15, (k18i4 hi), (k18l2 hl), (k18r4 r)) Q
  refine rx_aw_s 2 (pc := 42) rfl ?_
  show rx_aw 18 44 [.ref 13, .ref 7, .int (0 : Int32)] [] (rx_tk L 15, (k18i4 hi), (k18l2 hl), (k18r4 r)) Q
  refine rx_aw_s 8 (pc := 44) rfl ?_
  show rx_aw 18 59 [.ref 13, .ref 7, .int (0 : Int32)] [.ref 16, .ref 16, .int (0 : Int32), .ref 14] (rx_tk L 16, (k18i6 hi), (k18l6 hl), (k18r6 r)) Q
  refine rx_aw_call (j := 19) (pc := 59) rfl rfl rfl rfl rfl (w19k0 ?_)
  show rx_aw 18 62 [.ref 13, .ref 7, .int (0 : Int32)] [.ref 16, .int (0 : Int32), .ref 14] (rx_tk L 21, (kc0_i10 (k18i6 hi)), (kc0_l5 (k18l6 hl)), (kc0_r5 (k18r6 r))) Q
  show rx_aw 18 62 [.ref 13, .ref 7, .int (0 : Int32)] [.ref 16, .int (0 : Int32), .ref 14] (rx_tk L 21, (k18i7 hi), (k18l7 hl), (k18r7 r)) Q
  refine rx_aw_s 3 (pc := 62) rfl ?_
  show rx_aw 18 44 [.ref 13, .ref 7, .int (1 : Int32)] [] (rx_tk L 21, (k18i7 hi), (k18l7 hl), (k18r8 r)) Q
  refine rx_aw_s 8 (pc := 44) rfl ?_
  show rx_aw 18 59 [.ref 13, .ref 7, .int (1 : Int32)] [.ref 22, .ref 22, .int (1 : Int32), .ref 14] (rx_tk L 22, (k18i9 hi), (k18l9 hl), (k18r9 r)) Q
  refine rx_aw_call (j := 19) (pc := 59) rfl rfl rfl rfl rfl (w19k1 ?_)
  show rx_aw 18 62 [.ref 13, .ref 7, .int (1 : Int32)] [.ref 22, .int (1 : Int32), .ref 14] (rx_tk L 27, (kc1_i10 (k18i9 hi)), (kc1_l5 (k18l9 hl)), (kc1_r5 (k18r9 r))) Q
  show rx_aw 18 62 [.ref 13, .ref 7, .int (1 : Int32)] [.ref 22, .int (1 : Int32), .ref 14] (rx_tk L 27, (k18i10 hi), (k18l10 hl), (k18r10 r)) Q
  refine rx_aw_s 3 (pc := 62) rfl ?_
  show rx_aw 18 44 [.ref 13, .ref 7, .int (2 : Int32)] [] (rx_tk L 27, (k18i10 hi), (k18l10 hl), (k18r11 r)) Q
  refine rx_aw_s 8 (pc := 44) rfl ?_
  show rx_aw 18 59 [.ref 13, .ref 7, .int (2 : Int32)] [.ref 28, .ref 28, .int (2 : Int32), .ref 14] (rx_tk L 28, (k18i12 hi), (k18l12 hl), (k18r12 r)) Q
  refine rx_aw_call (j := 19) (pc := 59) rfl rfl rfl rfl rfl (w19k2 ?_)
  show rx_aw 18 62 [.ref 13, .ref 7, .int (2 : Int32)] [.ref 28, .int (2 : Int32), .ref 14] (rx_tk L 33, (kc2_i10 (k18i12 hi)), (kc2_l5 (k18l12 hl)), (kc2_r5 (k18r12 r))) Q
  show rx_aw 18 62 [.ref 13, .ref 7, .int (2 : Int32)] [.ref 28, .int (2 : Int32), .ref 14] (rx_tk L 33, (k18i13 hi), (k18l13 hl), (k18r13 r)) Q
  refine rx_aw_s 3 (pc := 62) rfl ?_
  show rx_aw 18 44 [.ref 13, .ref 7, .int (3 : Int32)] [] (rx_tk L 33, (k18i13 hi), (k18l13 hl), (k18r14 r)) Q
  refine rx_aw_s 8 (pc := 44) rfl ?_
  show rx_aw 18 59 [.ref 13, .ref 7, .int (3 : Int32)] [.ref 34, .ref 34, .int (3 : Int32), .ref 14] (rx_tk L 34, (k18i15 hi), (k18l15 hl), (k18r15 r)) Q
  refine rx_aw_call (j := 19) (pc := 59) rfl rfl rfl rfl rfl (w19k3 ?_)
  show rx_aw 18 62 [.ref 13, .ref 7, .int (3 : Int32)] [.ref 34, .int (3 : Int32), .ref 14] (rx_tk L 39, (kc3_i10 (k18i15 hi)), (kc3_l5 (k18l15 hl)), (kc3_r5 (k18r15 r))) Q
  show rx_aw 18 62 [.ref 13, .ref 7, .int (3 : Int32)] [.ref 34, .int (3 : Int32), .ref 14] (rx_tk L 39, (k18i16 hi), (k18l16 hl), (k18r16 r)) Q
  refine rx_aw_s 3 (pc := 62) rfl ?_
  show rx_aw 18 44 [.ref 13, .ref 7, .int (4 : Int32)] [] (rx_tk L 39, (k18i16 hi), (k18l16 hl), (k18r17 r)) Q
  refine rx_aw_s 8 (pc := 44) rfl ?_
  show rx_aw 18 59 [.ref 13, .ref 7, .int (4 : Int32)] [.ref 40, .ref 40, .int (4 : Int32), .ref 14] (rx_tk L 40, (k18i18 hi), (k18l18 hl), (k18r18 r)) Q
  refine rx_aw_call (j := 19) (pc := 59) rfl rfl rfl rfl rfl (w19k4 ?_)
  show rx_aw 18 62 [.ref 13, .ref 7, .int (4 : Int32)] [.ref 40, .int (4 : Int32), .ref 14] (rx_tk L 45, (kc4_i10 (k18i18 hi)), (kc4_l5 (k18l18 hl)), (kc4_r5 (k18r18 r))) Q
  show rx_aw 18 62 [.ref 13, .ref 7, .int (4 : Int32)] [.ref 40, .int (4 : Int32), .ref 14] (rx_tk L 45, (k18i19 hi), (k18l19 hl), (k18r19 r)) Q
  refine rx_aw_s 3 (pc := 62) rfl ?_
  show rx_aw 18 44 [.ref 13, .ref 7, .int (5 : Int32)] [] (rx_tk L 45, (k18i19 hi), (k18l19 hl), (k18r20 r)) Q
  refine rx_aw_s 8 (pc := 44) rfl ?_
  show rx_aw 18 59 [.ref 13, .ref 7, .int (5 : Int32)] [.ref 46, .ref 46, .int (5 : Int32), .ref 14] (rx_tk L 46, (k18i21 hi), (k18l21 hl), (k18r21 r)) Q
  refine rx_aw_call (j := 19) (pc := 59) rfl rfl rfl rfl rfl (w19k5 ?_)
  show rx_aw 18 62 [.ref 13, .ref 7, .int (5 : Int32)] [.ref 46, .int (5 : Int32), .ref 14] (rx_tk L 51, (kc5_i10 (k18i21 hi)), (kc5_l5 (k18l21 hl)), (kc5_r5 (k18r21 r))) Q
  show rx_aw 18 62 [.ref 13, .ref 7, .int (5 : Int32)] [.ref 46, .int (5 : Int32), .ref 14] (rx_tk L 51, (k18i22 hi), (k18l22 hl), (k18r22 r)) Q
  refine rx_aw_s 3 (pc := 62) rfl ?_
  show rx_aw 18 44 [.ref 13, .ref 7, .int (6 : Int32)] [] (rx_tk L 51, (k18i22 hi), (k18l22 hl), (k18r23 r)) Q
  refine rx_aw_s 5 (pc := 44) rfl ?_
  show rx_aw 18 71 [.ref 13, .ref 7, .int (0 : Int32)] [] (rx_tk L 51, (k18i22 hi), (k18l22 hl), (k18r23 r)) Q
  refine rx_aw_s 8 (pc := 71) rfl ?_
  show rx_aw 18 86 [.ref 13, .ref 7, .int (0 : Int32)] [.ref 52, .ref 52, .int (0 : Int32), .ref 15] (rx_tk L 52, (k18i25 hi), (k18l25 hl), (k18r25 r)) Q
  refine rx_aw_call (j := 20) (pc := 86) rfl rfl rfl rfl rfl (w20k0 ?_)
  show rx_aw 18 89 [.ref 13, .ref 7, .int (0 : Int32)] [.ref 52, .int (0 : Int32), .ref 15] (rx_tk L 53, (ks0_i2 (k18i25 hi)), (ks0_l1 (k18l25 hl)), (ks0_r1 (k18r25 r))) Q
  show rx_aw 18 89 [.ref 13, .ref 7, .int (0 : Int32)] [.ref 52, .int (0 : Int32), .ref 15] (rx_tk L 53, (k18i26 hi), (k18l26 hl), (k18r26 r)) Q
  refine rx_aw_s 3 (pc := 89) rfl ?_
  show rx_aw 18 71 [.ref 13, .ref 7, .int (1 : Int32)] [] (rx_tk L 53, (k18i26 hi), (k18l26 hl), (k18r27 r)) Q
  refine rx_aw_s 8 (pc := 71) rfl ?_
  show rx_aw 18 86 [.ref 13, .ref 7, .int (1 : Int32)] [.ref 54, .ref 54, .int (1 : Int32), .ref 15] (rx_tk L 54, (k18i28 hi), (k18l28 hl), (k18r28 r)) Q
  refine rx_aw_call (j := 20) (pc := 86) rfl rfl rfl rfl rfl (w20k1 ?_)
  show rx_aw 18 89 [.ref 13, .ref 7, .int (1 : Int32)] [.ref 54, .int (1 : Int32), .ref 15] (rx_tk L 55, (ks1_i2 (k18i28 hi)), (ks1_l1 (k18l28 hl)), (ks1_r1 (k18r28 r))) Q
  show rx_aw 18 89 [.ref 13, .ref 7, .int (1 : Int32)] [.ref 54, .int (1 : Int32), .ref 15] (rx_tk L 55, (k18i29 hi), (k18l29 hl), (k18r29 r)) Q
  refine rx_aw_s 3 (pc := 89) rfl ?_
  show rx_aw 18 71 [.ref 13, .ref 7, .int (2 : Int32)] [] (rx_tk L 55, (k18i29 hi), (k18l29 hl), (k18r30 r)) Q
  refine rx_aw_s 8 (pc := 71) rfl ?_
  show rx_aw 18 86 [.ref 13, .ref 7, .int (2 : Int32)] [.ref 56, .ref 56, .int (2 : Int32), .ref 15] (rx_tk L 56, (k18i31 hi), (k18l31 hl), (k18r31 r)) Q
  refine rx_aw_call (j := 20) (pc := 86) rfl rfl rfl rfl rfl (w20k2 ?_)
  show rx_aw 18 89 [.ref 13, .ref 7, .int (2 : Int32)] [.ref 56, .int (2 : Int32), .ref 15] (rx_tk L 57, (ks2_i2 (k18i31 hi)), (ks2_l1 (k18l31 hl)), (ks2_r1 (k18r31 r))) Q
  show rx_aw 18 89 [.ref 13, .ref 7, .int (2 : Int32)] [.ref 56, .int (2 : Int32), .ref 15] (rx_tk L 57, (k18i32 hi), (k18l32 hl), (k18r32 r)) Q
  refine rx_aw_s 3 (pc := 89) rfl ?_
  show rx_aw 18 71 [.ref 13, .ref 7, .int (3 : Int32)] [] (rx_tk L 57, (k18i32 hi), (k18l32 hl), (k18r33 r)) Q
  refine rx_aw_s 8 (pc := 71) rfl ?_
  show rx_aw 18 86 [.ref 13, .ref 7, .int (3 : Int32)] [.ref 58, .ref 58, .int (3 : Int32), .ref 15] (rx_tk L 58, (k18i34 hi), (k18l34 hl), (k18r34 r)) Q
  refine rx_aw_call (j := 20) (pc := 86) rfl rfl rfl rfl rfl (w20k3 ?_)
  show rx_aw 18 89 [.ref 13, .ref 7, .int (3 : Int32)] [.ref 58, .int (3 : Int32), .ref 15] (rx_tk L 59, (ks3_i2 (k18i34 hi)), (ks3_l1 (k18l34 hl)), (ks3_r1 (k18r34 r))) Q
  show rx_aw 18 89 [.ref 13, .ref 7, .int (3 : Int32)] [.ref 58, .int (3 : Int32), .ref 15] (rx_tk L 59, (k18i35 hi), (k18l35 hl), (k18r35 r)) Q
  refine rx_aw_s 3 (pc := 89) rfl ?_
  show rx_aw 18 71 [.ref 13, .ref 7, .int (4 : Int32)] [] (rx_tk L 59, (k18i35 hi), (k18l35 hl), (k18r36 r)) Q
  refine rx_aw_s 8 (pc := 71) rfl ?_
  show rx_aw 18 86 [.ref 13, .ref 7, .int (4 : Int32)] [.ref 60, .ref 60, .int (4 : Int32), .ref 15] (rx_tk L 60, (k18i37 hi), (k18l37 hl), (k18r37 r)) Q
  refine rx_aw_call (j := 20) (pc := 86) rfl rfl rfl rfl rfl (w20k4 ?_)
  show rx_aw 18 89 [.ref 13, .ref 7, .int (4 : Int32)] [.ref 60, .int (4 : Int32), .ref 15] (rx_tk L 61, (ks4_i2 (k18i37 hi)), (ks4_l1 (k18l37 hl)), (ks4_r1 (k18r37 r))) Q
  show rx_aw 18 89 [.ref 13, .ref 7, .int (4 : Int32)] [.ref 60, .int (4 : Int32), .ref 15] (rx_tk L 61, (k18i38 hi), (k18l38 hl), (k18r38 r)) Q
  refine rx_aw_s 3 (pc := 89) rfl ?_
  show rx_aw 18 71 [.ref 13, .ref 7, .int (5 : Int32)] [] (rx_tk L 61, (k18i38 hi), (k18l38 hl), (k18r39 r)) Q
  refine rx_aw_s 8 (pc := 71) rfl ?_
  show rx_aw 18 86 [.ref 13, .ref 7, .int (5 : Int32)] [.ref 62, .ref 62, .int (5 : Int32), .ref 15] (rx_tk L 62, (k18i40 hi), (k18l40 hl), (k18r40 r)) Q
  refine rx_aw_call (j := 20) (pc := 86) rfl rfl rfl rfl rfl (w20k5 ?_)
  show rx_aw 18 89 [.ref 13, .ref 7, .int (5 : Int32)] [.ref 62, .int (5 : Int32), .ref 15] (rx_tk L 63, (ks5_i2 (k18i40 hi)), (ks5_l1 (k18l40 hl)), (ks5_r1 (k18r40 r))) Q
  show rx_aw 18 89 [.ref 13, .ref 7, .int (5 : Int32)] [.ref 62, .int (5 : Int32), .ref 15] (rx_tk L 63, (k18i41 hi), (k18l41 hl), (k18r41 r)) Q
  refine rx_aw_s 3 (pc := 89) rfl ?_
  show rx_aw 18 71 [.ref 13, .ref 7, .int (6 : Int32)] [] (rx_tk L 63, (k18i41 hi), (k18l41 hl), (k18r42 r)) Q
  refine rx_aw_s 8 (pc := 71) rfl ?_
  show rx_aw 18 86 [.ref 13, .ref 7, .int (6 : Int32)] [.ref 64, .ref 64, .int (6 : Int32), .ref 15] (rx_tk L 64, (k18i43 hi), (k18l43 hl), (k18r43 r)) Q
  refine rx_aw_call (j := 20) (pc := 86) rfl rfl rfl rfl rfl (w20k6 ?_)
  show rx_aw 18 89 [.ref 13, .ref 7, .int (6 : Int32)] [.ref 64, .int (6 : Int32), .ref 15] (rx_tk L 65, (ks6_i2 (k18i43 hi)), (ks6_l1 (k18l43 hl)), (ks6_r1 (k18r43 r))) Q
  show rx_aw 18 89 [.ref 13, .ref 7, .int (6 : Int32)] [.ref 64, .int (6 : Int32), .ref 15] (rx_tk L 65, (k18i44 hi), (k18l44 hl), (k18r44 r)) Q
  refine rx_aw_s 3 (pc := 89) rfl ?_
  show rx_aw 18 71 [.ref 13, .ref 7, .int (7 : Int32)] [] (rx_tk L 65, (k18i44 hi), (k18l44 hl), (k18r45 r)) Q
  refine rx_aw_s 8 (pc := 71) rfl ?_
  show rx_aw 18 86 [.ref 13, .ref 7, .int (7 : Int32)] [.ref 66, .ref 66, .int (7 : Int32), .ref 15] (rx_tk L 66, (k18i46 hi), (k18l46 hl), (k18r46 r)) Q
  refine rx_aw_call (j := 20) (pc := 86) rfl rfl rfl rfl rfl (w20k7 ?_)
  show rx_aw 18 89 [.ref 13, .ref 7, .int (7 : Int32)] [.ref 66, .int (7 : Int32), .ref 15] (rx_tk L 67, (ks7_i2 (k18i46 hi)), (ks7_l1 (k18l46 hl)), (ks7_r1 (k18r46 r))) Q
  show rx_aw 18 89 [.ref 13, .ref 7, .int (7 : Int32)] [.ref 66, .int (7 : Int32), .ref 15] (rx_tk L 67, (k18i47 hi), (k18l47 hl), (k18r47 r)) Q
  refine rx_aw_s 3 (pc := 89) rfl ?_
  show rx_aw 18 71 [.ref 13, .ref 7, .int (8 : Int32)] [] (rx_tk L 67, (k18i47 hi), (k18l47 hl), (k18r48 r)) Q
  refine rx_aw_s 8 (pc := 71) rfl ?_
  show rx_aw 18 86 [.ref 13, .ref 7, .int (8 : Int32)] [.ref 68, .ref 68, .int (8 : Int32), .ref 15] (rx_tk L 68, (k18i49 hi), (k18l49 hl), (k18r49 r)) Q
  refine rx_aw_call (j := 20) (pc := 86) rfl rfl rfl rfl rfl (w20k8 ?_)
  show rx_aw 18 89 [.ref 13, .ref 7, .int (8 : Int32)] [.ref 68, .int (8 : Int32), .ref 15] (rx_tk L 69, (ks8_i2 (k18i49 hi)), (ks8_l1 (k18l49 hl)), (ks8_r1 (k18r49 r))) Q
  show rx_aw 18 89 [.ref 13, .ref 7, .int (8 : Int32)] [.ref 68, .int (8 : Int32), .ref 15] (rx_tk L 69, (k18i50 hi), (k18l50 hl), (k18r50 r)) Q
  refine rx_aw_s 3 (pc := 89) rfl ?_
  show rx_aw 18 71 [.ref 13, .ref 7, .int (9 : Int32)] [] (rx_tk L 69, (k18i50 hi), (k18l50 hl), (k18r51 r)) Q
  refine rx_aw_s 8 (pc := 71) rfl ?_
  show rx_aw 18 86 [.ref 13, .ref 7, .int (9 : Int32)] [.ref 70, .ref 70, .int (9 : Int32), .ref 15] (rx_tk L 70, (k18i52 hi), (k18l52 hl), (k18r52 r)) Q
  refine rx_aw_call (j := 20) (pc := 86) rfl rfl rfl rfl rfl (w20k9 ?_)
  show rx_aw 18 89 [.ref 13, .ref 7, .int (9 : Int32)] [.ref 70, .int (9 : Int32), .ref 15] (rx_tk L 71, (ks9_i2 (k18i52 hi)), (ks9_l1 (k18l52 hl)), (ks9_r1 (k18r52 r))) Q
  show rx_aw 18 89 [.ref 13, .ref 7, .int (9 : Int32)] [.ref 70, .int (9 : Int32), .ref 15] (rx_tk L 71, (k18i53 hi), (k18l53 hl), (k18r53 r)) Q
  refine rx_aw_s 3 (pc := 89) rfl ?_
  show rx_aw 18 71 [.ref 13, .ref 7, .int (10 : Int32)] [] (rx_tk L 71, (k18i53 hi), (k18l53 hl), (k18r54 r)) Q
  refine rx_aw_s 8 (pc := 71) rfl ?_
  show rx_aw 18 86 [.ref 13, .ref 7, .int (10 : Int32)] [.ref 72, .ref 72, .int (10 : Int32), .ref 15] (rx_tk L 72, (k18i55 hi), (k18l55 hl), (k18r55 r)) Q
  refine rx_aw_call (j := 20) (pc := 86) rfl rfl rfl rfl rfl (w20k10 ?_)
  show rx_aw 18 89 [.ref 13, .ref 7, .int (10 : Int32)] [.ref 72, .int (10 : Int32), .ref 15] (rx_tk L 73, (ks10_i2 (k18i55 hi)), (ks10_l1 (k18l55 hl)), (ks10_r1 (k18r55 r))) Q
  show rx_aw 18 89 [.ref 13, .ref 7, .int (10 : Int32)] [.ref 72, .int (10 : Int32), .ref 15] (rx_tk L 73, (k18i56 hi), (k18l56 hl), (k18r56 r)) Q
  refine rx_aw_s 3 (pc := 89) rfl ?_
  show rx_aw 18 71 [.ref 13, .ref 7, .int (11 : Int32)] [] (rx_tk L 73, (k18i56 hi), (k18l56 hl), (k18r57 r)) Q
  refine rx_aw_s 8 (pc := 71) rfl ?_
  show rx_aw 18 86 [.ref 13, .ref 7, .int (11 : Int32)] [.ref 74, .ref 74, .int (11 : Int32), .ref 15] (rx_tk L 74, (k18i58 hi), (k18l58 hl), (k18r58 r)) Q
  refine rx_aw_call (j := 20) (pc := 86) rfl rfl rfl rfl rfl (w20k11 ?_)
  show rx_aw 18 89 [.ref 13, .ref 7, .int (11 : Int32)] [.ref 74, .int (11 : Int32), .ref 15] (rx_tk L 75, (ks11_i2 (k18i58 hi)), (ks11_l1 (k18l58 hl)), (ks11_r1 (k18r58 r))) Q
  show rx_aw 18 89 [.ref 13, .ref 7, .int (11 : Int32)] [.ref 74, .int (11 : Int32), .ref 15] (rx_tk L 75, (k18i59 hi), (k18l59 hl), (k18r59 r)) Q
  refine rx_aw_s 3 (pc := 89) rfl ?_
  show rx_aw 18 71 [.ref 13, .ref 7, .int (12 : Int32)] [] (rx_tk L 75, (k18i59 hi), (k18l59 hl), (k18r60 r)) Q
  refine rx_aw_s 3 (pc := 71) rfl ?_
  show rx_aw 18 96 [.ref 13, .ref 7, .int (12 : Int32)] [] (rx_tk L 75, (k18i59 hi), (k18l59 hl), (k18r60 r)) Q
  exact rx_aw_ret (pc := 96) rfl k
