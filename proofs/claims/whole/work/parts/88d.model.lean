/-! The constructor of the reference. -/
def k159i1 (hi : Nat → Nat → Int32) : Nat → Nat → Int32 := (rx_row hi 91 (fun _ => 0))
def k159l1 (hl : Nat → Nat → Int64) : Nat → Nat → Int64 := (rx_row hl 91 (fun _ => 0))
def k159r1 (r : Nat → Nat → Option Nat) : Nat → Nat → Option Nat := (rx_u (rx_row r 91 (fun _ => none)) 90 3 (some 91))
def k159i2 (hi : Nat → Nat → Int32) : Nat → Nat → Int32 := (rx_row (k159i1 hi) 92 (fun _ => 0))
def k159l2 (hl : Nat → Nat → Int64) : Nat → Nat → Int64 := (rx_row (k159l1 hl) 92 (fun _ => 0))
def k159r2 (r : Nat → Nat → Option Nat) : Nat → Nat → Option Nat := (rx_u (rx_row (k159r1 r) 92 (fun _ => none)) 90 4 (some 92))
def k159i3 (hi : Nat → Nat → Int32) : Nat → Nat → Int32 := (rx_row (k159i2 hi) 93 (fun _ => 0))
def k159l3 (hl : Nat → Nat → Int64) : Nat → Nat → Int64 := (rx_row (k159l2 hl) 93 (fun _ => 0))
def k159r3 (r : Nat → Nat → Option Nat) : Nat → Nat → Option Nat := (rx_u (rx_row (k159r2 r) 93 (fun _ => none)) 90 7 (some 93))
def k159i4 (hi : Nat → Nat → Int32) : Nat → Nat → Int32 := (rx_row (k159i3 hi) 94 (fun _ => 0))
def k159l4 (hl : Nat → Nat → Int64) : Nat → Nat → Int64 := (rx_row (k159l3 hl) 94 (fun _ => 0))
def k159r4 (r : Nat → Nat → Option Nat) : Nat → Nat → Option Nat := (rx_u (rx_row (k159r3 r) 94 (fun _ => none)) 90 8 (some 94))
def k159i5 (hi : Nat → Nat → Int32) : Nat → Nat → Int32 := (rx_row (k159i4 hi) 95 (fun _ => 0))
def k159l5 (hl : Nat → Nat → Int64) : Nat → Nat → Int64 := (rx_row (k159l4 hl) 95 (fun _ => 0))
def k159r5 (r : Nat → Nat → Option Nat) : Nat → Nat → Option Nat := (rx_u (rx_row (k159r4 r) 95 (fun _ => none)) 90 9 (some 95))
def k159i6 (hi : Nat → Nat → Int32) : Nat → Nat → Int32 := (rx_row (k159i5 hi) 96 (fun _ => 0))
def k159l6 (hl : Nat → Nat → Int64) : Nat → Nat → Int64 := (rx_row (k159l5 hl) 96 (fun _ => 0))
def k159r6 (r : Nat → Nat → Option Nat) : Nat → Nat → Option Nat := (rx_u (rx_row (k159r5 r) 96 (fun _ => none)) 90 10 (some 96))
def k159i7 (hi : Nat → Nat → Int32) : Nat → Nat → Int32 := (rx_row (k159i6 hi) 97 (fun _ => 0))
def k159l7 (hl : Nat → Nat → Int64) : Nat → Nat → Int64 := (rx_row (k159l6 hl) 97 (fun _ => 0))
def k159r7 (r : Nat → Nat → Option Nat) : Nat → Nat → Option Nat := (rx_u (rx_row (k159r6 r) 97 (fun _ => none)) 90 11 (some 97))
def k159i8 (hi : Nat → Nat → Int32) : Nat → Nat → Int32 := (rx_row (k159i7 hi) 98 (fun _ => 0))
def k159l8 (hl : Nat → Nat → Int64) : Nat → Nat → Int64 := (rx_row (k159l7 hl) 98 (fun _ => 0))
def k159r8 (r : Nat → Nat → Option Nat) : Nat → Nat → Option Nat := (rx_u (rx_row (k159r7 r) 98 (fun _ => none)) 90 12 (some 98))
def k159i9 (hi : Nat → Nat → Int32) : Nat → Nat → Int32 := (rx_row (k159i8 hi) 99 (fun _ => 0))
def k159l9 (hl : Nat → Nat → Int64) : Nat → Nat → Int64 := (rx_row (k159l8 hl) 99 (fun _ => 0))
def k159r9 (r : Nat → Nat → Option Nat) : Nat → Nat → Option Nat := (rx_u (rx_row (k159r8 r) 99 (fun _ => none)) 90 13 (some 99))
def k159i10 (hi : Nat → Nat → Int32) : Nat → Nat → Int32 := (rx_row (k159i9 hi) 100 (fun _ => 0))
def k159l10 (hl : Nat → Nat → Int64) : Nat → Nat → Int64 := (rx_row (k159l9 hl) 100 (fun _ => 0))
def k159r10 (r : Nat → Nat → Option Nat) : Nat → Nat → Option Nat := (rx_u (rx_row (k159r9 r) 100 (fun _ => none)) 90 14 (some 100))
def k159i11 (hi : Nat → Nat → Int32) : Nat → Nat → Int32 := (rx_row (k159i10 hi) 101 (fun _ => 0))
def k159l11 (hl : Nat → Nat → Int64) : Nat → Nat → Int64 := (rx_row (k159l10 hl) 101 (fun _ => 0))
def k159r11 (r : Nat → Nat → Option Nat) : Nat → Nat → Option Nat := (rx_u (rx_row (k159r10 r) 101 (fun _ => none)) 90 15 (some 101))
def k159i12 (hi : Nat → Nat → Int32) : Nat → Nat → Int32 := (rx_row (k159i11 hi) 102 (fun _ => 0))
def k159l12 (hl : Nat → Nat → Int64) : Nat → Nat → Int64 := (rx_row (k159l11 hl) 102 (fun _ => 0))
def k159r12 (r : Nat → Nat → Option Nat) : Nat → Nat → Option Nat := (rx_u (rx_row (k159r11 r) 102 (fun _ => none)) 90 16 (some 102))
def k159i13 (hi : Nat → Nat → Int32) : Nat → Nat → Int32 := (rx_row (k159i12 hi) 103 (fun _ => 0))
def k159l13 (hl : Nat → Nat → Int64) : Nat → Nat → Int64 := (rx_row (k159l12 hl) 103 (fun _ => 0))
def k159r13 (r : Nat → Nat → Option Nat) : Nat → Nat → Option Nat := (rx_u (rx_row (k159r12 r) 103 (fun _ => none)) 90 17 (some 103))
def k159i14 (hi : Nat → Nat → Int32) : Nat → Nat → Int32 := (rx_row (k159i13 hi) 104 (fun _ => 0))
def k159l14 (hl : Nat → Nat → Int64) : Nat → Nat → Int64 := (rx_row (k159l13 hl) 104 (fun _ => 0))
def k159r14 (r : Nat → Nat → Option Nat) : Nat → Nat → Option Nat := (rx_u (rx_row (k159r13 r) 104 (fun _ => none)) 90 18 (some 104))
def k159i15 (hi : Nat → Nat → Int32) : Nat → Nat → Int32 := (rx_row (k159i14 hi) 105 (fun _ => 0))
def k159l15 (hl : Nat → Nat → Int64) : Nat → Nat → Int64 := (rx_row (k159l14 hl) 105 (fun _ => 0))
def k159r15 (r : Nat → Nat → Option Nat) : Nat → Nat → Option Nat := (rx_u (rx_row (k159r14 r) 105 (fun _ => none)) 90 19 (some 105))
def k159i16 (hi : Nat → Nat → Int32) : Nat → Nat → Int32 := (rx_row (k159i15 hi) 106 (fun _ => 0))
def k159l16 (hl : Nat → Nat → Int64) : Nat → Nat → Int64 := (rx_row (k159l15 hl) 106 (fun _ => 0))
def k159r16 (r : Nat → Nat → Option Nat) : Nat → Nat → Option Nat := (rx_u (rx_row (k159r15 r) 106 (fun _ => none)) 90 20 (some 106))
def k159i17 (hi : Nat → Nat → Int32) : Nat → Nat → Int32 := (rx_row (k159i16 hi) 107 (fun _ => 0))
def k159l17 (hl : Nat → Nat → Int64) : Nat → Nat → Int64 := (rx_row (k159l16 hl) 107 (fun _ => 0))
def k159r17 (r : Nat → Nat → Option Nat) : Nat → Nat → Option Nat := (rx_u (rx_row (k159r16 r) 107 (fun _ => none)) 90 22 (some 107))
def k159i18 (hi : Nat → Nat → Int32) : Nat → Nat → Int32 := (rx_row (k159i17 hi) 108 (fun _ => 0))
def k159l18 (hl : Nat → Nat → Int64) : Nat → Nat → Int64 := (rx_row (k159l17 hl) 108 (fun _ => 0))
def k159r18 (r : Nat → Nat → Option Nat) : Nat → Nat → Option Nat := (rx_u (rx_row (k159r17 r) 108 (fun _ => none)) 90 23 (some 108))
def k159i19 (hi : Nat → Nat → Int32) : Nat → Nat → Int32 := (rx_row (k159i18 hi) 109 (fun _ => 0))
def k159l19 (hl : Nat → Nat → Int64) : Nat → Nat → Int64 := (rx_row (k159l18 hl) 109 (fun _ => 0))
def k159r19 (r : Nat → Nat → Option Nat) : Nat → Nat → Option Nat := (rx_u (rx_row (k159r18 r) 109 (fun _ => none)) 90 24 (some 109))
def k159i20 (hi : Nat → Nat → Int32) : Nat → Nat → Int32 := (rx_row (k159i19 hi) 110 (fun _ => 0))
def k159l20 (hl : Nat → Nat → Int64) : Nat → Nat → Int64 := (rx_row (k159l19 hl) 110 (fun _ => 0))
def k159r20 (r : Nat → Nat → Option Nat) : Nat → Nat → Option Nat := (rx_u (rx_row (k159r19 r) 110 (fun _ => none)) 90 26 (some 110))
def k159i21 (hi : Nat → Nat → Int32) : Nat → Nat → Int32 := (rx_row (k159i20 hi) 111 (fun _ => 0))
def k159l21 (hl : Nat → Nat → Int64) : Nat → Nat → Int64 := (rx_row (k159l20 hl) 111 (fun _ => 0))
def k159r21 (r : Nat → Nat → Option Nat) : Nat → Nat → Option Nat := (rx_u (rx_row (k159r20 r) 111 (fun _ => none)) 90 27 (some 111))
def k159i22 (hi : Nat → Nat → Int32) : Nat → Nat → Int32 := (rx_row (k159i21 hi) 112 (fun _ => 0))
def k159l22 (hl : Nat → Nat → Int64) : Nat → Nat → Int64 := (rx_row (k159l21 hl) 112 (fun _ => 0))
def k159r22 (r : Nat → Nat → Option Nat) : Nat → Nat → Option Nat := (rx_u (rx_row (k159r21 r) 112 (fun _ => none)) 90 28 (some 112))
def k159i23 (hi : Nat → Nat → Int32) : Nat → Nat → Int32 := (rx_row (k159i22 hi) 113 (fun _ => 0))
def k159l23 (hl : Nat → Nat → Int64) : Nat → Nat → Int64 := (rx_row (k159l22 hl) 113 (fun _ => 0))
def k159r23 (r : Nat → Nat → Option Nat) : Nat → Nat → Option Nat := (rx_u (rx_row (k159r22 r) 113 (fun _ => none)) 90 29 (some 113))
def k159i24 (hi : Nat → Nat → Int32) : Nat → Nat → Int32 := (rx_row (rx_u (k159i23 hi) 90 30 (-1 : Int32)) 114 (fun _ => 0))
def k159l24 (hl : Nat → Nat → Int64) : Nat → Nat → Int64 := (rx_row (k159l23 hl) 114 (fun _ => 0))
def k159r24 (r : Nat → Nat → Option Nat) : Nat → Nat → Option Nat := (rx_u (rx_row (k159r23 r) 114 (fun _ => none)) 90 32 (some 114))
def k159i25 (hi : Nat → Nat → Int32) : Nat → Nat → Int32 := (rx_row (rx_u (k159i24 hi) 90 35 (-1 : Int32)) 115 (fun _ => 0))
def k159l25 (hl : Nat → Nat → Int64) : Nat → Nat → Int64 := (rx_row (k159l24 hl) 115 (fun _ => 0))
def k159r25 (r : Nat → Nat → Option Nat) : Nat → Nat → Option Nat := (rx_u (rx_row (k159r24 r) 115 (fun _ => none)) 90 37 (some 115))
def k159i26 (hi : Nat → Nat → Int32) : Nat → Nat → Int32 := (rx_row (k159i25 hi) 116 (fun _ => 0))
def k159l26 (hl : Nat → Nat → Int64) : Nat → Nat → Int64 := (rx_row (k159l25 hl) 116 (fun _ => 0))
def k159r26 (r : Nat → Nat → Option Nat) : Nat → Nat → Option Nat := (rx_u (rx_row (k159r25 r) 116 (fun _ => none)) 90 38 (some 116))
def k159i27 (hi : Nat → Nat → Int32) : Nat → Nat → Int32 := (rx_row (k159i26 hi) 117 (fun _ => 0))
def k159l27 (hl : Nat → Nat → Int64) : Nat → Nat → Int64 := (rx_row (k159l26 hl) 117 (fun _ => 0))
def k159r27 (r : Nat → Nat → Option Nat) : Nat → Nat → Option Nat := (rx_u (rx_row (k159r26 r) 117 (fun _ => none)) 90 39 (some 117))
def k159i28 (hi : Nat → Nat → Int32) : Nat → Nat → Int32 := (rx_row (k159i27 hi) 118 (fun _ => 0))
def k159l28 (hl : Nat → Nat → Int64) : Nat → Nat → Int64 := (rx_row (k159l27 hl) 118 (fun _ => 0))
def k159r28 (r : Nat → Nat → Option Nat) : Nat → Nat → Option Nat := (rx_u (rx_row (k159r27 r) 118 (fun _ => none)) 90 40 (some 118))
def k159i29 (hi : Nat → Nat → Int32) : Nat → Nat → Int32 := (rx_row (k159i28 hi) 119 (fun _ => 0))
def k159l29 (hl : Nat → Nat → Int64) : Nat → Nat → Int64 := (rx_row (k159l28 hl) 119 (fun _ => 0))
def k159r29 (r : Nat → Nat → Option Nat) : Nat → Nat → Option Nat := (rx_u (rx_row (k159r28 r) 119 (fun _ => none)) 90 41 (some 119))
def k159i30 (hi : Nat → Nat → Int32) : Nat → Nat → Int32 := (rx_row (k159i29 hi) 120 (fun _ => 0))
def k159l30 (hl : Nat → Nat → Int64) : Nat → Nat → Int64 := (rx_row (k159l29 hl) 120 (fun _ => 0))
def k159r30 (r : Nat → Nat → Option Nat) : Nat → Nat → Option Nat := (rx_u (rx_row (k159r29 r) 120 (fun _ => none)) 90 42 (some 120))
def k159i31 (hi : Nat → Nat → Int32) : Nat → Nat → Int32 := (rx_row (k159i30 hi) 121 (fun _ => 0))
def k159l31 (hl : Nat → Nat → Int64) : Nat → Nat → Int64 := (rx_row (k159l30 hl) 121 (fun _ => 0))
def k159r31 (r : Nat → Nat → Option Nat) : Nat → Nat → Option Nat := (rx_u (rx_row (k159r30 r) 121 (fun _ => none)) 90 44 (some 121))
def k159i32 (hi : Nat → Nat → Int32) : Nat → Nat → Int32 := (rx_row (k159i31 hi) 122 (fun _ => 0))
def k159l32 (hl : Nat → Nat → Int64) : Nat → Nat → Int64 := (rx_row (k159l31 hl) 122 (fun _ => 0))
def k159r32 (r : Nat → Nat → Option Nat) : Nat → Nat → Option Nat := (rx_u (rx_row (k159r31 r) 122 (fun _ => none)) 90 45 (some 122))
def k159i33 (hi : Nat → Nat → Int32) : Nat → Nat → Int32 := (rx_row (k159i32 hi) 123 (fun _ => 0))
def k159l33 (hl : Nat → Nat → Int64) : Nat → Nat → Int64 := (rx_row (k159l32 hl) 123 (fun _ => 0))
def k159r33 (r : Nat → Nat → Option Nat) : Nat → Nat → Option Nat := (rx_u (rx_row (k159r32 r) 123 (fun _ => none)) 90 46 (some 123))
def k159i34 (hi : Nat → Nat → Int32) : Nat → Nat → Int32 := (rx_row (k159i33 hi) 124 (fun _ => 0))
def k159l34 (hl : Nat → Nat → Int64) : Nat → Nat → Int64 := (rx_row (k159l33 hl) 124 (fun _ => 0))
def k159r34 (r : Nat → Nat → Option Nat) : Nat → Nat → Option Nat := (rx_u (rx_row (k159r33 r) 124 (fun _ => none)) 90 47 (some 124))
def k159i35 (hi : Nat → Nat → Int32) : Nat → Nat → Int32 := (rx_row (k159i34 hi) 125 (fun _ => 0))
def k159l35 (hl : Nat → Nat → Int64) : Nat → Nat → Int64 := (rx_row (k159l34 hl) 125 (fun _ => 0))
def k159r35 (r : Nat → Nat → Option Nat) : Nat → Nat → Option Nat := (rx_u (rx_row (k159r34 r) 125 (fun _ => none)) 90 49 (some 125))
def k159i36 (hi : Nat → Nat → Int32) : Nat → Nat → Int32 := (rx_row (k159i35 hi) 126 (fun _ => 0))
def k159l36 (hl : Nat → Nat → Int64) : Nat → Nat → Int64 := (rx_row (k159l35 hl) 126 (fun _ => 0))
def k159r36 (r : Nat → Nat → Option Nat) : Nat → Nat → Option Nat := (rx_u (rx_row (k159r35 r) 126 (fun _ => none)) 90 51 (some 126))
def k159i37 (hi : Nat → Nat → Int32) : Nat → Nat → Int32 := (rx_row (k159i36 hi) 127 (fun _ => 0))
def k159l37 (hl : Nat → Nat → Int64) : Nat → Nat → Int64 := (rx_row (k159l36 hl) 127 (fun _ => 0))
def k159r37 (r : Nat → Nat → Option Nat) : Nat → Nat → Option Nat := (rx_u (rx_row (k159r36 r) 127 (fun _ => none)) 90 52 (some 127))
def k159i38 (hi : Nat → Nat → Int32) : Nat → Nat → Int32 := (rx_row (k159i37 hi) 128 (fun _ => 0))
def k159l38 (hl : Nat → Nat → Int64) : Nat → Nat → Int64 := (rx_row (k159l37 hl) 128 (fun _ => 0))
def k159r38 (r : Nat → Nat → Option Nat) : Nat → Nat → Option Nat := (rx_u (rx_row (k159r37 r) 128 (fun _ => none)) 90 54 (some 128))
def k159i39 (hi : Nat → Nat → Int32) : Nat → Nat → Int32 := (rx_row (k159i38 hi) 129 (fun _ => 0))
def k159l39 (hl : Nat → Nat → Int64) : Nat → Nat → Int64 := (rx_row (k159l38 hl) 129 (fun _ => 0))
def k159r39 (r : Nat → Nat → Option Nat) : Nat → Nat → Option Nat := (rx_u (rx_row (k159r38 r) 129 (fun _ => none)) 90 55 (some 129))
def k159i40 (hi : Nat → Nat → Int32) : Nat → Nat → Int32 := (rx_row (k159i39 hi) 130 (fun _ => 0))
def k159l40 (hl : Nat → Nat → Int64) : Nat → Nat → Int64 := (rx_row (k159l39 hl) 130 (fun _ => 0))
def k159r40 (r : Nat → Nat → Option Nat) : Nat → Nat → Option Nat := (rx_u (rx_row (k159r39 r) 130 (fun _ => none)) 90 56 (some 130))
def k159i41 (hi : Nat → Nat → Int32) : Nat → Nat → Int32 := (rx_row (k159i40 hi) 131 (fun _ => 0))
def k159l41 (hl : Nat → Nat → Int64) : Nat → Nat → Int64 := (rx_row (k159l40 hl) 131 (fun _ => 0))
def k159r41 (r : Nat → Nat → Option Nat) : Nat → Nat → Option Nat := (rx_u (rx_row (k159r40 r) 131 (fun _ => none)) 90 57 (some 131))
def k159i42 (hi : Nat → Nat → Int32) : Nat → Nat → Int32 := (rx_row (k159i41 hi) 132 (fun _ => 0))
def k159l42 (hl : Nat → Nat → Int64) : Nat → Nat → Int64 := (rx_row (k159l41 hl) 132 (fun _ => 0))
def k159r42 (r : Nat → Nat → Option Nat) : Nat → Nat → Option Nat := (rx_u (rx_row (k159r41 r) 132 (fun _ => none)) 90 58 (some 132))
def k159i43 (hi : Nat → Nat → Int32) : Nat → Nat → Int32 := (rx_row (k159i42 hi) 133 (fun _ => 0))
def k159l43 (hl : Nat → Nat → Int64) : Nat → Nat → Int64 := (rx_row (k159l42 hl) 133 (fun _ => 0))
def k159r43 (r : Nat → Nat → Option Nat) : Nat → Nat → Option Nat := (rx_u (rx_row (k159r42 r) 133 (fun _ => none)) 90 59 (some 133))
set_option maxRecDepth 100000 in
theorem w159a {L : Nat} {hi : Nat → Nat → Int32} {hl : Nat → Nat → Int64} {r : Nat → Nat → Option Nat} {Q : Option Value → rx_H → Prop} {x y : Int32} (k : rx_aw 159 368 [.ref 90, .int x, .int y] [] (rx_tk L 133, (k159i43 hi), (k159l43 hl), (k159r43 r)) Q) : rx_me 159 [.ref 90, .int x, .int y] (rx_tk L 90, hi, hl, r) Q := by
  show rx_aw 159 0 [.ref 90, .int x, .int y] [] (rx_tk L 90, hi, hl, r) Q
  refine rx_aw_s 6 (pc := 0) rfl ?_
  show rx_aw 159 12 [.ref 90, .int x, .int y] [] (rx_tk L 91, (k159i1 hi), (k159l1 hl), (k159r1 r)) Q
  refine rx_aw_s 4 (pc := 12) rfl ?_
  show rx_aw 159 20 [.ref 90, .int x, .int y] [] (rx_tk L 92, (k159i2 hi), (k159l2 hl), (k159r2 r)) Q
  refine rx_aw_s 4 (pc := 20) rfl ?_
  show rx_aw 159 28 [.ref 90, .int x, .int y] [] (rx_tk L 93, (k159i3 hi), (k159l3 hl), (k159r3 r)) Q
  refine rx_aw_s 4 (pc := 28) rfl ?_
  show rx_aw 159 36 [.ref 90, .int x, .int y] [] (rx_tk L 94, (k159i4 hi), (k159l4 hl), (k159r4 r)) Q
  refine rx_aw_s 4 (pc := 36) rfl ?_
  show rx_aw 159 45 [.ref 90, .int x, .int y] [] (rx_tk L 95, (k159i5 hi), (k159l5 hl), (k159r5 r)) Q
  refine rx_aw_s 4 (pc := 45) rfl ?_
  show rx_aw 159 53 [.ref 90, .int x, .int y] [] (rx_tk L 96, (k159i6 hi), (k159l6 hl), (k159r6 r)) Q
  refine rx_aw_s 4 (pc := 53) rfl ?_
  show rx_aw 159 61 [.ref 90, .int x, .int y] [] (rx_tk L 97, (k159i7 hi), (k159l7 hl), (k159r7 r)) Q
  refine rx_aw_s 4 (pc := 61) rfl ?_
  show rx_aw 159 69 [.ref 90, .int x, .int y] [] (rx_tk L 98, (k159i8 hi), (k159l8 hl), (k159r8 r)) Q
  refine rx_aw_s 4 (pc := 69) rfl ?_
  show rx_aw 159 77 [.ref 90, .int x, .int y] [] (rx_tk L 99, (k159i9 hi), (k159l9 hl), (k159r9 r)) Q
  refine rx_aw_s 4 (pc := 77) rfl ?_
  show rx_aw 159 85 [.ref 90, .int x, .int y] [] (rx_tk L 100, (k159i10 hi), (k159l10 hl), (k159r10 r)) Q
  refine rx_aw_s 4 (pc := 85) rfl ?_
  show rx_aw 159 94 [.ref 90, .int x, .int y] [] (rx_tk L 101, (k159i11 hi), (k159l11 hl), (k159r11 r)) Q
  refine rx_aw_s 4 (pc := 94) rfl ?_
  show rx_aw 159 103 [.ref 90, .int x, .int y] [] (rx_tk L 102, (k159i12 hi), (k159l12 hl), (k159r12 r)) Q
  refine rx_aw_s 4 (pc := 103) rfl ?_
  show rx_aw 159 112 [.ref 90, .int x, .int y] [] (rx_tk L 103, (k159i13 hi), (k159l13 hl), (k159r13 r)) Q
  refine rx_aw_s 4 (pc := 112) rfl ?_
  show rx_aw 159 121 [.ref 90, .int x, .int y] [] (rx_tk L 104, (k159i14 hi), (k159l14 hl), (k159r14 r)) Q
  refine rx_aw_s 4 (pc := 121) rfl ?_
  show rx_aw 159 130 [.ref 90, .int x, .int y] [] (rx_tk L 105, (k159i15 hi), (k159l15 hl), (k159r15 r)) Q
  refine rx_aw_s 4 (pc := 130) rfl ?_
  show rx_aw 159 139 [.ref 90, .int x, .int y] [] (rx_tk L 106, (k159i16 hi), (k159l16 hl), (k159r16 r)) Q
  refine rx_aw_s 4 (pc := 139) rfl ?_
  show rx_aw 159 147 [.ref 90, .int x, .int y] [] (rx_tk L 107, (k159i17 hi), (k159l17 hl), (k159r17 r)) Q
  refine rx_aw_s 4 (pc := 147) rfl ?_
  show rx_aw 159 156 [.ref 90, .int x, .int y] [] (rx_tk L 108, (k159i18 hi), (k159l18 hl), (k159r18 r)) Q
  refine rx_aw_s 4 (pc := 156) rfl ?_
  show rx_aw 159 165 [.ref 90, .int x, .int y] [] (rx_tk L 109, (k159i19 hi), (k159l19 hl), (k159r19 r)) Q
  refine rx_aw_s 4 (pc := 165) rfl ?_
  show rx_aw 159 173 [.ref 90, .int x, .int y] [] (rx_tk L 110, (k159i20 hi), (k159l20 hl), (k159r20 r)) Q
  refine rx_aw_s 4 (pc := 173) rfl ?_
  show rx_aw 159 181 [.ref 90, .int x, .int y] [] (rx_tk L 111, (k159i21 hi), (k159l21 hl), (k159r21 r)) Q
  refine rx_aw_s 4 (pc := 181) rfl ?_
  show rx_aw 159 189 [.ref 90, .int x, .int y] [] (rx_tk L 112, (k159i22 hi), (k159l22 hl), (k159r22 r)) Q
  refine rx_aw_s 4 (pc := 189) rfl ?_
  show rx_aw 159 197 [.ref 90, .int x, .int y] [] (rx_tk L 113, (k159i23 hi), (k159l23 hl), (k159r23 r)) Q
  refine rx_aw_s 7 (pc := 197) rfl ?_
  show rx_aw 159 210 [.ref 90, .int x, .int y] [] (rx_tk L 114, (k159i24 hi), (k159l24 hl), (k159r24 r)) Q
  refine rx_aw_s 7 (pc := 210) rfl ?_
  show rx_aw 159 223 [.ref 90, .int x, .int y] [] (rx_tk L 115, (k159i25 hi), (k159l25 hl), (k159r25 r)) Q
  refine rx_aw_s 4 (pc := 223) rfl ?_
  show rx_aw 159 231 [.ref 90, .int x, .int y] [] (rx_tk L 116, (k159i26 hi), (k159l26 hl), (k159r26 r)) Q
  refine rx_aw_s 4 (pc := 231) rfl ?_
  show rx_aw 159 240 [.ref 90, .int x, .int y] [] (rx_tk L 117, (k159i27 hi), (k159l27 hl), (k159r27 r)) Q
  refine rx_aw_s 4 (pc := 240) rfl ?_
  show rx_aw 159 249 [.ref 90, .int x, .int y] [] (rx_tk L 118, (k159i28 hi), (k159l28 hl), (k159r28 r)) Q
  refine rx_aw_s 4 (pc := 249) rfl ?_
  show rx_aw 159 258 [.ref 90, .int x, .int y] [] (rx_tk L 119, (k159i29 hi), (k159l29 hl), (k159r29 r)) Q
  refine rx_aw_s 4 (pc := 258) rfl ?_
  show rx_aw 159 267 [.ref 90, .int x, .int y] [] (rx_tk L 120, (k159i30 hi), (k159l30 hl), (k159r30 r)) Q
  refine rx_aw_s 4 (pc := 267) rfl ?_
  show rx_aw 159 275 [.ref 90, .int x, .int y] [] (rx_tk L 121, (k159i31 hi), (k159l31 hl), (k159r31 r)) Q
  refine rx_aw_s 4 (pc := 275) rfl ?_
  show rx_aw 159 283 [.ref 90, .int x, .int y] [] (rx_tk L 122, (k159i32 hi), (k159l32 hl), (k159r32 r)) Q
  refine rx_aw_s 4 (pc := 283) rfl ?_
  show rx_aw 159 292 [.ref 90, .int x, .int y] [] (rx_tk L 123, (k159i33 hi), (k159l33 hl), (k159r33 r)) Q
  refine rx_aw_s 4 (pc := 292) rfl ?_
  show rx_aw 159 300 [.ref 90, .int x, .int y] [] (rx_tk L 124, (k159i34 hi), (k159l34 hl), (k159r34 r)) Q
  refine rx_aw_s 4 (pc := 300) rfl ?_
  show rx_aw 159 308 [.ref 90, .int x, .int y] [] (rx_tk L 125, (k159i35 hi), (k159l35 hl), (k159r35 r)) Q
  refine rx_aw_s 4 (pc := 308) rfl ?_
  show rx_aw 159 316 [.ref 90, .int x, .int y] [] (rx_tk L 126, (k159i36 hi), (k159l36 hl), (k159r36 r)) Q
  refine rx_aw_s 4 (pc := 316) rfl ?_
  show rx_aw 159 324 [.ref 90, .int x, .int y] [] (rx_tk L 127, (k159i37 hi), (k159l37 hl), (k159r37 r)) Q
  refine rx_aw_s 4 (pc := 324) rfl ?_
  show rx_aw 159 331 [.ref 90, .int x, .int y] [] (rx_tk L 128, (k159i38 hi), (k159l38 hl), (k159r38 r)) Q
  refine rx_aw_s 4 (pc := 331) rfl ?_
  show rx_aw 159 339 [.ref 90, .int x, .int y] [] (rx_tk L 129, (k159i39 hi), (k159l39 hl), (k159r39 r)) Q
  refine rx_aw_s 4 (pc := 339) rfl ?_
  show rx_aw 159 347 [.ref 90, .int x, .int y] [] (rx_tk L 130, (k159i40 hi), (k159l40 hl), (k159r40 r)) Q
  refine rx_aw_s 4 (pc := 347) rfl ?_
  show rx_aw 159 354 [.ref 90, .int x, .int y] [] (rx_tk L 131, (k159i41 hi), (k159l41 hl), (k159r41 r)) Q
  refine rx_aw_s 4 (pc := 354) rfl ?_
  show rx_aw 159 361 [.ref 90, .int x, .int y] [] (rx_tk L 132, (k159i42 hi), (k159l42 hl), (k159r42 r)) Q
  refine rx_aw_s 4 (pc := 361) rfl ?_
  show rx_aw 159 368 [.ref 90, .int x, .int y] [] (rx_tk L 133, (k159i43 hi), (k159l43 hl), (k159r43 r)) Q
  exact k
