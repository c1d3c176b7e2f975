/-! The constructors of carts and SHELVES, and Traffic. -/
def kc0_i1 (hi : Nat → Nat → Int32) : Nat → Nat → Int32 := (rx_row hi 17 (fun _ => 0))
def kc0_l1 (hl : Nat → Nat → Int64) : Nat → Nat → Int64 := (rx_row hl 17 (fun _ => 0))
def kc0_r1 (r : Nat → Nat → Option Nat) : Nat → Nat → Option Nat := (rx_u (rx_row r 17 (fun _ => none)) 16 0 (some 17))
def kc0_i2 (hi : Nat → Nat → Int32) : Nat → Nat → Int32 := (rx_row (kc0_i1 hi) 18 (fun _ => 0))
def kc0_l2 (hl : Nat → Nat → Int64) : Nat → Nat → Int64 := (rx_row (kc0_l1 hl) 18 (fun _ => 0))
def kc0_r2 (r : Nat → Nat → Option Nat) : Nat → Nat → Option Nat := (rx_u (rx_row (kc0_r1 r) 18 (fun _ => none)) 16 1 (some 18))
def kc0_i3 (hi : Nat → Nat → Int32) : Nat → Nat → Int32 := (rx_row (kc0_i2 hi) 19 (fun _ => 0))
def kc0_l3 (hl : Nat → Nat → Int64) : Nat → Nat → Int64 := (rx_row (kc0_l2 hl) 19 (fun _ => 0))
def kc0_r3 (r : Nat → Nat → Option Nat) : Nat → Nat → Option Nat := (rx_u (rx_row (kc0_r2 r) 19 (fun _ => none)) 16 2 (some 19))
def kc0_i4 (hi : Nat → Nat → Int32) : Nat → Nat → Int32 := (rx_row (kc0_i3 hi) 20 (fun _ => 0))
def kc0_l4 (hl : Nat → Nat → Int64) : Nat → Nat → Int64 := (rx_row (kc0_l3 hl) 20 (fun _ => 0))
def kc0_r4 (r : Nat → Nat → Option Nat) : Nat → Nat → Option Nat := (rx_u (rx_row (kc0_r3 r) 20 (fun _ => none)) 16 3 (some 20))
def kc0_i5 (hi : Nat → Nat → Int32) : Nat → Nat → Int32 := (rx_row (kc0_i4 hi) 21 (fun _ => 0))
def kc0_l5 (hl : Nat → Nat → Int64) : Nat → Nat → Int64 := (rx_row (kc0_l4 hl) 21 (fun _ => 0))
def kc0_r5 (r : Nat → Nat → Option Nat) : Nat → Nat → Option Nat := (rx_u (rx_row (kc0_r4 r) 21 (fun _ => none)) 16 4 (some 21))
def kc0_i6 (hi : Nat → Nat → Int32) : Nat → Nat → Int32 := (rx_u (rx_u (kc0_i5 hi) 16 5 (0 : Int32)) 16 6 (0 : Int32))
def kc0_i7 (hi : Nat → Nat → Int32) : Nat → Nat → Int32 := (rx_u (rx_u (kc0_i6 hi) 16 7 (0 : Int32)) 16 8 (-1 : Int32))
def kc0_i8 (hi : Nat → Nat → Int32) : Nat → Nat → Int32 := (rx_u (rx_u (kc0_i7 hi) 16 9 (-1 : Int32)) 16 10 (0 : Int32))
def kc0_i9 (hi : Nat → Nat → Int32) : Nat → Nat → Int32 := (rx_u (rx_u (kc0_i8 hi) 16 11 (0 : Int32)) 16 12 (0 : Int32))
def kc0_i10 (hi : Nat → Nat → Int32) : Nat → Nat → Int32 := (rx_u (rx_u (kc0_i9 hi) 16 13 (0 : Int32)) 16 14 (0 : Int32))
set_option maxRecDepth 100000 in
theorem w19k0 {L : Nat} {hi : Nat → Nat → Int32} {hl : Nat → Nat → Int64} {r : Nat → Nat → Option Nat} {Q : Option Value → rx_H → Prop} (k : Q none (rx_tk L 21, (kc0_i10 hi), (kc0_l5 hl), (kc0_r5 r))) : rx_me 19 [.ref 16] (rx_tk L 16, hi, hl, r) Q := by
  show rx_aw 19 0 [.ref 16] [] (rx_tk L 16, hi, hl, r) Q
  refine rx_aw_s 6 (pc := 0) rfl ?_
  show rx_aw 19 13 [.ref 16] [] (rx_tk L 17, (kc0_i1 hi), (kc0_l1 hl), (kc0_r1 r)) Q
  refine rx_aw_s 4 (pc := 13) rfl ?_
  show rx_aw 19 22 [.ref 16] [] (rx_tk L 18, (kc0_i2 hi), (kc0_l2 hl), (kc0_r2 r)) Q
  refine rx_aw_s 4 (pc := 22) rfl ?_
  show rx_aw 19 31 [.ref 16] [] (rx_tk L 19, (kc0_i3 hi), (kc0_l3 hl), (kc0_r3 r)) Q
  refine rx_aw_s 4 (pc := 31) rfl ?_
  show rx_aw 19 40 [.ref 16] [] (rx_tk L 20, (kc0_i4 hi), (kc0_l4 hl), (kc0_r4 r)) Q
  refine rx_aw_s 4 (pc := 40) rfl ?_
  show rx_aw 19 49 [.ref 16] [] (rx_tk L 21, (kc0_i5 hi), (kc0_l5 hl), (kc0_r5 r)) Q
  refine rx_aw_s 6 (pc := 49) rfl ?_
  show rx_aw 19 59 [.ref 16] [] (rx_tk L 21, (kc0_i6 hi), (kc0_l5 hl), (kc0_r5 r)) Q
  refine rx_aw_s 6 (pc := 59) rfl ?_
  show rx_aw 19 69 [.ref 16] [] (rx_tk L 21, (kc0_i7 hi), (kc0_l5 hl), (kc0_r5 r)) Q
  refine rx_aw_s 6 (pc := 69) rfl ?_
  show rx_aw 19 79 [.ref 16] [] (rx_tk L 21, (kc0_i8 hi), (kc0_l5 hl), (kc0_r5 r)) Q
  refine rx_aw_s 6 (pc := 79) rfl ?_
  show rx_aw 19 89 [.ref 16] [] (rx_tk L 21, (kc0_i9 hi), (kc0_l5 hl), (kc0_r5 r)) Q
  refine rx_aw_s 6 (pc := 89) rfl ?_
  show rx_aw 19 99 [.ref 16] [] (rx_tk L 21, (kc0_i10 hi), (kc0_l5 hl), (kc0_r5 r)) Q
  exact rx_aw_ret (pc := 99) rfl k
def kc1_i1 (hi : Nat → Nat → Int32) : Nat → Nat → Int32 := (rx_row hi 23 (fun _ => 0))
def kc1_l1 (hl : Nat → Nat → Int64) : Nat → Nat → Int64 := (rx_row hl 23 (fun _ => 0))
def kc1_r1 (r : Nat → Nat → Option Nat) : Nat → Nat → Option Nat := (rx_u (rx_row r 23 (fun _ => none)) 22 0 (some 23))
def kc1_i2 (hi : Nat → Nat → Int32) : Nat → Nat → Int32 := (rx_row (kc1_i1 hi) 24 (fun _ => 0))
def kc1_l2 (hl : Nat → Nat → Int64) : Nat → Nat → Int64 := (rx_row (kc1_l1 hl) 24 (fun _ => 0))
def kc1_r2 (r : Nat → Nat → Option Nat) : Nat → Nat → Option Nat := (rx_u (rx_row (kc1_r1 r) 24 (fun _ => none)) 22 1 (some 24))
def kc1_i3 (hi : Nat → Nat → Int32) : Nat → Nat → Int32 := (rx_row (kc1_i2 hi) 25 (fun _ => 0))
def kc1_l3 (hl : Nat → Nat → Int64) : Nat → Nat → Int64 := (rx_row (kc1_l2 hl) 25 (fun _ => 0))
def kc1_r3 (r : Nat → Nat → Option Nat) : Nat → Nat → Option Nat := (rx_u (rx_row (kc1_r2 r) 25 (fun _ => none)) 22 2 (some 25))
def kc1_i4 (hi : Nat → Nat → Int32) : Nat → Nat → Int32 := (rx_row (kc1_i3 hi) 26 (fun _ => 0))
def kc1_l4 (hl : Nat → Nat → Int64) : Nat → Nat → Int64 := (rx_row (kc1_l3 hl) 26 (fun _ => 0))
def kc1_r4 (r : Nat → Nat → Option Nat) : Nat → Nat → Option Nat := (rx_u (rx_row (kc1_r3 r) 26 (fun _ => none)) 22 3 (some 26))
def kc1_i5 (hi : Nat → Nat → Int32) : Nat → Nat → Int32 := (rx_row (kc1_i4 hi) 27 (fun _ => 0))
def kc1_l5 (hl : Nat → Nat → Int64) : Nat → Nat → Int64 := (rx_row (kc1_l4 hl) 27 (fun _ => 0))
def kc1_r5 (r : Nat → Nat → Option Nat) : Nat → Nat → Option Nat := (rx_u (rx_row (kc1_r4 r) 27 (fun _ => none)) 22 4 (some 27))
def kc1_i6 (hi : Nat → Nat → Int32) : Nat → Nat → Int32 := (rx_u (rx_u (kc1_i5 hi) 22 5 (0 : Int32)) 22 6 (0 : Int32))
def kc1_i7 (hi : Nat → Nat → Int32) : Nat → Nat → Int32 := (rx_u (rx_u (kc1_i6 hi) 22 7 (0 : Int32)) 22 8 (-1 : Int32))
def kc1_i8 (hi : Nat → Nat → Int32) : Nat → Nat → Int32 := (rx_u (rx_u (kc1_i7 hi) 22 9 (-1 : Int32)) 22 10 (0 : Int32))
def kc1_i9 (hi : Nat → Nat → Int32) : Nat → Nat → Int32 := (rx_u (rx_u (kc1_i8 hi) 22 11 (0 : Int32)) 22 12 (0 : Int32))
def kc1_i10 (hi : Nat → Nat → Int32) : Nat → Nat → Int32 := (rx_u (rx_u (kc1_i9 hi) 22 13 (0 : Int32)) 22 14 (0 : Int32))
set_option maxRecDepth 100000 in
theorem w19k1 {L : Nat} {hi : Nat → Nat → Int32} {hl : Nat → Nat → Int64} {r : Nat → Nat → Option Nat} {Q : Option Value → rx_H → Prop} (k : Q none (rx_tk L 27, (kc1_i10 hi), (kc1_l5 hl), (kc1_r5 r))) : rx_me 19 [.ref 22] (rx_tk L 22, hi, hl, r) Q := by
  show rx_aw 19 0 [.ref 22] [] (rx_tk L 22, hi, hl, r) Q
  refine rx_aw_s 6 (pc := 0) rfl ?_
  show rx_aw 19 13 [.ref 22] [] (rx_tk L 23, (kc1_i1 hi), (kc1_l1 hl), (kc1_r1 r)) Q
  refine rx_aw_s 4 (pc := 13) rfl ?_
  show rx_aw 19 22 [.ref 22] [] (rx_tk L 24, (kc1_i2 hi), (kc1_l2 hl), (kc1_r2 r)) Q
  refine rx_aw_s 4 (pc := 22) rfl ?_
  show rx_aw 19 31 [.ref 22] [] (rx_tk L 25, (kc1_i3 hi), (kc1_l3 hl), (kc1_r3 r)) Q
  refine rx_aw_s 4 (pc := 31) rfl ?_
  show rx_aw 19 40 [.ref 22] [] (rx_tk L 26, (kc1_i4 hi), (kc1_l4 hl), (kc1_r4 r)) Q
  refine rx_aw_s 4 (pc := 40) rfl ?_
  show rx_aw 19 49 [.ref 22] [] (rx_tk L 27, (kc1_i5 hi), (kc1_l5 hl), (kc1_r5 r)) Q
  refine rx_aw_s 6 (pc := 49) rfl ?_
  show rx_aw 19 59 [.ref 22] [] (rx_tk L 27, (kc1_i6 hi), (kc1_l5 hl), (kc1_r5 r)) Q
  refine rx_aw_s 6 (pc := 59) rfl ?_
  show rx_aw 19 69 [.ref 22] [] (rx_tk L 27, (kc1_i7 hi), (kc1_l5 hl), (kc1_r5 r)) Q
  refine rx_aw_s 6 (pc := 69) rfl ?_
  show rx_aw 19 79 [.ref 22] [] (rx_tk L 27, (kc1_i8 hi), (kc1_l5 hl), (kc1_r5 r)) Q
  refine rx_aw_s 6 (pc := 79) rfl ?_
  show rx_aw 19 89 [.ref 22] [] (rx_tk L 27, (kc1_i9 hi), (kc1_l5 hl), (kc1_r5 r)) Q
  refine rx_aw_s 6 (pc := 89) rfl ?_
  show rx_aw 19 99 [.ref 22] [] (rx_tk L 27, (kc1_i10 hi), (kc1_l5 hl), (kc1_r5 r)) Q
  exact rx_aw_ret (pc := 99) rfl k
def kc2_i1 (hi : Nat → Nat → Int32) : Nat → Nat → Int32 := (rx_row hi 29 (fun _ => 0))
def kc2_l1 (hl : Nat → Nat → Int64) : Nat → Nat → Int64 := (rx_row hl 29 (fun _ => 0))
def kc2_r1 (r : Nat → Nat → Option Nat) : Nat → Nat → Option Nat := (rx_u (rx_row r 29 (fun _ => none)) 28 0 (some 29))
def kc2_i2 (hi : Nat → Nat → Int32) : Nat → Nat → Int32 := (rx_row (kc2_i1 hi) 30 (fun _ => 0))
def kc2_l2 (hl : Nat → Nat → Int64) : Nat → Nat → Int64 := (rx_row (kc2_l1 hl) 30 (fun _ => 0))
def kc2_r2 (r : Nat → Nat → Option Nat) : Nat → Nat → Option Nat := (rx_u (rx_row (kc2_r1 r) 30 (fun _ => none)) 28 1 (some 30))
def kc2_i3 (hi : Nat → Nat → Int32) : Nat → Nat → Int32 := (rx_row (kc2_i2 hi) 31 (fun _ => 0))
def kc2_l3 (hl : Nat → Nat → Int64) : Nat → Nat → Int64 := (rx_row (kc2_l2 hl) 31 (fun _ => 0))
def kc2_r3 (r : Nat → Nat → Option Nat) : Nat → Nat → Option Nat := (rx_u (rx_row (kc2_r2 r) 31 (fun _ => none)) 28 2 (some 31))
def kc2_i4 (hi : Nat → Nat → Int32) : Nat → Nat → Int32 := (rx_row (kc2_i3 hi) 32 (fun _ => 0))
def kc2_l4 (hl : Nat → Nat → Int64) : Nat → Nat → Int64 := (rx_row (kc2_l3 hl) 32 (fun _ => 0))
def kc2_r4 (r : Nat → Nat → Option Nat) : Nat → Nat → Option Nat := (rx_u (rx_row (kc2_r3 r) 32 (fun _ => none)) 28 3 (some 32))
def kc2_i5 (hi : Nat → Nat → Int32) : Nat → Nat → Int32 := (rx_row (kc2_i4 hi) 33 (fun _ => 0))
def kc2_l5 (hl : Nat → Nat → Int64) : Nat → Nat → Int64 := (rx_row (kc2_l4 hl) 33 (fun _ => 0))
def kc2_r5 (r : Nat → Nat → Option Nat) : Nat → Nat → Option Nat := (rx_u (rx_row (kc2_r4 r) 33 (fun _ => none)) 28 4 (some 33))
def kc2_i6 (hi : Nat → Nat → Int32) : Nat → Nat → Int32 := (rx_u (rx_u (kc2_i5 hi) 28 5 (0 : Int32)) 28 6 (0 : Int32))
def kc2_i7 (hi : Nat → Nat → Int32) : Nat → Nat → Int32 := (rx_u (rx_u (kc2_i6 hi) 28 7 (0 : Int32)) 28 8 (-1 : Int32))
def kc2_i8 (hi : Nat → Nat → Int32) : Nat → Nat → Int32 := (rx_u (rx_u (kc2_i7 hi) 28 9 (-1 : Int32)) 28 10 (0 : Int32))
def kc2_i9 (hi : Nat → Nat → Int32) : Nat → Nat → Int32 := (rx_u (rx_u (kc2_i8 hi) 28 11 (0 : Int32)) 28 12 (0 : Int32))
def kc2_i10 (hi : Nat → Nat → Int32) : Nat → Nat → Int32 := (rx_u (rx_u (kc2_i9 hi) 28 13 (0 : Int32)) 28 14 (0 : Int32))
set_option maxRecDepth 100000 in
theorem w19k2 {L : Nat} {hi : Nat → Nat → Int32} {hl : Nat → Nat → Int64} {r : Nat → Nat → Option Nat} {Q : Option Value → rx_H → Prop} (k : Q none (rx_tk L 33, (kc2_i10 hi), (kc2_l5 hl), (kc2_r5 r))) : rx_me 19 [.ref 28] (rx_tk L 28, hi, hl, r) Q := by
  show rx_aw 19 0 [.ref 28] [] (rx_tk L 28, hi, hl, r) Q
  refine rx_aw_s 6 (pc := 0) rfl ?_
  show rx_aw 19 13 [.ref 28] [] (rx_tk L 29, (kc2_i1 hi), (kc2_l1 hl), (kc2_r1 r)) Q
  refine rx_aw_s 4 (pc := 13) rfl ?_
  show rx_aw 19 22 [.ref 28] [] (rx_tk L 30, (kc2_i2 hi), (kc2_l2 hl), (kc2_r2 r)) Q
  refine rx_aw_s 4 (pc := 22) rfl ?_
  show rx_aw 19 31 [.ref 28] [] (rx_tk L 31, (kc2_i3 hi), (kc2_l3 hl), (kc2_r3 r)) Q
  refine rx_aw_s 4 (pc := 31) rfl ?_
  show rx_aw 19 40 [.ref 28] [] (rx_tk L 32, (kc2_i4 hi), (kc2_l4 hl), (kc2_r4 r)) Q
  refine rx_aw_s 4 (pc := 40) rfl ?_
  show rx_aw 19 49 [.ref 28] [] (rx_tk L 33, (kc2_i5 hi), (kc2_l5 hl), (kc2_r5 r)) Q
  refine rx_aw_s 6 (pc := 49) rfl ?_
  show rx_aw 19 59 [.ref 28] [] (rx_tk L 33, (kc2_i6 hi), (kc2_l5 hl), (kc2_r5 r)) Q
  refine rx_aw_s 6 (pc := 59) rfl ?_
  show rx_aw 19 69 [.ref 28] [] (rx_tk L 33, (kc2_i7 hi), (kc2_l5 hl), (kc2_r5 r)) Q
  refine rx_aw_s 6 (pc := 69) rfl ?_
  show rx_aw 19 79 [.ref 28] [] (rx_tk L 33, (kc2_i8 hi), (kc2_l5 hl), (kc2_r5 r)) Q
  refine rx_aw_s 6 (pc := 79) rfl ?_
  show rx_aw 19 89 [.ref 28] [] (rx_tk L 33, (kc2_i9 hi), (kc2_l5 hl), (kc2_r5 r)) Q
  refine rx_aw_s 6 (pc := 89) rfl ?_
  show rx_aw 19 99 [.ref 28] [] (rx_tk L 33, (kc2_i10 hi), (kc2_l5 hl), (kc2_r5 r)) Q
  exact rx_aw_ret (pc := 99) rfl k
def kc3_i1 (hi : Nat → Nat → Int32) : Nat → Nat → Int32 := (rx_row hi 35 (fun _ => 0))
def kc3_l1 (hl : Nat → Nat → Int64) : Nat → Nat → Int64 := (rx_row hl 35 (fun _ => 0))
def kc3_r1 (r : Nat → Nat → Option Nat) : Nat → Nat → Option Nat := (rx_u (rx_row r 35 (fun _ => none)) 34 0 (some 35))
def kc3_i2 (hi : Nat → Nat → Int32) : Nat → Nat → Int32 := (rx_row (kc3_i1 hi) 36 (fun _ => 0))
def kc3_l2 (hl : Nat → Nat → Int64) : Nat → Nat → Int64 := (rx_row (kc3_l1 hl) 36 (fun _ => 0))
def kc3_r2 (r : Nat → Nat → Option Nat) : Nat → Nat → Option Nat := (rx_u (rx_row (kc3_r1 r) 36 (fun _ => none)) 34 1 (some 36))
def kc3_i3 (hi : Nat → Nat → Int32) : Nat → Nat → Int32 := (rx_row (kc3_i2 hi) 37 (fun _ => 0))
def kc3_l3 (hl : Nat → Nat → Int64) : Nat → Nat → Int64 := (rx_row (kc3_l2 hl) 37 (fun _ => 0))
def kc3_r3 (r : Nat → Nat → Option Nat) : Nat → Nat → Option Nat := (rx_u (rx_row (kc3_r2 r) 37 (fun _ => none)) 34 2 (some 37))
def kc3_i4 (hi : Nat → Nat → Int32) : Nat → Nat → Int32 := (rx_row (kc3_i3 hi) 38 (fun _ => 0))
def kc3_l4 (hl : Nat → Nat → Int64) : Nat → Nat → Int64 := (rx_row (kc3_l3 hl) 38 (fun _ => 0))
def kc3_r4 (r : Nat → Nat → Option Nat) : Nat → Nat → Option Nat := (rx_u (rx_row (kc3_r3 r) 38 (fun _ => none)) 34 3 (some 38))
def kc3_i5 (hi : Nat → Nat → Int32) : Nat → Nat → Int32 := (rx_row (kc3_i4 hi) 39 (fun _ => 0))
def kc3_l5 (hl : Nat → Nat → Int64) : Nat → Nat → Int64 := (rx_row (kc3_l4 hl) 39 (fun _ => 0))
def kc3_r5 (r : Nat → Nat → Option Nat) : Nat → Nat → Option Nat := (rx_u (rx_row (kc3_r4 r) 39 (fun _ => none)) 34 4 (some 39))
def kc3_i6 (hi : Nat → Nat → Int32) : Nat → Nat → Int32 := (rx_u (rx_u (kc3_i5 hi) 34 5 (0 : Int32)) 34 6 (0 : Int32))
def kc3_i7 (hi : Nat → Nat → Int32) : Nat → Nat → Int32 := (rx_u (rx_u (kc3_i6 hi) 34 7 (0 : Int32)) 34 8 (-1 : Int32))
def kc3_i8 (hi : Nat → Nat → Int32) : Nat → Nat → Int32 := (rx_u (rx_u (kc3_i7 hi) 34 9 (-1 : Int32)) 34 10 (0 : Int32))
def kc3_i9 (hi : Nat → Nat → Int32) : Nat → Nat → Int32 := (rx_u (rx_u (kc3_i8 hi) 34 11 (0 : Int32)) 34 12 (0 : Int32))
def kc3_i10 (hi : Nat → Nat → Int32) : Nat → Nat → Int32 := (rx_u (rx_u (kc3_i9 hi) 34 13 (0 : Int32)) 34 14 (0 : Int32))
set_option maxRecDepth 100000 in
theorem w19k3 {L : Nat} {hi : Nat → Nat → Int32} {hl : Nat → Nat → Int64} {r : Nat → Nat → Option Nat} {Q : Option Value → rx_H → Prop} (k : Q none (rx_tk L 39, (kc3_i10 hi), (kc3_l5 hl), (kc3_r5 r))) : rx_me 19 [.ref 34] (rx_tk L 34, hi, hl, r) Q := by
  show rx_aw 19 0 [.ref 34] [] (rx_tk L 34, hi, hl, r) Q
  refine rx_aw_s 6 (pc := 0) rfl ?_
  show rx_aw 19 13 [.ref 34] [] (rx_tk L 35, (kc3_i1 hi), (kc3_l1 hl), (kc3_r1 r)) Q
  refine rx_aw_s 4 (pc := 13) rfl ?_
  show rx_aw 19 22 [.ref 34] [] (rx_tk L 36, (kc3_i2 hi), (kc3_l2 hl), (kc3_r2 r)) Q
  refine rx_aw_s 4 (pc := 22) rfl ?_
  show rx_aw 19 31 [.ref 34] [] (rx_tk L 37, (kc3_i3 hi), (kc3_l3 hl), (kc3_r3 r)) Q
  refine rx_aw_s 4 (pc := 31) rfl ?_
  show rx_aw 19 40 [.ref 34] [] (rx_tk L 38, (kc3_i4 hi), (kc3_l4 hl), (kc3_r4 r)) Q
  refine rx_aw_s 4 (pc := 40) rfl ?_
  show rx_aw 19 49 [.ref 34] [] (rx_tk L 39, (kc3_i5 hi), (kc3_l5 hl), (kc3_r5 r)) Q
  refine rx_aw_s 6 (pc := 49) rfl ?_
  show rx_aw 19 59 [.ref 34] [] (rx_tk L 39, (kc3_i6 hi), (kc3_l5 hl), (kc3_r5 r)) Q
  refine rx_aw_s 6 (pc := 59) rfl ?_
  show rx_aw 19 69 [.ref 34] [] (rx_tk L 39, (kc3_i7 hi), (kc3_l5 hl), (kc3_r5 r)) Q
  refine rx_aw_s 6 (pc := 69) rfl ?_
  show rx_aw 19 79 [.ref 34] [] (rx_tk L 39, (kc3_i8 hi), (kc3_l5 hl), (kc3_r5 r)) Q
  refine rx_aw_s 6 (pc := 79) rfl ?_
  show rx_aw 19 89 [.ref 34] [] (rx_tk L 39, (kc3_i9 hi), (kc3_l5 hl), (kc3_r5 r)) Q
  refine rx_aw_s 6 (pc := 89) rfl ?_
  show rx_aw 19 99 [.ref 34] [] (rx_tk L 39, (kc3_i10 hi), (kc3_l5 hl), (kc3_r5 r)) Q
  exact rx_aw_ret (pc := 99) rfl k
def kc4_i1 (hi : Nat → Nat → Int32) : Nat → Nat → Int32 := (rx_row hi 41 (fun _ => 0))
def kc4_l1 (hl : Nat → Nat → Int64) : Nat → Nat → Int64 := (rx_row hl 41 (fun _ => 0))
def kc4_r1 (r : Nat → Nat → Option Nat) : Nat → Nat → Option Nat := (rx_u (rx_row r 41 (fun _ => none)) 40 0 (some 41))
def kc4_i2 (hi : Nat → Nat → Int32) : Nat → Nat → Int32 := (rx_row (kc4_i1 hi) 42 (fun _ => 0))
def kc4_l2 (hl : Nat → Nat → Int64) : Nat → Nat → Int64 := (rx_row (kc4_l1 hl) 42 (fun _ => 0))
def kc4_r2 (r : Nat → Nat → Option Nat) : Nat → Nat → Option Nat := (rx_u (rx_row (kc4_r1 r) 42 (fun _ => none)) 40 1 (some 42))
def kc4_i3 (hi : Nat → Nat → Int32) : Nat → Nat → Int32 := (rx_row (kc4_i2 hi) 43 (fun _ => 0))
def kc4_l3 (hl : Nat → Nat → Int64) : Nat → Nat → Int64 := (rx_row (kc4_l2 hl) 43 (fun _ => 0))
def kc4_r3 (r : Nat → Nat → Option Nat) : Nat → Nat → Option Nat := (rx_u (rx_row (kc4_r2 r) 43 (fun _ => none)) 40 2 (some 43))
def kc4_i4 (hi : Nat → Nat → Int32) : Nat → Nat → Int32 := (rx_row (kc4_i3 hi) 44 (fun _ => 0))
def kc4_l4 (hl : Nat → Nat → Int64) : Nat → Nat → Int64 := (rx_row (kc4_l3 hl) 44 (fun _ => 0))
def kc4_r4 (r : Nat → Nat → Option Nat) : Nat → Nat → Option Nat := (rx_u (rx_row (kc4_r3 r) 44 (fun _ => none)) 40 3 (some 44))
def kc4_i5 (hi : Nat → Nat → Int32) : Nat → Nat → Int32 := (rx_row (kc4_i4 hi) 45 (fun _ => 0))
def kc4_l5 (hl : Nat → Nat → Int64) : Nat → Nat → Int64 := (rx_row (kc4_l4 hl) 45 (fun _ => 0))
def kc4_r5 (r : Nat → Nat → Option Nat) : Nat → Nat → Option Nat := (rx_u (rx_row (kc4_r4 r) 45 (fun _ => none)) 40 4 (some 45))
def kc4_i6 (hi : Nat → Nat → Int32) : Nat → Nat → Int32 := (rx_u (rx_u (kc4_i5 hi) 40 5 (0 : Int32)) 40 6 (0 : Int32))
def kc4_i7 (hi : Nat → Nat → Int32) : Nat → Nat → Int32 := (rx_u (rx_u (kc4_i6 hi) 40 7 (0 : Int32)) 40 8 (-1 : Int32))
def kc4_i8 (hi : Nat → Nat → Int32) : Nat → Nat → Int32 := (rx_u (rx_u (kc4_i7 hi) 40 9 (-1 : Int32)) 40 10 (0 : Int32))
def kc4_i9 (hi : Nat → Nat → Int32) : Nat → Nat → Int32 := (rx_u (rx_u (kc4_i8 hi) 40 11 (0 : Int32)) 40 12 (0 : Int32))
def kc4_i10 (hi : Nat → Nat → Int32) : Nat → Nat → Int32 := (rx_u (rx_u (kc4_i9 hi) 40 13 (0 : Int32)) 40 14 (0 : Int32))
set_option maxRecDepth 100000 in
theorem w19k4 {L : Nat} {hi : Nat → Nat → Int32} {hl : Nat → Nat → Int64} {r : Nat → Nat → Option Nat} {Q : Option Value → rx_H → Prop} (k : Q none (rx_tk L 45, (kc4_i10 hi), (kc4_l5 hl), (kc4_r5 r))) : rx_me 19 [.ref 40] (rx_tk L 40, hi, hl, r) Q := by
  show rx_aw 19 0 [.ref 40] [] (rx_tk L 40, hi, hl, r) Q
  refine rx_aw_s 6 (pc := 0) rfl ?_
  show rx_aw 19 13 [.ref 40] [] (rx_tk L 41, (kc4_i1 hi), (kc4_l1 hl), (kc4_r1 r)) Q
  refine rx_aw_s 4 (pc := 13) rfl ?_
  show rx_aw 19 22 [.ref 40] [] (rx_tk L 42, (kc4_i2 hi), (kc4_l2 hl), (kc4_r2 r)) Q
  refine rx_aw_s 4 (pc := 22) rfl ?_
  show rx_aw 19 31 [.ref 40] [] (rx_tk L 43, (kc4_i3 hi), (kc4_l3 hl), (kc4_r3 r)) Q
  refine rx_aw_s 4 (pc := 31) rfl ?_
  show rx_aw 19 40 [.ref 40] [] (rx_tk L 44, (kc4_i4 hi), (kc4_l4 hl), (kc4_r4 r)) Q
  refine rx_aw_s 4 (pc := 40) rfl ?_
  show rx_aw 19 49 [.ref 40] [] (rx_tk L 45, (kc4_i5 hi), (kc4_l5 hl), (kc4_r5 r)) Q
  refine rx_aw_s 6 (pc := 49) rfl ?_
  show rx_aw 19 59 [.ref 40] [] (rx_tk L 45, (kc4_i6 hi), (kc4_l5 hl), (kc4_r5 r)) Q
  refine rx_aw_s 6 (pc := 59) rfl ?_
  show rx_aw 19 69 [.ref 40] [] (rx_tk L 45, (kc4_i7 hi), (kc4_l5 hl), (kc4_r5 r)) Q
  refine rx_aw_s 6 (pc := 69) rfl ?_
  show rx_aw 19 79 [.ref 40] [] (rx_tk L 45, (kc4_i8 hi), (kc4_l5 hl), (kc4_r5 r)) Q
  refine rx_aw_s 6 (pc := 79) rfl ?_
  show rx_aw 19 89 [.ref 40] [] (rx_tk L 45, (kc4_i9 hi), (kc4_l5 hl), (kc4_r5 r)) Q
  refine rx_aw_s 6 (pc := 89) rfl ?_
  show rx_aw 19 99 [.ref 40] [] (rx_tk L 45, (kc4_i10 hi), (kc4_l5 hl), (kc4_r5 r)) Q
  exact rx_aw_ret (pc := 99) rfl k
def kc5_i1 (hi : Nat → Nat → Int32) : Nat → Nat → Int32 := (rx_row hi 47 (fun _ => 0))
def kc5_l1 (hl : Nat → Nat → Int64) : Nat → Nat → Int64 := (rx_row hl 47 (fun _ => 0))
def kc5_r1 (r : Nat → Nat → Option Nat) : Nat → Nat → Option Nat := (rx_u (rx_row r 47 (fun _ => none)) 46 0 (some 47))
def kc5_i2 (hi : Nat → Nat → Int32) : Nat → Nat → Int32 := (rx_row (kc5_i1 hi) 48 (fun _ => 0))
def kc5_l2 (hl : Nat → Nat → Int64) : Nat → Nat → Int64 := (rx_row (kc5_l1 hl) 48 (fun _ => 0))
def kc5_r2 (r : Nat → Nat → Option Nat) : Nat → Nat → Option Nat := (rx_u (rx_row (kc5_r1 r) 48 (fun _ => none)) 46 1 (some 48))
def kc5_i3 (hi : Nat → Nat → Int32) : Nat → Nat → Int32 := (rx_row (kc5_i2 hi) 49 (fun _ => 0))
def kc5_l3 (hl : Nat → Nat → Int64) : Nat → Nat → Int64 := (rx_row (kc5_l2 hl) 49 (fun _ => 0))
def kc5_r3 (r : Nat → Nat → Option Nat) : Nat → Nat → Option Nat := (rx_u (rx_row (kc5_r2 r) 49 (fun _ => none)) 46 2 (some 49))
def kc5_i4 (hi : Nat → Nat → Int32) : Nat → Nat → Int32 := (rx_row (kc5_i3 hi) 50 (fun _ => 0))
def kc5_l4 (hl : Nat → Nat → Int64) : Nat → Nat → Int64 := (rx_row (kc5_l3 hl) 50 (fun _ => 0))
def kc5_r4 (r : Nat → Nat → Option Nat) : Nat → Nat → Option Nat := (rx_u (rx_row (kc5_r3 r) 50 (fun _ => none)) 46 3 (some 50))
def kc5_i5 (hi : Nat → Nat → Int32) : Nat → Nat → Int32 := (rx_row (kc5_i4 hi) 51 (fun _ => 0))
def kc5_l5 (hl : Nat → Nat → Int64) : Nat → Nat → Int64 := (rx_row (kc5_l4 hl) 51 (fun _ => 0))
def kc5_r5 (r : Nat → Nat → Option Nat) : Nat → Nat → Option Nat := (rx_u (rx_row (kc5_r4 r) 51 (fun _ => none)) 46 4 (some 51))
def kc5_i6 (hi : Nat → Nat → Int32) : Nat → Nat → Int32 := (rx_u (rx_u (kc5_i5 hi) 46 5 (0 : Int32)) 46 6 (0 : Int32))
def kc5_i7 (hi : Nat → Nat → Int32) : Nat → Nat → Int32 := (rx_u (rx_u (kc5_i6 hi) 46 7 (0 : Int32)) 46 8 (-1 : Int32))
def kc5_i8 (hi : Nat → Nat → Int32) : Nat → Nat → Int32 := (rx_u (rx_u (kc5_i7 hi) 46 9 (-1 : Int32)) 46 10 (0 : Int32))
def kc5_i9 (hi : Nat → Nat → Int32) : Nat → Nat → Int32 := (rx_u (rx_u (kc5_i8 hi) 46 11 (0 : Int32)) 46 12 (0 : Int32))
def kc5_i10 (hi : Nat → Nat → Int32) : Nat → Nat → Int32 := (rx_u (rx_u (kc5_i9 hi) 46 13 (0 : Int32)) 46 14 (0 : Int32))
set_option maxRecDepth 100000 in
theorem w19k5 {L : Nat} {hi : Nat → Nat → Int32} {hl : Nat → Nat → Int64} {r : Nat → Nat → Option Nat} {Q : Option Value → rx_H → Prop} (k : Q none (rx_tk L 51, (kc5_i10 hi), (kc5_l5 hl), (kc5_r5 r))) : rx_me 19 [.ref 46] (rx_tk L 46, hi, hl, r) Q := by
  show rx_aw 19 0 [.ref 46] [] (rx_tk L 46, hi, hl, r) Q
  refine rx_aw_s 6 (pc := 0) rfl ?_
  show rx_aw 19 13 [.ref 46] [] (rx_tk L 47, (kc5_i1 hi), (kc5_l1 hl), (kc5_r1 r)) Q
  refine rx_aw_s 4 (pc := 13) rfl ?_
  show rx_aw 19 22 [.ref 46] [] (rx_tk L 48, (kc5_i2 hi), (kc5_l2 hl), (kc5_r2 r)) Q
  refine rx_aw_s 4 (pc := 22) rfl ?_
  show rx_aw 19 31 [.ref 46] [] (rx_tk L 49, (kc5_i3 hi), (kc5_l3 hl), (kc5_r3 r)) Q
  refine rx_aw_s 4 (pc := 31) rfl ?_
  show rx_aw 19 40 [.ref 46] [] (rx_tk L 50, (kc5_i4 hi), (kc5_l4 hl), (kc5_r4 r)) Q
  refine rx_aw_s 4 (pc := 40) rfl ?_
  show rx_aw 19 49 [.ref 46] [] (rx_tk L 51, (kc5_i5 hi), (kc5_l5 hl), (kc5_r5 r)) Q
  refine rx_aw_s 6 (pc := 49) rfl ?_
  show rx_aw 19 59 [.ref 46] [] (rx_tk L 51, (kc5_i6 hi), (kc5_l5 hl), (kc5_r5 r)) Q
  refine rx_aw_s 6 (pc := 59) rfl ?_
  show rx_aw 19 69 [.ref 46] [] (rx_tk L 51, (kc5_i7 hi), (kc5_l5 hl), (kc5_r5 r)) Q
  refine rx_aw_s 6 (pc := 69) rfl ?_
  show rx_aw 19 79 [.ref 46] [] (rx_tk L 51, (kc5_i8 hi), (kc5_l5 hl), (kc5_r5 r)) Q
  refine rx_aw_s 6 (pc := 79) rfl ?_
  show rx_aw 19 89 [.ref 46] [] (rx_tk L 51, (kc5_i9 hi), (kc5_l5 hl), (kc5_r5 r)) Q
  refine rx_aw_s 6 (pc := 89) rfl ?_
  show rx_aw 19 99 [.ref 46] [] (rx_tk L 51, (kc5_i10 hi), (kc5_l5 hl), (kc5_r5 r)) Q
  exact rx_aw_ret (pc := 99) rfl k
def ks0_i1 (hi : Nat → Nat → Int32) : Nat → Nat → Int32 := (rx_row hi 53 (fun _ => 0))
def ks0_l1 (hl : Nat → Nat → Int64) : Nat → Nat → Int64 := (rx_row hl 53 (fun _ => 0))
def ks0_r1 (r : Nat → Nat → Option Nat) : Nat → Nat → Option Nat := (rx_u (rx_row r 53 (fun _ => none)) 52 0 (some 53))
def ks0_i2 (hi : Nat → Nat → Int32) : Nat → Nat → Int32 := (rx_u (ks0_i1 hi) 52 1 (0 : Int32))
set_option maxRecDepth 100000 in
theorem w20k0 {L : Nat} {hi : Nat → Nat → Int32} {hl : Nat → Nat → Int64} {r : Nat → Nat → Option Nat} {Q : Option Value → rx_H → Prop} (k : Q none (rx_tk L 53, (ks0_i2 hi), (ks0_l1 hl), (ks0_r1 r))) : rx_me 20 [.ref 52] (rx_tk L 52, hi, hl, r) Q := by
  show rx_aw 20 0 [.ref 52] [] (rx_tk L 52, hi, hl, r) Q
  refine rx_aw_s 6 (pc := 0) rfl ?_
  show rx_aw 20 13 [.ref 52] [] (rx_tk L 53, (ks0_i1 hi), (ks0_l1 hl), (ks0_r1 r)) Q
  refine rx_aw_s 3 (pc := 13) rfl ?_
  show rx_aw 20 18 [.ref 52] [] (rx_tk L 53, (ks0_i2 hi), (ks0_l1 hl), (ks0_r1 r)) Q
  exact rx_aw_ret (pc := 18) rfl k
def ks1_i1 (hi : Nat → Nat → Int32) : Nat → Nat → Int32 := (rx_row hi 55 (fun _ => 0))
def ks1_l1 (hl : Nat → Nat → Int64) : Nat → Nat → Int64 := (rx_row hl 55 (fun _ => 0))
def ks1_r1 (r : Nat → Nat → Option Nat) : Nat → Nat → Option Nat := (rx_u (rx_row r 55 (fun _ => none)) 54 0 (some 55))
def ks1_i2 (hi : Nat → Nat → Int32) : Nat → Nat → Int32 := (rx_u (ks1_i1 hi) 54 1 (0 : Int32))
set_option maxRecDepth 100000 in
theorem w20k1 {L : Nat} {hi : Nat → Nat → Int32} {hl : Nat → Nat → Int64} {r : Nat → Nat → Option Nat} {Q : Option Value → rx_H → Prop} (k : Q none (rx_tk L 55, (ks1_i2 hi), (ks1_l1 hl), (ks1_r1 r))) : rx_me 20 [.ref 54] (rx_tk L 54, hi, hl, r) Q := by
  show rx_aw 20 0 [.ref 54] [] (rx_tk L 54, hi, hl, r) Q
  refine rx_aw_s 6 (pc := 0) rfl ?_
  show rx_aw 20 13 [.ref 54] [] (rx_tk L 55, (ks1_i1 hi), (ks1_l1 hl), (ks1_r1 r)) Q
  refine rx_aw_s 3 (pc := 13) rfl ?_
  show rx_aw 20 18 [.ref 54] [] (rx_tk L 55, (ks1_i2 hi), (ks1_l1 hl), (ks1_r1 r)) Q
  exact rx_aw_ret (pc := 18) rfl k
def ks2_i1 (hi : Nat → Nat → Int32) : Nat → Nat → Int32 := (rx_row hi 57 (fun _ => 0))
def ks2_l1 (hl : Nat → Nat → Int64) : Nat → Nat → Int64 := (rx_row hl 57 (fun _ => 0))
def ks2_r1 (r : Nat → Nat → Option Nat) : Nat → Nat → Option Nat := (rx_u (rx_row r 57 (fun _ => none)) 56 0 (some 57))
def ks2_i2 (hi : Nat → Nat → Int32) : Nat → Nat → Int32 := (rx_u (ks2_i1 hi) 56 1 (0 : Int32))
set_option maxRecDepth 100000 in
theorem w20k2 {L : Nat} {hi : Nat → Nat → Int32} {hl : Nat → Nat → Int64} {r : Nat → Nat → Option Nat} {Q : Option Value → rx_H → Prop} (k : Q none (rx_tk L 57, (ks2_i2 hi), (ks2_l1 hl), (ks2_r1 r))) : rx_me 20 [.ref 56] (rx_tk L 56, hi, hl, r) Q := by
  show rx_aw 20 0 [.ref 56] [] (rx_tk L 56, hi, hl, r) Q
  refine rx_aw_s 6 (pc := 0) rfl ?_
  show rx_aw 20 13 [.ref 56] [] (rx_tk L 57, (ks2_i1 hi), (ks2_l1 hl), (ks2_r1 r)) Q
  refine rx_aw_s 3 (pc := 13) rfl ?_
  show rx_aw 20 18 [.ref 56] [] (rx_tk L 57, (ks2_i2 hi), (ks2_l1 hl), (ks2_r1 r)) Q
  exact rx_aw_ret (pc := 18) rfl k
def ks3_i1 (hi : Nat → Nat → Int32) : Nat → Nat → Int32 := (rx_row hi 59 (fun _ => 0))
def ks3_l1 (hl : Nat → Nat → Int64) : Nat → Nat → Int64 := (rx_row hl 59 (fun _ => 0))
def ks3_r1 (r : Nat → Nat → Option Nat) : Nat → Nat → Option Nat := (rx_u (rx_row r 59 (fun _ => none)) 58 0 (some 59))
def ks3_i2 (hi : Nat → Nat → Int32) : Nat → Nat → Int32 := (rx_u (ks3_i1 hi) 58 1 (0 : Int32))
set_option maxRecDepth 100000 in
theorem w20k3 {L : Nat} {hi : Nat → Nat → Int32} {hl : Nat → Nat → Int64} {r : Nat → Nat → Option Nat} {Q : Option Value → rx_H → Prop} (k : Q none (rx_tk L 59, (ks3_i2 hi), (ks3_l1 hl), (ks3_r1 r))) : rx_me 20 [.ref 58] (rx_tk L 58, hi, hl, r) Q := by
  show rx_aw 20 0 [.ref 58] [] (rx_tk L 58, hi, hl, r) Q
  refine rx_aw_s 6 (pc := 0) rfl ?_
  show rx_aw 20 13 [.ref 58] [] (rx_tk L 59, (ks3_i1 hi), (ks3_l1 hl), (ks3_r1 r)) Q
  refine rx_aw_s 3 (pc := 13) rfl ?_
  show rx_aw 20 18 [.ref 58] [] (rx_tk L 59, (ks3_i2 hi), (ks3_l1 hl), (ks3_r1 r)) Q
  exact rx_aw_ret (pc := 18) rfl k
def ks4_i1 (hi : Nat → Nat → Int32) : Nat → Nat → Int32 := (rx_row hi 61 (fun _ => 0))
def ks4_l1 (hl : Nat → Nat → Int64) : Nat → Nat → Int64 := (rx_row hl 61 (fun _ => 0))
def ks4_r1 (r : Nat → Nat → Option Nat) : Nat → Nat → Option Nat := (rx_u (rx_row r 61 (fun _ => none)) 60 0 (some 61))
def ks4_i2 (hi : Nat → Nat → Int32) : Nat → Nat → Int32 := (rx_u (ks4_i1 hi) 60 1 (0 : Int32))
set_option maxRecDepth 100000 in
theorem w20k4 {L : Nat} {hi : Nat → Nat → Int32} {hl : Nat → Nat → Int64} {r : Nat → Nat → Option Nat} {Q : Option Value → rx_H → Prop} (k : Q none (rx_tk L 61, (ks4_i2 hi), (ks4_l1 hl), (ks4_r1 r))) : rx_me 20 [.ref 60] (rx_tk L 60, hi, hl, r) Q := by
  show rx_aw 20 0 [.ref 60] [] (rx_tk L 60, hi, hl, r) Q
  refine rx_aw_s 6 (pc := 0) rfl ?_
  show rx_aw 20 13 [.ref 60] [] (rx_tk L 61, (ks4_i1 hi), (ks4_l1 hl), (ks4_r1 r)) Q
  refine rx_aw_s 3 (pc := 13) rfl ?_
  show rx_aw 20 18 [.ref 60] [] (rx_tk L 61, (ks4_i2 hi), (ks4_l1 hl), (ks4_r1 r)) Q
  exact rx_aw_ret (pc := 18) rfl k
def ks5_i1 (hi : Nat → Nat → Int32) : Nat → Nat → Int32 := (rx_row hi 63 (fun _ => 0))
def ks5_l1 (hl : Nat → Nat → Int64) : Nat → Nat → Int64 := (rx_row hl 63 (fun _ => 0))
def ks5_r1 (r : Nat → Nat → Option Nat) : Nat → Nat → Option Nat := (rx_u (rx_row r 63 (fun _ => none)) 62 0 (some 63))
def ks5_i2 (hi : Nat → Nat → Int32) : Nat → Nat → Int32 := (rx_u (ks5_i1 hi) 62 1 (0 : Int32))
set_option maxRecDepth 100000 in
theorem w20k5 {L : Nat} {hi : Nat → Nat → Int32} {hl : Nat → Nat → Int64} {r : Nat → Nat → Option Nat} {Q : Option Value → rx_H → Prop} (k : Q none (rx_tk L 63, (ks5_i2 hi), (ks5_l1 hl), (ks5_r1 r))) : rx_me 20 [.ref 62] (rx_tk L 62, hi, hl, r) Q := by
  show rx_aw 20 0 [.ref 62] [] (rx_tk L 62, hi, hl, r) Q
  refine rx_aw_s 6 (pc := 0) rfl ?_
  show rx_aw 20 13 [.ref 62] [] (rx_tk L 63, (ks5_i1 hi), (ks5_l1 hl), (ks5_r1 r)) Q
  refine rx_aw_s 3 (pc := 13) rfl ?_
  show rx_aw 20 18 [.ref 62] [] (rx_tk L 63, (ks5_i2 hi), (ks5_l1 hl), (ks5_r1 r)) Q
  exact rx_aw_ret (pc := 18) rfl k
def ks6_i1 (hi : Nat → Nat → Int32) : Nat → Nat → Int32 := (rx_row hi 65 (fun _ => 0))
def ks6_l1 (hl : Nat → Nat → Int64) : Nat → Nat → Int64 := (rx_row hl 65 (fun _ => 0))
def ks6_r1 (r : Nat → Nat → Option Nat) : Nat → Nat → Option Nat := (rx_u (rx_row r 65 (fun _ => none)) 64 0 (some 65))
def ks6_i2 (hi : Nat → Nat → Int32) : Nat → Nat → Int32 := (rx_u (ks6_i1 hi) 64 1 (0 : Int32))
set_option maxRecDepth 100000 in
theorem w20k6 {L : Nat} {hi : Nat → Nat → Int32} {hl : Nat → Nat → Int64} {r : Nat → Nat → Option Nat} {Q : Option Value → rx_H → Prop} (k : Q none (rx_tk L 65, (ks6_i2 hi), (ks6_l1 hl), (ks6_r1 r))) : rx_me 20 [.ref 64] (rx_tk L 64, hi, hl, r) Q := by
  show rx_aw 20 0 [.ref 64] [] (rx_tk L 64, hi, hl, r) Q
  refine rx_aw_s 6 (pc := 0) rfl ?_
  show rx_aw 20 13 [.ref 64] [] (rx_tk L 65, (ks6_i1 hi), (ks6_l1 hl), (ks6_r1 r)) Q
  refine rx_aw_s 3 (pc := 13) rfl ?_
  show rx_aw 20 18 [.ref 64] [] (rx_tk L 65, (ks6_i2 hi), (ks6_l1 hl), (ks6_r1 r)) Q
  exact rx_aw_ret (pc := 18) rfl k
def ks7_i1 (hi : Nat → Nat → Int32) : Nat → Nat → Int32 := (rx_row hi 67 (fun _ => 0))
def ks7_l1 (hl : Nat → Nat → Int64) : Nat → Nat → Int64 := (rx_row hl 67 (fun _ => 0))
def ks7_r1 (r : Nat → Nat → Option Nat) : Nat → Nat → Option Nat := (rx_u (rx_row r 67 (fun _ => none)) 66 0 (some 67))
def ks7_i2 (hi : Nat → Nat → Int32) : Nat → Nat → Int32 := (rx_u (ks7_i1 hi) 66 1 (0 : Int32))
set_option maxRecDepth 100000 in
theorem w20k7 {L : Nat} {hi : Nat → Nat → Int32} {hl : Nat → Nat → Int64} {r : Nat → Nat → Option Nat} {Q : Option Value → rx_H → Prop} (k : Q none (rx_tk L 67, (ks7_i2 hi), (ks7_l1 hl), (ks7_r1 r))) : rx_me 20 [.ref 66] (rx_tk L 66, hi, hl, r) Q := by
  show rx_aw 20 0 [.ref 66] [] (rx_tk L 66, hi, hl, r) Q
  refine rx_aw_s 6 (pc := 0) rfl ?_
  show rx_aw 20 13 [.ref 66] [] (rx_tk L 67, (ks7_i1 hi), (ks7_l1 hl), (ks7_r1 r)) Q
  refine rx_aw_s 3 (pc := 13) rfl ?_
  show rx_aw 20 18 [.ref 66] [] (rx_tk L 67, (ks7_i2 hi), (ks7_l1 hl), (ks7_r1 r)) Q
  exact rx_aw_ret (pc := 18) rfl k
def ks8_i1 (hi : Nat → Nat → Int32) : Nat → Nat → Int32 := (rx_row hi 69 (fun _ => 0))
def ks8_l1 (hl : Nat → Nat → Int64) : Nat → Nat → Int64 := (rx_row hl 69 (fun _ => 0))
def ks8_r1 (r : Nat → Nat → Option Nat) : Nat → Nat → Option Nat := (rx_u (rx_row r 69 (fun _ => none)) 68 0 (some 69))
def ks8_i2 (hi : Nat → Nat → Int32) : Nat → Nat → Int32 := (rx_u (ks8_i1 hi) 68 1 (0 : Int32))
set_option maxRecDepth 100000 in
theorem w20k8 {L : Nat} {hi : Nat → Nat → Int32} {hl : Nat → Nat → Int64} {r : Nat → Nat → Option Nat} {Q : Option Value → rx_H → Prop} (k : Q none (rx_tk L 69, (ks8_i2 hi), (ks8_l1 hl), (ks8_r1 r))) : rx_me 20 [.ref 68] (rx_tk L 68, hi, hl, r) Q := by
  show rx_aw 20 0 [.ref 68] [] (rx_tk L 68, hi, hl, r) Q
  refine rx_aw_s 6 (pc := 0) rfl ?_
  show rx_aw 20 13 [.ref 68] [] (rx_tk L 69, (ks8_i1 hi), (ks8_l1 hl), (ks8_r1 r)) Q
  refine rx_aw_s 3 (pc := 13) rfl ?_
  show rx_aw 20 18 [.ref 68] [] (rx_tk L 69, (ks8_i2 hi), (ks8_l1 hl), (ks8_r1 r)) Q
  exact rx_aw_ret (pc := 18) rfl k
def ks9_i1 (hi : Nat → Nat → Int32) : Nat → Nat → Int32 := (rx_row hi 71 (fun _ => 0))
def ks9_l1 (hl : Nat → Nat → Int64) : Nat → Nat → Int64 := (rx_row hl 71 (fun _ => 0))
def ks9_r1 (r : Nat → Nat → Option Nat) : Nat → Nat → Option Nat := (rx_u (rx_row r 71 (fun _ => none)) 70 0 (some 71))
def ks9_i2 (hi : Nat → Nat → Int32) : Nat → Nat → Int32 := (rx_u (ks9_i1 hi) 70 1 (0 : Int32))
set_option maxRecDepth 100000 in
theorem w20k9 {L : Nat} {hi : Nat → Nat → Int32} {hl : Nat → Nat → Int64} {r : Nat → Nat → Option Nat} {Q : Option Value → rx_H → Prop} (k : Q none (rx_tk L 71, (ks9_i2 hi), (ks9_l1 hl), (ks9_r1 r))) : rx_me 20 [.ref 70] (rx_tk L 70, hi, hl, r) Q := by
  show rx_aw 20 0 [.ref 70] [] (rx_tk L 70, hi, hl, r) Q
  refine rx_aw_s 6 (pc := 0) rfl ?_
  show rx_aw 20 13 [.ref 70] [] (rx_tk L 71, (ks9_i1 hi), (ks9_l1 hl), (ks9_r1 r)) Q
  refine rx_aw_s 3 (pc := 13) rfl ?_
  show rx_aw 20 18 [.ref 70] [] (rx_tk L 71, (ks9_i2 hi), (ks9_l1 hl), (ks9_r1 r)) Q
  exact rx_aw_ret (pc := 18) rfl k
def ks10_i1 (hi : Nat → Nat → Int32) : Nat → Nat → Int32 := (rx_row hi 73 (fun _ => 0))
def ks10_l1 (hl : Nat → Nat → Int64) : Nat → Nat → Int64 := (rx_row hl 73 (fun _ => 0))
def ks10_r1 (r : Nat → Nat → Option Nat) : Nat → Nat → Option Nat := (rx_u (rx_row r 73 (fun _ => none)) 72 0 (some 73))
def ks10_i2 (hi : Nat → Nat → Int32) : Nat → Nat → Int32 := (rx_u (ks10_i1 hi) 72 1 (0 : Int32))
set_option maxRecDepth 100000 in
theorem w20k10 {L : Nat} {hi : Nat → Nat → Int32} {hl : Nat → Nat → Int64} {r : Nat → Nat → Option Nat} {Q : Option Value → rx_H → Prop} (k : Q none (rx_tk L 73, (ks10_i2 hi), (ks10_l1 hl), (ks10_r1 r))) : rx_me 20 [.ref 72] (rx_tk L 72, hi, hl, r) Q := by
  show rx_aw 20 0 [.ref 72] [] (rx_tk L 72, hi, hl, r) Q
  refine rx_aw_s 6 (pc := 0) rfl ?_
  show rx_aw 20 13 [.ref 72] [] (rx_tk L 73, (ks10_i1 hi), (ks10_l1 hl), (ks10_r1 r)) Q
  refine rx_aw_s 3 (pc := 13) rfl ?_
  show rx_aw 20 18 [.ref 72] [] (rx_tk L 73, (ks10_i2 hi), (ks10_l1 hl), (ks10_r1 r)) Q
  exact rx_aw_ret (pc := 18) rfl k
def ks11_i1 (hi : Nat → Nat → Int32) : Nat → Nat → Int32 := (rx_row hi 75 (fun _ => 0))
def ks11_l1 (hl : Nat → Nat → Int64) : Nat → Nat → Int64 := (rx_row hl 75 (fun _ => 0))
def ks11_r1 (r : Nat → Nat → Option Nat) : Nat → Nat → Option Nat := (rx_u (rx_row r 75 (fun _ => none)) 74 0 (some 75))
def ks11_i2 (hi : Nat → Nat → Int32) : Nat → Nat → Int32 := (rx_u (ks11_i1 hi) 74 1 (0 : Int32))
set_option maxRecDepth 100000 in
theorem w20k11 {L : Nat} {hi : Nat → Nat → Int32} {hl : Nat → Nat → Int64} {r : Nat → Nat → Option Nat} {Q : Option Value → rx_H → Prop} (k : Q none (rx_tk L 75, (ks11_i2 hi), (ks11_l1 hl), (ks11_r1 r))) : rx_me 20 [.ref 74] (rx_tk L 74, hi, hl, r) Q := by
  show rx_aw 20 0 [.ref 74] [] (rx_tk L 74, hi, hl, r) Q
  refine rx_aw_s 6 (pc := 0) rfl ?_
  show rx_aw 20 13 [.ref 74] [] (rx_tk L 75, (ks11_i1 hi), (ks11_l1 hl), (ks11_r1 r)) Q
  refine rx_aw_s 3 (pc := 13) rfl ?_
  show rx_aw 20 18 [.ref 74] [] (rx_tk L 75, (ks11_i2 hi), (ks11_l1 hl), (ks11_r1 r)) Q
  exact rx_aw_ret (pc := 18) rfl k
