/-! The constructors of the small classes, walked by program (gen/ctor.py): cells by number. -/
def k2i1 (hi : Nat → Nat → Int32) : Nat → Nat → Int32 := (rx_row hi 3 (fun _ => 0))
def k2l1 (hl : Nat → Nat → Int64) : Nat → Nat → Int64 := (rx_row hl 3 (fun _ => 0))
def k2r1 (r : Nat → Nat → Option Nat) : Nat → Nat → Option Nat := (rx_u (rx_row r 3 (fun _ => none)) 2 0 (some 3))
def k2i2 (hi : Nat → Nat → Int32) : Nat → Nat → Int32 := (rx_row (k2i1 hi) 4 (fun _ => 0))
def k2l2 (hl : Nat → Nat → Int64) : Nat → Nat → Int64 := (rx_row (k2l1 hl) 4 (fun _ => 0))
def k2r2 (r : Nat → Nat → Option Nat) : Nat → Nat → Option Nat := (rx_u (rx_row (k2r1 r) 4 (fun _ => none)) 2 1 (some 4))
set_option maxRecDepth 100000 in
theorem w2k {L : Nat} {hi : Nat → Nat → Int32} {hl : Nat → Nat → Int64} {r : Nat → Nat → Option Nat} {Q : Option Value → rx_H → Prop} (k : Q none (rx_tk L 4, (k2i2 hi), (k2l2 hl), (k2r2 r))) : rx_me 2 [.ref 2] (rx_tk L 2, hi, hl, r) Q := by
  show rx_aw 2 0 [.ref 2] [] (rx_tk L 2, hi, hl, r) Q
  refine rx_aw_s 6 (pc := 0) rfl ?_
  show rx_aw 2 12 [.ref 2] [] (rx_tk L 3, (k2i1 hi), (k2l1 hl), (k2r1 r)) Q
  refine rx_aw_s 4 (pc := 12) rfl ?_
  show rx_aw 2 20 [.ref 2] [] (rx_tk L 4, (k2i2 hi), (k2l2 hl), (k2r2 r)) Q
  exact rx_aw_ret (pc := 20) rfl k
def k3i1 (hi : Nat → Nat → Int32) : Nat → Nat → Int32 := (rx_row hi 6 (fun _ => 0))
def k3l1 (hl : Nat → Nat → Int64) : Nat → Nat → Int64 := (rx_row hl 6 (fun _ => 0))
def k3r1 (r : Nat → Nat → Option Nat) : Nat → Nat → Option Nat := (rx_u (rx_row r 6 (fun _ => none)) 5 0 (some 6))
def k3i2 (hi : Nat → Nat → Int32) : Nat → Nat → Int32 := (rx_u (rx_u (k3i1 hi) 5 1 (0 : Int32)) 5 2 (-1 : Int32))
set_option maxRecDepth 100000 in
theorem w3k {L : Nat} {hi : Nat → Nat → Int32} {hl : Nat → Nat → Int64} {r : Nat → Nat → Option Nat} {Q : Option Value → rx_H → Prop} (k : Q none (rx_tk L 6, (k3i2 hi), (k3l1 hl), (k3r1 r))) : rx_me 3 [.ref 5] (rx_tk L 5, hi, hl, r) Q := by
  show rx_aw 3 0 [.ref 5] [] (rx_tk L 5, hi, hl, r) Q
  refine rx_aw_s 6 (pc := 0) rfl ?_
  show rx_aw 3 13 [.ref 5] [] (rx_tk L 6, (k3i1 hi), (k3l1 hl), (k3r1 r)) Q
  refine rx_aw_s 6 (pc := 13) rfl ?_
  show rx_aw 3 23 [.ref 5] [] (rx_tk L 6, (k3i2 hi), (k3l1 hl), (k3r1 r)) Q
  exact rx_aw_ret (pc := 23) rfl k
def k22i1 (hi : Nat → Nat → Int32) : Nat → Nat → Int32 := (rx_row hi 78 (fun _ => 0))
def k22l1 (hl : Nat → Nat → Int64) : Nat → Nat → Int64 := (rx_row hl 78 (fun _ => 0))
def k22r1 (r : Nat → Nat → Option Nat) : Nat → Nat → Option Nat := (rx_u (rx_row r 78 (fun _ => none)) 77 2 (some 78))
def k22i2 (hi : Nat → Nat → Int32) : Nat → Nat → Int32 := (rx_row (k22i1 hi) 79 (fun _ => 0))
def k22l2 (hl : Nat → Nat → Int64) : Nat → Nat → Int64 := (rx_row (k22l1 hl) 79 (fun _ => 0))
def k22r2 (r : Nat → Nat → Option Nat) : Nat → Nat → Option Nat := (rx_u (rx_row (k22r1 r) 79 (fun _ => none)) 77 3 (some 79))
def k22i3 (hi : Nat → Nat → Int32) : Nat → Nat → Int32 := (rx_row (k22i2 hi) 80 (fun _ => 0))
def k22l3 (hl : Nat → Nat → Int64) : Nat → Nat → Int64 := (rx_row (k22l2 hl) 80 (fun _ => 0))
def k22r3 (r : Nat → Nat → Option Nat) : Nat → Nat → Option Nat := (rx_u (rx_row (k22r2 r) 80 (fun _ => none)) 77 4 (some 80))
def k22i4 (hi : Nat → Nat → Int32) : Nat → Nat → Int32 := (rx_row (k22i3 hi) 81 (fun _ => 0))
def k22l4 (hl : Nat → Nat → Int64) : Nat → Nat → Int64 := (rx_row (k22l3 hl) 81 (fun _ => 0))
def k22r4 (r : Nat → Nat → Option Nat) : Nat → Nat → Option Nat := (rx_u (rx_row (k22r3 r) 81 (fun _ => none)) 77 5 (some 81))
def k22i5 (hi : Nat → Nat → Int32) : Nat → Nat → Int32 := (rx_row (k22i4 hi) 82 (fun _ => 0))
def k22l5 (hl : Nat → Nat → Int64) : Nat → Nat → Int64 := (rx_row (k22l4 hl) 82 (fun _ => 0))
def k22r5 (r : Nat → Nat → Option Nat) : Nat → Nat → Option Nat := (rx_u (rx_row (k22r4 r) 82 (fun _ => none)) 77 6 (some 82))
def k22i6 (hi : Nat → Nat → Int32) : Nat → Nat → Int32 := (rx_row (k22i5 hi) 83 (fun _ => 0))
def k22l6 (hl : Nat → Nat → Int64) : Nat → Nat → Int64 := (rx_row (k22l5 hl) 83 (fun _ => 0))
def k22r6 (r : Nat → Nat → Option Nat) : Nat → Nat → Option Nat := (rx_u (rx_row (k22r5 r) 83 (fun _ => none)) 77 7 (some 83))
def k22i7 (hi : Nat → Nat → Int32) : Nat → Nat → Int32 := (rx_u (k22i6 hi) 77 9 (0 : Int32))
def k22r7 (r : Nat → Nat → Option Nat) : Nat → Nat → Option Nat := (rx_u (k22r6 r) 77 8 none)
def k22i8 (hi : Nat → Nat → Int32) : Nat → Nat → Int32 := (rx_u (rx_u (k22i7 hi) 77 10 (0 : Int32)) 77 11 (-1 : Int32))
def k22i9 (hi : Nat → Nat → Int32) : Nat → Nat → Int32 := (rx_u (rx_u (k22i8 hi) 77 12 (0 : Int32)) 77 13 (0 : Int32))
def k22r10 (r : Nat → Nat → Option Nat) : Nat → Nat → Option Nat := (rx_u (rx_u (k22r7 r) 77 0 (some 7)) 77 1 (some 13))
set_option maxRecDepth 100000 in
theorem w22k {L : Nat} {hi : Nat → Nat → Int32} {hl : Nat → Nat → Int64} {r : Nat → Nat → Option Nat} {Q : Option Value → rx_H → Prop} (k : Q none (rx_tk L 83, (k22i9 hi), (k22l6 hl), (k22r10 r))) : rx_me 22 [.ref 77, .ref 7, .ref 13] (rx_tk L 77, hi, hl, r) Q := by
  show rx_aw 22 0 [.ref 77, .ref 7, .ref 13] [] (rx_tk L 77, hi, hl, r) Q
  refine rx_aw_s 6 (pc := 0) rfl ?_
  show rx_aw 22 13 [.ref 77, .ref 7, .ref 13] [] (rx_tk L 78, (k22i1 hi), (k22l1 hl), (k22r1 r)) Q
  refine rx_aw_s 4 (pc := 13) rfl ?_
  show rx_aw 22 22 [.ref 77, .ref 7, .ref 13] [] (rx_tk L 79, (k22i2 hi), (k22l2 hl), (k22r2 r)) Q
  refine rx_aw_s 4 (pc := 22) rfl ?_
  show rx_aw 22 31 [.ref 77, .ref 7, .ref 13] [] (rx_tk L 80, (k22i3 hi), (k22l3 hl), (k22r3 r)) Q
  refine rx_aw_s 4 (pc := 31) rfl ?_
  show rx_aw 22 40 [.ref 77, .ref 7, .ref 13] [] (rx_tk L 81, (k22i4 hi), (k22l4 hl), (k22r4 r)) Q
  refine rx_aw_s 4 (pc := 40) rfl ?_
  show rx_aw 22 49 [.ref 77, .ref 7, .ref 13] [] (rx_tk L 82, (k22i5 hi), (k22l5 hl), (k22r5 r)) Q
  refine rx_aw_s 4 (pc := 49) rfl ?_
  show rx_aw 22 56 [.ref 77, .ref 7, .ref 13] [] (rx_tk L 83, (k22i6 hi), (k22l6 hl), (k22r6 r)) Q
  refine rx_aw_s 6 (pc := 56) rfl ?_
  show rx_aw 22 66 [.ref 77, .ref 7, .ref 13] [] (rx_tk L 83, (k22i7 hi), (k22l6 hl), (k22r7 r)) Q
  refine rx_aw_s 6 (pc := 66) rfl ?_
  show rx_aw 22 76 [.ref 77, .ref 7, .ref 13] [] (rx_tk L 83, (k22i8 hi), (k22l6 hl), (k22r7 r)) Q
  refine rx_aw_s 6 (pc := 76) rfl ?_
  show rx_aw 22 86 [.ref 77, .ref 7, .ref 13] [] (rx_tk L 83, (k22i9 hi), (k22l6 hl), (k22r7 r)) Q
  refine rx_aw_s 6 (pc := 86) rfl ?_
  show rx_aw 22 96 [.ref 77, .ref 7, .ref 13] [] (rx_tk L 83, (k22i9 hi), (k22l6 hl), (k22r10 r)) Q
  exact rx_aw_ret (pc := 96) rfl k
def k23i1 (hi : Nat → Nat → Int32) : Nat → Nat → Int32 := (rx_row hi 85 (fun _ => 0))
def k23l1 (hl : Nat → Nat → Int64) : Nat → Nat → Int64 := (rx_row hl 85 (fun _ => 0))
def k23r1 (r : Nat → Nat → Option Nat) : Nat → Nat → Option Nat := (rx_u (rx_row r 85 (fun _ => none)) 84 2 (some 85))
def k23i2 (hi : Nat → Nat → Int32) : Nat → Nat → Int32 := (rx_row (k23i1 hi) 86 (fun _ => 0))
def k23l2 (hl : Nat → Nat → Int64) : Nat → Nat → Int64 := (rx_row (k23l1 hl) 86 (fun _ => 0))
def k23r2 (r : Nat → Nat → Option Nat) : Nat → Nat → Option Nat := (rx_u (rx_row (k23r1 r) 86 (fun _ => none)) 84 3 (some 86))
def k23i3 (hi : Nat → Nat → Int32) : Nat → Nat → Int32 := (rx_row (k23i2 hi) 87 (fun _ => 0))
def k23l3 (hl : Nat → Nat → Int64) : Nat → Nat → Int64 := (rx_row (k23l2 hl) 87 (fun _ => 0))
def k23r3 (r : Nat → Nat → Option Nat) : Nat → Nat → Option Nat := (rx_u (rx_row (k23r2 r) 87 (fun _ => none)) 84 4 (some 87))
def k23i4 (hi : Nat → Nat → Int32) : Nat → Nat → Int32 := (rx_u (k23i3 hi) 84 5 (0 : Int32))
def k23r4 (r : Nat → Nat → Option Nat) : Nat → Nat → Option Nat := (rx_u (k23r3 r) 84 0 (some 7))
def k23r5 (r : Nat → Nat → Option Nat) : Nat → Nat → Option Nat := (rx_u (k23r4 r) 84 1 (some 13))
set_option maxRecDepth 100000 in
theorem w23k {L : Nat} {hi : Nat → Nat → Int32} {hl : Nat → Nat → Int64} {r : Nat → Nat → Option Nat} {Q : Option Value → rx_H → Prop} (k : Q none (rx_tk L 87, (k23i4 hi), (k23l3 hl), (k23r5 r))) : rx_me 23 [.ref 84, .ref 7, .ref 13] (rx_tk L 84, hi, hl, r) Q := by
  show rx_aw 23 0 [.ref 84, .ref 7, .ref 13] [] (rx_tk L 84, hi, hl, r) Q
  refine rx_aw_s 6 (pc := 0) rfl ?_
  show rx_aw 23 13 [.ref 84, .ref 7, .ref 13] [] (rx_tk L 85, (k23i1 hi), (k23l1 hl), (k23r1 r)) Q
  refine rx_aw_s 4 (pc := 13) rfl ?_
  show rx_aw 23 21 [.ref 84, .ref 7, .ref 13] [] (rx_tk L 86, (k23i2 hi), (k23l2 hl), (k23r2 r)) Q
  refine rx_aw_s 4 (pc := 21) rfl ?_
  show rx_aw 23 29 [.ref 84, .ref 7, .ref 13] [] (rx_tk L 87, (k23i3 hi), (k23l3 hl), (k23r3 r)) Q
  refine rx_aw_s 6 (pc := 29) rfl ?_
  show rx_aw 23 39 [.ref 84, .ref 7, .ref 13] [] (rx_tk L 87, (k23i4 hi), (k23l3 hl), (k23r4 r)) Q
  refine rx_aw_s 3 (pc := 39) rfl ?_
  show rx_aw 23 44 [.ref 84, .ref 7, .ref 13] [] (rx_tk L 87, (k23i4 hi), (k23l3 hl), (k23r5 r)) Q
  exact rx_aw_ret (pc := 44) rfl k
def k24i1 (hi : Nat → Nat → Int32) : Nat → Nat → Int32 := (rx_row hi 89 (fun _ => 0))
def k24l1 (hl : Nat → Nat → Int64) : Nat → Nat → Int64 := (rx_row hl 89 (fun _ => 0))
def k24r1 (r : Nat → Nat → Option Nat) : Nat → Nat → Option Nat := (rx_u (rx_row r 89 (fun _ => none)) 88 1 (some 89))
def k24r2 (r : Nat → Nat → Option Nat) : Nat → Nat → Option Nat := (rx_u (k24r1 r) 88 0 (some 7))
set_option maxRecDepth 100000 in
theorem w24k {L : Nat} {hi : Nat → Nat → Int32} {hl : Nat → Nat → Int64} {r : Nat → Nat → Option Nat} {Q : Option Value → rx_H → Prop} (k : Q none (rx_tk L 89, (k24i1 hi), (k24l1 hl), (k24r2 r))) : rx_me 24 [.ref 88, .ref 7] (rx_tk L 88, hi, hl, r) Q := by
  show rx_aw 24 0 [.ref 88, .ref 7] [] (rx_tk L 88, hi, hl, r) Q
  refine rx_aw_s 6 (pc := 0) rfl ?_
  show rx_aw 24 12 [.ref 88, .ref 7] [] (rx_tk L 89, (k24i1 hi), (k24l1 hl), (k24r1 r)) Q
  refine rx_aw_s 3 (pc := 12) rfl ?_
  show rx_aw 24 17 [.ref 88, .ref 7] [] (rx_tk L 89, (k24i1 hi), (k24l1 hl), (k24r2 r)) Q
  exact rx_aw_ret (pc := 17) rfl k
def k21i1 (hi : Nat → Nat → Int32) : Nat → Nat → Int32 := (rx_row (rx_u hi 76 3 (0 : Int32)) 77 (fun _ => 0))
def k21l1 (hl : Nat → Nat → Int64) : Nat → Nat → Int64 := (rx_row hl 77 (fun _ => 0))
def k21r1 (r : Nat → Nat → Option Nat) : Nat → Nat → Option Nat := (rx_row (rx_u (rx_u r 76 0 (some 7)) 76 1 (some 13)) 77 (fun _ => none))
def k21i2 (hi : Nat → Nat → Int32) : Nat → Nat → Int32 := (k22i9 (k21i1 hi))
def k21l2 (hl : Nat → Nat → Int64) : Nat → Nat → Int64 := (k22l6 (k21l1 hl))
def k21r2 (r : Nat → Nat → Option Nat) : Nat → Nat → Option Nat := (k22r10 (k21r1 r))
def k21r3 (r : Nat → Nat → Option Nat) : Nat → Nat → Option Nat := (rx_u (k21r2 r) 76 2 (some 77))
set_option maxRecDepth 100000 in
theorem w21k {L : Nat} {hi : Nat → Nat → Int32} {hl : Nat → Nat → Int64} {r : Nat → Nat → Option Nat} {Q : Option Value → rx_H → Prop} (k : Q none (rx_tk L 83, (k21i2 hi), (k21l2 hl), (k21r3 r))) : rx_me 21 [.ref 76, .ref 7, .ref 13] (rx_tk L 76, hi, hl, r) Q := by
  show rx_aw 21 0 [.ref 76, .ref 7, .ref 13] [] (rx_tk L 76, hi, hl, r) Q
  refine rx_aw_s 16 (pc := 0) rfl ?_
  show rx_aw 21 26 [.ref 76, .ref 7, .ref 13] [.ref 13, .ref 7, .ref 77, .ref 77, .ref 76] (rx_tk L 77, (k21i1 hi), (k21l1 hl), (k21r1 r)) Q
  refine rx_aw_call (j := 22) (pc := 26) rfl rfl rfl rfl rfl (w22k ?_)
  show rx_aw 21 29 [.ref 76, .ref 7, .ref 13] [.ref 77, .ref 76] (rx_tk L 83, (k22i9 (k21i1 hi)), (k22l6 (k21l1 hl)), (k22r10 (k21r1 r))) Q
  show rx_aw 21 29 [.ref 76, .ref 7, .ref 13] [.ref 77, .ref 76] (rx_tk L 83, (k21i2 hi), (k21l2 hl), (k21r2 r)) Q
  refine rx_aw_s 1 (pc := 29) rfl ?_
  show rx_aw 21 32 [.ref 76, .ref 7, .ref 13] [] (rx_tk L 83, (k21i2 hi), (k21l2 hl), (k21r3 r)) Q
  exact rx_aw_ret (pc := 32) rfl k
