/-! The constructor of CartFloor. -/
def k1ai1 (hi : Nat → Nat → Int32) : Nat → Nat → Int32 := (rx_row hi 2 (fun _ => 0))
def k1al1 (hl : Nat → Nat → Int64) : Nat → Nat → Int64 := (rx_row hl 2 (fun _ => 0))
def k1ar1 (r : Nat → Nat → Option Nat) : Nat → Nat → Option Nat := (rx_row r 2 (fun _ => none))
def k1ai2 (hi : Nat → Nat → Int32) : Nat → Nat → Int32 := (k2i2 (k1ai1 hi))
def k1al2 (hl : Nat → Nat → Int64) : Nat → Nat → Int64 := (k2l2 (k1al1 hl))
def k1ar2 (r : Nat → Nat → Option Nat) : Nat → Nat → Option Nat := (k2r2 (k1ar1 r))
def k1ai3 (hi : Nat → Nat → Int32) : Nat → Nat → Int32 := (rx_row (k1ai2 hi) 5 (fun _ => 0))
def k1al3 (hl : Nat → Nat → Int64) : Nat → Nat → Int64 := (rx_row (k1al2 hl) 5 (fun _ => 0))
def k1ar3 (r : Nat → Nat → Option Nat) : Nat → Nat → Option Nat := (rx_row (rx_u (k1ar2 r) 1 5 (some 2)) 5 (fun _ => none))
def k1ai4 (hi : Nat → Nat → Int32) : Nat → Nat → Int32 := (k3i2 (k1ai3 hi))
def k1al4 (hl : Nat → Nat → Int64) : Nat → Nat → Int64 := (k3l1 (k1al3 hl))
def k1ar4 (r : Nat → Nat → Option Nat) : Nat → Nat → Option Nat := (k3r1 (k1ar3 r))
def k1ar5 (r : Nat → Nat → Option Nat) : Nat → Nat → Option Nat := (rx_u (k1ar4 r) 1 6 (some 5))
def k1ar6 (r : Nat → Nat → Option Nat) : Nat → Nat → Option Nat := (rx_u (k1ar5 r) 1 7 none)
def k1ai7 (hi : Nat → Nat → Int32) : Nat → Nat → Int32 := (rx_u (k1ai4 hi) 1 8 (0 : Int32))
def k1ai8 (hi : Nat → Nat → Int32) : Nat → Nat → Int32 := (rx_row (k1ai7 hi) 7 (fun _ => 0))
def k1al8 (hl : Nat → Nat → Int64) : Nat → Nat → Int64 := (rx_row (k1al4 hl) 7 (fun _ => 0))
def k1ar8 (r : Nat → Nat → Option Nat) : Nat → Nat → Option Nat := (rx_row (k1ar6 r) 7 (fun _ => none))
set_option maxRecDepth 100000 in
theorem w1a {L : Nat} {hi : Nat → Nat → Int32} {hl : Nat → Nat → Int64} {r : Nat → Nat → Option Nat} {Q : Option Value → rx_H → Prop} {x y : Int32} (k : rx_me 6 [.ref 7, .int (if (if (2 : Int32) < x then x else (2 : Int32)) < (8 : Int32) then (if (2 : Int32) < x then x else (2 : Int32)) else (8 : Int32)), .int (if (if (2 : Int32) < y then y else (2 : Int32)) < (8 : Int32) then (if (2 : Int32) < y then y else (2 : Int32)) else (8 : Int32))] (rx_tk L 7, (k1ai8 hi), (k1al8 hl), (k1ar8 r)) (fun r2 h2 => rx_aw 1 64 [.ref 1, .int x, .int y] (r2.toList ++ [.ref 7, .ref 1]) h2 Q)) : rx_me 1 [.ref 1, .int x, .int y] (rx_tk L 1, hi, hl, r) Q := by
  show rx_aw 1 0 [.ref 1, .int x, .int y] [] (rx_tk L 1, hi, hl, r) Q
  refine rx_aw_s 5 (pc := 0) rfl ?_
  show rx_aw 1 9 [.ref 1, .int x, .int y] [.ref 2, .ref 2, .ref 1] (rx_tk L 2, (k1ai1 hi), (k1al1 hl), (k1ar1 r)) Q
  refine rx_aw_call (j := 2) (pc := 9) rfl rfl rfl rfl rfl (w2k ?_)
  show rx_aw 1 12 [.ref 1, .int x, .int y] [.ref 2, .ref 1] (rx_tk L 4, (k2i2 (k1ai1 hi)), (k2l2 (k1al1 hl)), (k2r2 (k1ar1 r))) Q
  show rx_aw 1 12 [.ref 1, .int x, .int y] [.ref 2, .ref 1] (rx_tk L 4, (k1ai2 hi), (k1al2 hl), (k1ar2 r)) Q
  refine rx_aw_s 4 (pc := 12) rfl ?_
  show rx_aw 1 20 [.ref 1, .int x, .int y] [.ref 5, .ref 5, .ref 1] (rx_tk L 5, (k1ai3 hi), (k1al3 hl), (k1ar3 r)) Q
  refine rx_aw_call (j := 3) (pc := 20) rfl rfl rfl rfl rfl (w3k ?_)
  show rx_aw 1 23 [.ref 1, .int x, .int y] [.ref 5, .ref 1] (rx_tk L 6, (k3i2 (k1ai3 hi)), (k3l1 (k1al3 hl)), (k3r1 (k1ar3 r))) Q
  show rx_aw 1 23 [.ref 1, .int x, .int y] [.ref 5, .ref 1] (rx_tk L 6, (k1ai4 hi), (k1al4 hl), (k1ar4 r)) Q
  refine rx_aw_s 1 (pc := 23) rfl ?_
  show rx_aw 1 26 [.ref 1, .int x, .int y] [] (rx_tk L 6, (k1ai4 hi), (k1al4 hl), (k1ar5 r)) Q
  refine rx_aw_s 3 (pc := 26) rfl ?_
  show rx_aw 1 31 [.ref 1, .int x, .int y] [] (rx_tk L 6, (k1ai4 hi), (k1al4 hl), (k1ar6 r)) Q
  refine rx_aw_s 3 (pc := 31) rfl ?_
  show rx_aw 1 36 [.ref 1, .int x, .int y] [] (rx_tk L 6, (k1ai7 hi), (k1al4 hl), (k1ar6 r)) Q
  refine rx_aw_s 13 (pc := 36) rfl ?_
  show rx_aw 1 61 [.ref 1, .int x, .int y] [.int (if (if (2 : Int32) < y then y else (2 : Int32)) < (8 : Int32) then (if (2 : Int32) < y then y else (2 : Int32)) else (8 : Int32)), .int (if (if (2 : Int32) < x then x else (2 : Int32)) < (8 : Int32) then (if (2 : Int32) < x then x else (2 : Int32)) else (8 : Int32)), .ref 7, .ref 7, .ref 1] (rx_tk L 7, (k1ai8 hi), (k1al8 hl), (k1ar8 r)) Q
  exact rx_aw_call (j := 6) (pc := 61) rfl rfl rfl rfl rfl k
def k1br1 (r : Nat → Nat → Option Nat) : Nat → Nat → Option Nat := (rx_u r 1 0 (some 7))
def k1bi2 (hi : Nat → Nat → Int32) : Nat → Nat → Int32 := (rx_row hi 13 (fun _ => 0))
def k1bl2 (hl : Nat → Nat → Int64) : Nat → Nat → Int64 := (rx_row hl 13 (fun _ => 0))
def k1br2 (r : Nat → Nat → Option Nat) : Nat → Nat → Option Nat := (rx_row (k1br1 r) 13 (fun _ => none))
def k1bi3 (hi : Nat → Nat → Int32) : Nat → Nat → Int32 := (k18i59 (k1bi2 hi))
def k1bl3 (hl : Nat → Nat → Int64) : Nat → Nat → Int64 := (k18l59 (k1bl2 hl))
def k1br3 (r : Nat → Nat → Option Nat) : Nat → Nat → Option Nat := (k18r60 (k1br2 r))
def k1br4 (r : Nat → Nat → Option Nat) : Nat → Nat → Option Nat := (rx_u (k1br3 r) 1 1 (some 13))
def k1bi5 (hi : Nat → Nat → Int32) : Nat → Nat → Int32 := (rx_row (k1bi3 hi) 76 (fun _ => 0))
def k1bl5 (hl : Nat → Nat → Int64) : Nat → Nat → Int64 := (rx_row (k1bl3 hl) 76 (fun _ => 0))
def k1br5 (r : Nat → Nat → Option Nat) : Nat → Nat → Option Nat := (rx_row (k1br4 r) 76 (fun _ => none))
def k1bi6 (hi : Nat → Nat → Int32) : Nat → Nat → Int32 := (k21i2 (k1bi5 hi))
def k1bl6 (hl : Nat → Nat → Int64) : Nat → Nat → Int64 := (k21l2 (k1bl5 hl))
def k1br6 (r : Nat → Nat → Option Nat) : Nat → Nat → Option Nat := (k21r3 (k1br5 r))
def k1br7 (r : Nat → Nat → Option Nat) : Nat → Nat → Option Nat := (rx_u (k1br6 r) 1 2 (some 76))
def k1bi8 (hi : Nat → Nat → Int32) : Nat → Nat → Int32 := (rx_row (k1bi6 hi) 84 (fun _ => 0))
def k1bl8 (hl : Nat → Nat → Int64) : Nat → Nat → Int64 := (rx_row (k1bl6 hl) 84 (fun _ => 0))
def k1br8 (r : Nat → Nat → Option Nat) : Nat → Nat → Option Nat := (rx_row (k1br7 r) 84 (fun _ => none))
def k1bi9 (hi : Nat → Nat → Int32) : Nat → Nat → Int32 := (k23i4 (k1bi8 hi))
def k1bl9 (hl : Nat → Nat → Int64) : Nat → Nat → Int64 := (k23l3 (k1bl8 hl))
def k1br9 (r : Nat → Nat → Option Nat) : Nat → Nat → Option Nat := (k23r5 (k1br8 r))
def k1br10 (r : Nat → Nat → Option Nat) : Nat → Nat → Option Nat := (rx_u (k1br9 r) 1 3 (some 84))
def k1bi11 (hi : Nat → Nat → Int32) : Nat → Nat → Int32 := (rx_row (k1bi9 hi) 88 (fun _ => 0))
def k1bl11 (hl : Nat → Nat → Int64) : Nat → Nat → Int64 := (rx_row (k1bl9 hl) 88 (fun _ => 0))
def k1br11 (r : Nat → Nat → Option Nat) : Nat → Nat → Option Nat := (rx_row (k1br10 r) 88 (fun _ => none))
def k1bi12 (hi : Nat → Nat → Int32) : Nat → Nat → Int32 := (k24i1 (k1bi11 hi))
def k1bl12 (hl : Nat → Nat → Int64) : Nat → Nat → Int64 := (k24l1 (k1bl11 hl))
def k1br12 (r : Nat → Nat → Option Nat) : Nat → Nat → Option Nat := (k24r2 (k1br11 r))
def k1br13 (r : Nat → Nat → Option Nat) : Nat → Nat → Option Nat := (rx_u (k1br12 r) 1 4 (some 88))
set_option maxRecDepth 100000 in
theorem w1b {L : Nat} {hi : Nat → Nat → Int32} {hl : Nat → Nat → Int64} {r : Nat → Nat → Option Nat} {Q : Option Value → rx_H → Prop} {x y : Int32} (k : Q none (rx_tk L 89, (k1bi12 hi), (k1bl12 hl), (k1br13 r))) : rx_aw 1 64 [.ref 1, .int x, .int y] [.ref 7, .ref 1] (rx_tk L 12, hi, hl, r) Q := by
  refine rx_aw_s 1 (pc := 64) rfl ?_
  show rx_aw 1 67 [.ref 1, .int x, .int y] [] (rx_tk L 12, hi, hl, (k1br1 r)) Q
  refine rx_aw_s 5 (pc := 67) rfl ?_
  show rx_aw 1 76 [.ref 1, .int x, .int y] [.ref 7, .ref 13, .ref 13, .ref 1] (rx_tk L 13, (k1bi2 hi), (k1bl2 hl), (k1br2 r)) Q
  refine rx_aw_call (j := 18) (pc := 76) rfl rfl rfl rfl rfl (w18k ?_)
  show rx_aw 1 79 [.ref 1, .int x, .int y] [.ref 13, .ref 1] (rx_tk L 75, (k18i59 (k1bi2 hi)), (k18l59 (k1bl2 hl)), (k18r60 (k1br2 r))) Q
  show rx_aw 1 79 [.ref 1, .int x, .int y] [.ref 13, .ref 1] (rx_tk L 75, (k1bi3 hi), (k1bl3 hl), (k1br3 r)) Q
  refine rx_aw_s 1 (pc := 79) rfl ?_
  show rx_aw 1 82 [.ref 1, .int x, .int y] [] (rx_tk L 75, (k1bi3 hi), (k1bl3 hl), (k1br4 r)) Q
  refine rx_aw_s 7 (pc := 82) rfl ?_
  show rx_aw 1 95 [.ref 1, .int x, .int y] [.ref 13, .ref 7, .ref 76, .ref 76, .ref 1] (rx_tk L 76, (k1bi5 hi), (k1bl5 hl), (k1br5 r)) Q
  refine rx_aw_call (j := 21) (pc := 95) rfl rfl rfl rfl rfl (w21k ?_)
  show rx_aw 1 98 [.ref 1, .int x, .int y] [.ref 76, .ref 1] (rx_tk L 83, (k21i2 (k1bi5 hi)), (k21l2 (k1bl5 hl)), (k21r3 (k1br5 r))) Q
  show rx_aw 1 98 [.ref 1, .int x, .int y] [.ref 76, .ref 1] (rx_tk L 83, (k1bi6 hi), (k1bl6 hl), (k1br6 r)) Q
  refine rx_aw_s 1 (pc := 98) rfl ?_
  show rx_aw 1 101 [.ref 1, .int x, .int y] [] (rx_tk L 83, (k1bi6 hi), (k1bl6 hl), (k1br7 r)) Q
  refine rx_aw_s 7 (pc := 101) rfl ?_
  show rx_aw 1 114 [.ref 1, .int x, .int y] [.ref 13, .ref 7, .ref 84, .ref 84, .ref 1] (rx_tk L 84, (k1bi8 hi), (k1bl8 hl), (k1br8 r)) Q
  refine rx_aw_call (j := 23) (pc := 114) rfl rfl rfl rfl rfl (w23k ?_)
  show rx_aw 1 117 [.ref 1, .int x, .int y] [.ref 84, .ref 1] (rx_tk L 87, (k23i4 (k1bi8 hi)), (k23l3 (k1bl8 hl)), (k23r5 (k1br8 r))) Q
  show rx_aw 1 117 [.ref 1, .int x, .int y] [.ref 84, .ref 1] (rx_tk L 87, (k1bi9 hi), (k1bl9 hl), (k1br9 r)) Q
  refine rx_aw_s 1 (pc := 117) rfl ?_
  show rx_aw 1 120 [.ref 1, .int x, .int y] [] (rx_tk L 87, (k1bi9 hi), (k1bl9 hl), (k1br10 r)) Q
  refine rx_aw_s 5 (pc := 120) rfl ?_
  show rx_aw 1 129 [.ref 1, .int x, .int y] [.ref 7, .ref 88, .ref 88, .ref 1] (rx_tk L 88, (k1bi11 hi), (k1bl11 hl), (k1br11 r)) Q
  refine rx_aw_call (j := 24) (pc := 129) rfl rfl rfl rfl rfl (w24k ?_)
  show rx_aw 1 132 [.ref 1, .int x, .int y] [.ref 88, .ref 1] (rx_tk L 89, (k24i1 (k1bi11 hi)), (k24l1 (k1bl11 hl)), (k24r2 (k1br11 r))) Q
  show rx_aw 1 132 [.ref 1, .int x, .int y] [.ref 88, .ref 1] (rx_tk L 89, (k1bi12 hi), (k1bl12 hl), (k1br12 r)) Q
  refine rx_aw_s 1 (pc := 132) rfl ?_
  show rx_aw 1 135 [.ref 1, .int x, .int y] [] (rx_tk L 89, (k1bi12 hi), (k1bl12 hl), (k1br13 r)) Q
  exact rx_aw_ret (pc := 135) rfl k
