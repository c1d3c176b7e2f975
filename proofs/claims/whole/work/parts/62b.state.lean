/-! The state of a floor, as rows of numbers: 0: width, height, carts, SHELVES; 1 ground; 2 missing; by cart: 3 kind, 4 END, 5 END SQUARE and 1, 6 freight and 1, 7 planned, 8 fate, 9 first STANCE; 12 first square of each SHELF; 20 + c: the WAY of cart c. -/
abbrev cf_S : Type := Nat → Nat → Nat
abbrev cf_sw (S : cf_S) : Nat := S 0 0
abbrev cf_sh (S : cf_S) : Nat := S 0 1
abbrev cf_sn (S : cf_S) : Nat := S 0 2
abbrev cf_sm (S : cf_S) : Nat := S 0 3
/-- two squares -/
def cf_two (k : Nat) : Bool := decide (2 ≤ k)
/-- the least number below n with p, and 1; 0 if there is none -/
def cf_ff (p : Nat → Bool) : Nat → Nat
  | 0 => 0
  | k + 1 => if cf_ff p k = 0 then (bif p k then k + 1 else 0) else cf_ff p k
/-- the square of the last cart that carries a SHELF, or the one given -/
def cf_car (st : Nat → Nat) (s d : Nat) : Nat → Nat
  | 0 => d
  | c + 1 => if st c / 256 = s + 1 then st c % 64 else cf_car st s d c
/-- some number below n has p -/
def cf_any (p : Nat → Bool) : Nat → Bool
  | 0 => false
  | k + 1 => cf_any p k || p k
/-- the union of sets -/
def cf_un (f : Nat → Int64) : Nat → Int64
  | 0 => 0
  | k + 1 => cf_un f k ||| f k
/-- the greatest of numbers -/
def cf_mx (f : Nat → Nat) : Nat → Nat
  | 0 => 0
  | k + 1 => max (cf_mx f k) (f k)
def cf_sum (f : Nat → Nat) : Nat → Nat
  | 0 => 0
  | k + 1 => cf_sum f k + f k
/-- the SHELF (and 1) that lies on a square and is carried by none -/
def cf_lie (n m : Nat) (st sp : Nat → Nat) (q : Nat) : Nat :=
  cf_ff (fun s => decide (sp s = q) && !cf_any (fun c => decide (st c / 256 = s + 1)) n) m
/-- the STANCE behind a MOVE; l: the SHELF (and 1) that could be lifted -/
def cf_aft (w h : Nat) (gr : Nat → Nat) (k s m l : Nat) : Option Nat :=
  if m ≤ 4 then (cf_mv w h (cf_two k) s m).map (fun r => s / 256 * 256 + r)
  else if k = 1 then
    (if m = 5 then (if s / 256 = 0 ∧ 0 < l then some (s % 256 + 256 * l) else none)
     else (if 0 < s / 256 ∧ gr (s % 64) = 2 then some (s % 256) else none))
  else none
/-- the MOVE of a cart from a tick on -/
def cf_mt (S : cf_S) (c t : Nat) : Nat := if t < S 4 c then S (20 + c) t else 0
/-- what a cart's MOVE leads to, all STANCES and squares of SHELVES being given -/
def cf_nx (S : cf_S) (W : (Nat → Nat) × (Nat → Nat)) (t c : Nat) : Option Nat :=
  cf_aft (S 0 0) (S 0 1) (S 1) (S 3 c) (W.1 c) (cf_mt S c t) (cf_lie (S 0 2) (S 0 3) W.1 W.2 (W.1 c % 64))
/-- all STANCES and all squares of SHELVES, by tick -/
def cf_w (S : cf_S) : Nat → (Nat → Nat) × (Nat → Nat)
  | 0 => (S 9, S 12)
  | t + 1 => (fun c => (cf_nx S (cf_w S t) t c).getD ((cf_w S t).1 c), fun s => cf_car (fun c => (cf_nx S (cf_w S t) t c).getD ((cf_w S t).1 c)) s ((cf_w S t).2 s) (S 0 2))
def cf_st (S : cf_S) (t c : Nat) : Nat := (cf_w S t).1 c
def cf_sp (S : cf_S) (t s : Nat) : Nat := (cf_w S t).2 s
def cf_made (S : cf_S) (t c : Nat) : Bool := (cf_nx S (cf_w S t) t c).isSome
/-- what a cart stands on at a tick -/
def cf_sd (S : cf_S) (t c : Nat) : Int64 := cf_std (S 0 0) (S 0 1) (cf_two (S 3 c)) (cf_st S t c)
/-- the squares of a turn, by kind, STANCE and MOVE -/
def cf_tq (w h k s m : Nat) : Int64 := bif cf_two k && (decide (m = 3) || decide (m = 4)) then cf_four w h s m else 0
def cf_td (S : cf_S) (t c : Nat) : Int64 := cf_tq (S 0 0) (S 0 1) (S 3 c) (cf_st S t c) (cf_mt S c t)
/-- what a cart HOLDS at a tick -/
def cf_hd (S : cf_S) (t c : Nat) : Int64 := cf_sd S t c ||| cf_td S t c ||| (if t = 0 then 0 else cf_td S (t - 1) c)
/-- nothing changes from this tick on -/
def cf_set (S : cf_S) : Nat := cf_mx (S 4) (S 0 2) + 1
/-- BARRED -/
def cf_isb (S : cf_S) (q : Nat) : Bool := decide (S 1 q = 1) || decide (S 2 (q / S 0 0) = 1)
def cf_bar (S : cf_S) : Int64 := cf_un (fun q => bif cf_isb S q then cf_bt q else 0) (S 0 0 * S 0 1)
/-- the squares of all SHELVES but one (given with 1 more) -/
def cf_sq (S : cf_S) (t x : Nat) : Int64 := cf_un (fun s => if s + 1 = x then 0 else cf_bt (cf_sp S t s)) (S 0 3)
/-- whether two carts change places -/
def cf_swap (a b c d : Int64) : Bool := decide (¬ (a &&& d) = 0) && decide (¬ (b &&& c) = 0) && (decide (¬ (a &&& d) = (b &&& c)) || decide (¬ ((a &&& d) &&& ((a &&& d) - 1)) = 0))
