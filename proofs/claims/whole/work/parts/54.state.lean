/-! The references that never change once the constructors are through; a heap in that form. -/
def rx_fx1 : List (Option Nat) := [some 7, some 13, some 76, some 84, some 88, some 2, some 5]
def rx_fx2 : List (Option Nat) := [some 3, some 4]
def rx_fx5 : List (Option Nat) := [some 6]
def rx_fx7 : List (Option Nat) := [none, none, none, none, none, some 8, some 9, some 10, some 11, some 12]
def rx_fx13 : List (Option Nat) := [some 7, some 14, some 15]
def rx_fx76 : List (Option Nat) := [some 7, some 13, some 77]
def rx_fx77 : List (Option Nat) := [some 7, some 13, some 78, some 79, some 80, some 81, some 82, some 83]
def rx_fx84 : List (Option Nat) := [some 7, some 13, some 85, some 86, some 87]
def rx_fx88 : List (Option Nat) := [some 7, some 89]
def rx_fx90 : List (Option Nat) := [none, none, none, some 91, some 92, none, none, some 93, some 94, some 95, some 96, some 97, some 98, some 99, some 100, some 101, some 102, some 103, some 104, some 105, some 106, none, some 107, some 108, some 109, none, some 110, some 111, some 112, some 113, none, none, some 114, none, none, none, none, some 115, some 116, some 117, some 118, some 119, some 120, none, some 121, some 122, some 123, some 124, none, some 125, none, some 126, some 127, none, some 128, some 129, some 130, some 131, some 132, some 133]
def rx_fx134 : List (Option Nat) := [some 7, some 13, some 135, some 136, some 137, some 138, some 139, some 140, some 141, some 142]
/-- by cell and field (or place): what it refers to for good; cart i is the cell 16 + 6 i, SHELF i the cell 52 + 2 i -/
def rx_fixd (i k : Nat) : Option Nat := match i with
  | 1 => rx_fx1.getD k none
  | 2 => rx_fx2.getD k none
  | 5 => rx_fx5.getD k none
  | 7 => rx_fx7.getD k none
  | 13 => rx_fx13.getD k none
  | 76 => rx_fx76.getD k none
  | 77 => rx_fx77.getD k none
  | 84 => rx_fx84.getD k none
  | 88 => rx_fx88.getD k none
  | 90 => rx_fx90.getD k none
  | 134 => rx_fx134.getD k none
  | 14 => bif Nat.blt k 6 then some (16 + 6 * k) else none
  | 15 => bif Nat.blt k 12 then some (52 + 2 * k) else none
  | i => bif Nat.ble 16 i && Nat.blt i 52 && Nat.beq ((i - 16) % 6) 0 && Nat.blt k 5 then some (i + 1 + k) else bif Nat.ble 52 i && Nat.blt i 76 && Nat.beq ((i - 52) % 2) 0 && Nat.beq k 0 then some (i + 1) else none
def rx_hr (v : Nat → Nat → Option Nat) : Nat → Nat → Option Nat := fun i k => match rx_fixd i k with
  | some q => some q
  | none => v i k
/-- the heap behind the constructors: L ints in the script, the Trio's cells t, what the fields and arrays hold -/
def rx_hp (L : Nat) (t : List (Nat × Nat)) (hi : Nat → Nat → Int32) (hl : Nat → Nat → Int64) (v : Nat → Nat → Option Nat) : rx_H := (rx_sh L t, hi, hl, rx_hr v)
theorem rx_hr_u {v : Nat → Nat → Option Nat} {i k : Nat} {x : Option Nat} (h : rx_fixd i k = none) : rx_u (rx_hr v) i k x = rx_hr (rx_u v i k x) := by
  funext a b
  unfold rx_u rx_hr
  by_cases ha : a = i
  · subst ha
    rw [if_pos rfl]
    dsimp only
    by_cases hb : b = k
    · subst hb
      rw [if_pos rfl, h]
      dsimp only
      rw [if_pos rfl]
      exact (if_pos rfl).symm
    · rw [if_neg hb]
      cases rx_fixd a b with
      | some q => rfl
      | none =>
        dsimp only
        rw [if_pos rfl]
        exact (if_neg hb).symm
  · rw [if_neg ha]
    cases rx_fixd a b with
    | some q => rfl
    | none =>
      dsimp only
      rw [if_neg ha]
theorem rx_hr_self {v : Nat → Nat → Option Nat} (h : ∀ i k q, rx_fixd i k = some q → v i k = some q) : rx_hr v = v := by
  funext a b
  unfold rx_hr
  cases hq : rx_fixd a b with
  | some q => exact (h a b q hq).symm
  | none => rfl
theorem rx_hp_si {L : Nat} {t : List (Nat × Nat)} {hi : Nat → Nat → Int32} {hl : Nat → Nat → Int64} {v : Nat → Nat → Option Nat} {i k : Nat} {x : Int32} : rx_si (rx_hp L t hi hl v) i k x = rx_hp L t (rx_u hi i k x) hl v := rfl
theorem rx_hp_sl {L : Nat} {t : List (Nat × Nat)} {hi : Nat → Nat → Int32} {hl : Nat → Nat → Int64} {v : Nat → Nat → Option Nat} {i k : Nat} {x : Int64} : rx_sl (rx_hp L t hi hl v) i k x = rx_hp L t hi (rx_u hl i k x) v := rfl
theorem rx_hp_sr {L : Nat} {t : List (Nat × Nat)} {hi : Nat → Nat → Int32} {hl : Nat → Nat → Int64} {v : Nat → Nat → Option Nat} {i k : Nat} {x : Option Nat} (h : rx_fixd i k = none) : rx_sr (rx_hp L t hi hl v) i k x = rx_hp L t hi hl (rx_u v i k x) := by
  unfold rx_sr rx_hp
  dsimp only
  rw [rx_hr_u h]
/-- cart i's cell, SHELF i's -/
def rx_ct (i : Nat) : Nat := 16 + 6 * i
def rx_sf (i : Nat) : Nat := 52 + 2 * i
theorem rx_ct_in {P : Nat → Prop} (h0 : P 0) (h1 : P 1) (h2 : P 2) (h3 : P 3) (h4 : P 4) (h5 : P 5) {i : Nat} (hi : i < 6) : P i := by
  match i, hi with
  | 0, _ => exact h0
  | 1, _ => exact h1
  | 2, _ => exact h2
  | 3, _ => exact h3
  | 4, _ => exact h4
  | 5, _ => exact h5
  | n + 6, h => omega
theorem rx_carts {v : Nat → Nat → Option Nat} {i : Nat} (hi : i < 6) : rx_hr v 14 i = some (rx_ct i) := by
  refine rx_ct_in (P := fun i => rx_hr v 14 i = some (rx_ct i)) ?_ ?_ ?_ ?_ ?_ ?_ hi <;> rfl
theorem rx_cart_f {v : Nat → Nat → Option Nat} {i : Nat} (hi : i < 6) : rx_hr v (rx_ct i) 0 = some (rx_ct i + 1) ∧ rx_hr v (rx_ct i) 1 = some (rx_ct i + 2) ∧ rx_hr v (rx_ct i) 2 = some (rx_ct i + 3) ∧ rx_hr v (rx_ct i) 3 = some (rx_ct i + 4) ∧ rx_hr v (rx_ct i) 4 = some (rx_ct i + 5) := by
  refine rx_ct_in (P := fun i => rx_hr v (rx_ct i) 0 = some (rx_ct i + 1) ∧ rx_hr v (rx_ct i) 1 = some (rx_ct i + 2) ∧ rx_hr v (rx_ct i) 2 = some (rx_ct i + 3) ∧ rx_hr v (rx_ct i) 3 = some (rx_ct i + 4) ∧ rx_hr v (rx_ct i) 4 = some (rx_ct i + 5)) ?_ ?_ ?_ ?_ ?_ ?_ hi <;> exact ⟨rfl, rfl, rfl, rfl, rfl⟩
theorem rx_cart_s {L : Nat} {t : List (Nat × Nat)} {i : Nat} (hi : i < 6) : (rx_sh L t)[rx_ct i]? = some (0, 15) ∧ (rx_sh L t)[rx_ct i + 1]? = some (13, 400) ∧ (rx_sh L t)[rx_ct i + 2]? = some (13, 400) ∧ (rx_sh L t)[rx_ct i + 3]? = some (14, 402) ∧ (rx_sh L t)[rx_ct i + 4]? = some (15, 402) ∧ (rx_sh L t)[rx_ct i + 5]? = some (15, 402) := by
  refine rx_ct_in (P := fun i => (rx_sh L t)[rx_ct i]? = some (0, 15) ∧ (rx_sh L t)[rx_ct i + 1]? = some (13, 400) ∧ (rx_sh L t)[rx_ct i + 2]? = some (13, 400) ∧ (rx_sh L t)[rx_ct i + 3]? = some (14, 402) ∧ (rx_sh L t)[rx_ct i + 4]? = some (15, 402) ∧ (rx_sh L t)[rx_ct i + 5]? = some (15, 402)) ?_ ?_ ?_ ?_ ?_ ?_ hi <;> exact ⟨rfl, rfl, rfl, rfl, rfl, rfl⟩
/-- a test of the form: Floor.hasRow -/
theorem rx_hasRow {L : Nat} {t : List (Nat × Nat)} {hi : Nat → Nat → Int32} {hl : Nat → Nat → Int64} {v : Nat → Nat → Option Nat} {y : Int32} {Q : Option Value → rx_H → Prop} (k : Q (some (.int (if 0 ≤ y ∧ y < hi 7 1 then 1 else 0))) (rx_hp L t hi hl v)) : rx_me 27 [.ref 7, .int y] (rx_hp L t hi hl v) Q := by
  show rx_aw 27 0 [.ref 7, .int y] [] (rx_hp L t hi hl v) Q
  refine rx_aw_s 2 rfl ?_
  refine rx_aw_if (fun c1 => ?_) (fun c1 => ?_)
  · refine rx_aw_s 1 (pc := 16) rfl ?_
    refine rx_aw_ret (pc := 17) rfl ?_
    rw [if_neg (fun q => absurd q.1 (Int32.not_le.mpr (of_decide_eq_true c1)))] at k
    exact k
  · refine rx_aw_s 4 (pc := 4) rfl ?_
    refine rx_aw_if (fun c2 => ?_) (fun c2 => ?_)
    · refine rx_aw_s 1 (pc := 16) rfl ?_
      refine rx_aw_ret (pc := 17) rfl ?_
      rw [if_neg (fun q => absurd q.2 (Int32.not_lt.mpr (of_decide_eq_true c2)))] at k
      exact k
    · refine rx_aw_s 2 (pc := 12) rfl ?_
      refine rx_aw_ret (pc := 17) rfl ?_
      rw [if_pos ⟨Int32.not_lt.mp (of_decide_eq_false c1), Int32.not_le.mp (of_decide_eq_false c2)⟩] at k
      exact k
