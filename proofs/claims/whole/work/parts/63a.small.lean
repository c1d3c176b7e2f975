abbrev rx_CI (L : Nat) (t : List (Nat × Nat)) (j : Nat) (as : List Value) (hi : Nat → Nat → Int32) (hl : Nat → Nat → Int64) (v : Nat → Nat → Option Nat) (R : Int32 → (Nat → Nat → Int32) → (Nat → Nat → Int64) → (Nat → Nat → Option Nat) → Prop) : Prop :=
  rx_me j as (rx_hp L t hi hl v) (fun r h2 => ∃ z : Int32, r = some (.int z) ∧ rx_ok2 L t h2 (R z))
abbrev rx_CL (L : Nat) (t : List (Nat × Nat)) (j : Nat) (as : List Value) (hi : Nat → Nat → Int32) (hl : Nat → Nat → Int64) (v : Nat → Nat → Option Nat) (R : Int64 → (Nat → Nat → Int32) → (Nat → Nat → Int64) → (Nat → Nat → Option Nat) → Prop) : Prop :=
  rx_me j as (rx_hp L t hi hl v) (fun r h2 => ∃ z : Int64, r = some (.long z) ∧ rx_ok2 L t h2 (R z))
abbrev rx_CR (L : Nat) (t : List (Nat × Nat)) (j : Nat) (as : List Value) (hi : Nat → Nat → Int32) (hl : Nat → Nat → Int64) (v : Nat → Nat → Option Nat) (R : Option Nat → (Nat → Nat → Int32) → (Nat → Nat → Int64) → (Nat → Nat → Option Nat) → Prop) : Prop :=
  rx_me j as (rx_hp L t hi hl v) (fun r h2 => ∃ z : Option Nat, r = some (va_rf z) ∧ rx_ok2 L t h2 (R z))
abbrev rx_CV (L : Nat) (t : List (Nat × Nat)) (j : Nat) (as : List Value) (hi : Nat → Nat → Int32) (hl : Nat → Nat → Int64) (v : Nat → Nat → Option Nat) (R : (Nat → Nat → Int32) → (Nat → Nat → Int64) → (Nat → Nat → Option Nat) → Prop) : Prop :=
  rx_me j as (rx_hp L t hi hl v) (fun r h2 => r = none ∧ rx_ok2 L t h2 R)
section RXF
variable {L : Nat} {t : List (Nat × Nat)} {hi : Nat → Nat → Int32} {hl : Nat → Nat → Int64} {v : Nat → Nat → Option Nat}
variable {RI : Int32 → (Nat → Nat → Int32) → (Nat → Nat → Int64) → (Nat → Nat → Option Nat) → Prop}
variable {RL : Int64 → (Nat → Nat → Int32) → (Nat → Nat → Int64) → (Nat → Nat → Option Nat) → Prop}
variable {RR : Option Nat → (Nat → Nat → Int32) → (Nat → Nat → Int64) → (Nat → Nat → Option Nat) → Prop}
variable {RV : (Nat → Nat → Int32) → (Nat → Nat → Int64) → (Nat → Nat → Option Nat) → Prop}
theorem c_retI {e : Int32} (k : RI e hi hl v) : ∃ z : Int32, (some (Value.int e)) = some (.int z) ∧ rx_ok2 L t (rx_hp L t hi hl v) (RI z) := ⟨e, rfl, hi, hl, v, rfl, k⟩
theorem c_retL {e : Int64} (k : RL e hi hl v) : ∃ z : Int64, (some (Value.long e)) = some (.long z) ∧ rx_ok2 L t (rx_hp L t hi hl v) (RL z) := ⟨e, rfl, hi, hl, v, rfl, k⟩
theorem c_retR {e : Option Nat} (k : RR e hi hl v) : ∃ z : Option Nat, (some (va_rf e)) = some (va_rf z) ∧ rx_ok2 L t (rx_hp L t hi hl v) (RR z) := ⟨e, rfl, hi, hl, v, rfl, k⟩
theorem c_retV (k : RV hi hl v) : (none : Option Value) = none ∧ rx_ok2 L t (rx_hp L t hi hl v) RV := ⟨rfl, hi, hl, v, rfl, k⟩
end RXF
section RXD
variable {L : Nat} {t : List (Nat × Nat)} {hi : Nat → Nat → Int32} {hl : Nat → Nat → Int64} {v : Nat → Nat → Option Nat}
variable {RI : Int32 → (Nat → Nat → Int32) → (Nat → Nat → Int64) → (Nat → Nat → Option Nat) → Prop}
variable {RL : Int64 → (Nat → Nat → Int32) → (Nat → Nat → Int64) → (Nat → Nat → Option Nat) → Prop}
variable {RR : Option Nat → (Nat → Nat → Int32) → (Nat → Nat → Int64) → (Nat → Nat → Option Nat) → Prop}
variable {RV : (Nat → Nat → Int32) → (Nat → Nat → Int64) → (Nat → Nat → Option Nat) → Prop}
theorem cf_and63 (a : Nat) : a &&& 63 = a % 64 := Nat.and_two_pow_sub_one_eq_mod a 6
theorem cf_and255 (a : Nat) : a &&& 255 = a % 256 := Nat.and_two_pow_sub_one_eq_mod a 8
theorem cf_and3 (a : Nat) : a &&& 3 = a % 4 := Nat.and_two_pow_sub_one_eq_mod a 2
theorem cf_or6 {a b : Nat} (h : a < 64) : a ||| b * 64 = a + 64 * b := by
  rw [Nat.or_comm, Nat.mul_comm, ← Nat.two_pow_add_eq_or_of_lt (i := 6) h]; omega
theorem cf_or8 {a b : Nat} (h : a < 256) : a ||| b * 256 = a + 256 * b := by
  rw [Nat.or_comm, Nat.mul_comm, ← Nat.two_pow_add_eq_or_of_lt (i := 8) h]; omega
theorem c8 {a : Nat} (k : RI (nI (a % 64)) hi hl v) : rx_CI L t 8 [.int (nI a)] hi hl v RI := by
  refine w8_squareOf (c_retI ?_)
  rw [show (63 : Int32) = nI 63 from rfl, cf_nand, cf_and63]; exact k
theorem c16 {a : Nat} (ha : a < 2 ^ 31) (k : RI (nI (a / 64 % 4)) hi hl v) : rx_CI L t 16 [.int (nI a)] hi hl v RI := by
  refine w16_headingOf (c_retI ?_)
  rw [show (6 : Int32) = nI 6 from rfl, cf_nshr a 6 ha (by decide), show (3 : Int32) = nI 3 from rfl, cf_nand, cf_and3]; exact k
theorem c48 {a : Nat} (ha : a < 2 ^ 31) (k : RI (oI (a / 256)) hi hl v) : rx_CI L t 48 [.int (nI a)] hi hl v RI := by
  refine w48_loadOf (c_retI ?_)
  have : nI a >>> ((8 : Int32) &&& 31) - 1 = oI (a / 256) := by
    rw [show (8 : Int32) = nI 8 from rfl, cf_nshr a 8 ha (by decide)]; rfl
  rw [this]; exact k
/-- the set of one square given with 1 more, or none -/
def cf_b1 (q : Nat) : Int64 := if q = 0 then 0 else cf_bt (q - 1)
theorem c9o {q : Nat} (hq : q ≤ 64) (k : RL (cf_b1 q) hi hl v) : rx_CL L t 9 [.int (oI q)] hi hl v RL := by
  refine w9_bit ⟨fun c => c_retL ?_, fun c => c_retL ?_⟩
  · have h0 : 0 < q := (cf_ole (by omega)).mp c
    obtain ⟨p, rfl⟩ : ∃ p, q = p + 1 := ⟨q - 1, by omega⟩
    rw [cf_oS, cf_one p (by omega)]
    exact k
  · have h0 : q = 0 := by
      have := mt (cf_ole (a := q) (by omega)).mpr c
      omega
    subst h0
    exact k
theorem c9 {q : Nat} (hq : q < 64) (k : RL (cf_bt q) hi hl v) : rx_CL L t 9 [.int (nI q)] hi hl v RL := by
  have := c9o (L := L) (t := t) (hi := hi) (hl := hl) (v := v) (RL := RL) (q := q + 1) (by omega) k
  rwa [cf_oS] at this
theorem c55 {q d l : Nat} (hq : q < 64) (hd : d < 4) (hl' : l < 2 ^ 20) (k : RI (nI (q + 64 * d + 256 * l)) hi hl v) : rx_CI L t 55 [.int (nI q), .int (nI d), .int (oI l)] hi hl v RI := by
  refine w55_stanceOf (c_retI ?_)
  rw [show (8 : Int32) = nI 8 from rfl, show (6 : Int32) = nI 6 from rfl, cf_o1, cf_nshl d 6 (by decide), cf_nshl l 8 (by decide), cf_nor, cf_nor, show (2 : Nat) ^ 6 = 64 from rfl, show (2 : Nat) ^ 8 = 256 from rfl, cf_or6 hq, cf_or8 (by omega)]
  exact k
theorem c50 {a l : Nat} (hl' : l < 2 ^ 20) (k : RI (nI (a % 256 + 256 * l)) hi hl v) : rx_CI L t 50 [.int (nI a), .int (oI l)] hi hl v RI := by
  refine w50_loaded (c_retI ?_)
  rw [show (8 : Int32) = nI 8 from rfl, show (255 : Int32) = nI 255 from rfl, cf_o1, cf_nand, cf_nshl l 8 (by decide), cf_nor, show (2 : Nat) ^ 8 = 256 from rfl, cf_and255, cf_or8 (by omega)]
  exact k
/-- a TURN, by kind, heading and MOVE -/
def cf_itn (k d m : Nat) : Bool := bif cf_two k then decide (m = 3) || decide (m = 4) else decide (1 ≤ m) && decide (m ≤ 4) && !decide (m = d + 1)
def cf_B (b : Bool) : Int32 := bif b then 1 else 0
theorem c81 {kd d m : Nat} (hk : kd < 4) (hd : d < 4) (hm : m < 2 ^ 20) (k : RI (cf_B (cf_itn kd d m)) hi hl v) : rx_CI L t 81 [.int (nI kd), .int (nI d), .int (nI m)] hi hl v RI := by
  have e1 : ∀ j : Nat, j < 8 → (nI m = nI j ↔ m = j) := fun j hj => nI_eq (by omega) (by omega)
  have e2 : ∀ j : Nat, j < 8 → (nI m < nI j ↔ m < j) := fun j hj => nI_ltI (by omega) (by omega)
  have e3 : ∀ j : Nat, j < 8 → (nI j < nI m ↔ j < m) := fun j hj => nI_ltI (by omega) (by omega)
  have e4 : nI kd < nI 2 ↔ kd < 2 := nI_ltI (by omega) (by omega)
  have i1 : (1 : Int32) = nI 1 := rfl
  have i2 : (2 : Int32) = nI 2 := rfl
  have i3 : (3 : Int32) = nI 3 := rfl
  have i4 : (4 : Int32) = nI 4 := rfl
  unfold cf_itn cf_two at k
  refine w81_isTurn ⟨fun c => ⟨fun c2 => c_retI ?_, fun c2 => ⟨fun c3 => c_retI ?_, fun c3 => ⟨fun c4 => c_retI ?_, fun c4 => c_retI ?_⟩⟩⟩, fun c => ⟨fun c2 => c_retI ?_, fun c2 => ⟨fun c3 => c_retI ?_, fun c3 => c_retI ?_⟩⟩⟩
  · rw [i2, e4] at c; rw [i1, e2 1 (by decide)] at c2
    rw [decide_eq_false (show ¬ 2 ≤ kd by omega), decide_eq_false (show ¬ 1 ≤ m by omega)] at k
    exact k
  · rw [i2, e4] at c; rw [i4, e3 4 (by decide)] at c3
    rw [decide_eq_false (show ¬ 2 ≤ kd by omega), decide_eq_false (show ¬ m ≤ 4 by omega), Bool.and_false] at k
    exact k
  · rw [i2, e4] at c; rw [i1, e2 1 (by decide)] at c2; rw [i1, cf_nsub (by omega), nI_eq (by omega) (by omega)] at c4
    rw [decide_eq_false (show ¬ 2 ≤ kd by omega), decide_eq_true (show m = d + 1 by omega), Bool.not_true, Bool.and_false] at k
    exact k
  · rw [i2, e4] at c; rw [i4, e3 4 (by decide)] at c3; rw [i1, e2 1 (by decide)] at c2; rw [i1, cf_nsub (by omega), nI_eq (by omega) (by omega)] at c4
    rw [decide_eq_false (show ¬ 2 ≤ kd by omega), decide_eq_true (show 1 ≤ m by omega), decide_eq_true (show m ≤ 4 by omega), decide_eq_false (show ¬ m = d + 1 by omega)] at k
    exact k
  · rw [i2, e4] at c; rw [i3, e1 3 (by decide)] at c2
    rw [decide_eq_true (show 2 ≤ kd by omega), decide_eq_true c2] at k
    exact k
  · rw [i2, e4] at c; rw [i4, e1 4 (by decide)] at c3
    rw [decide_eq_true (show 2 ≤ kd by omega), decide_eq_true c3, Bool.or_true] at k
    exact k
  · rw [i2, e4] at c; rw [i3, e1 3 (by decide)] at c2; rw [i4, e1 4 (by decide)] at c3
    rw [decide_eq_true (show 2 ≤ kd by omega), decide_eq_false c2, decide_eq_false c3] at k
    exact k
end RXD
