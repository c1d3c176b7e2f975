theorem cf_nbv (a : Nat) : (nI a).toBitVec = BitVec.ofNat 32 a := rfl
theorem cf_nsub {a b : Nat} (h : b ≤ a) : nI a - nI b = nI (a - b) := by
  have : a = (a - b) + b := by omega
  rw [this, ← nI_add]
  have e : ∀ x y : Int32, x + y - y = x := by intro x y; rw [Int32.add_sub_cancel]
  rw [e]; congr 1; omega
theorem cf_nmul (a b : Nat) : nI a * nI b = nI (a * b) := (Int32.ofNat_mul a b).symm
theorem cf_nand (a b : Nat) : nI a &&& nI b = nI (a &&& b) := by
  apply Int32.toBitVec_inj.mp
  rw [Int32.toBitVec_and, cf_nbv, cf_nbv, cf_nbv, BitVec.ofNat_and]
theorem cf_nor (a b : Nat) : nI a ||| nI b = nI (a ||| b) := by
  apply Int32.toBitVec_inj.mp
  rw [Int32.toBitVec_or, cf_nbv, cf_nbv, cf_nbv, BitVec.ofNat_or]
theorem cf_nxor (a b : Nat) : nI a ^^^ nI b = nI (a ^^^ b) := by
  apply Int32.toBitVec_inj.mp
  rw [Int32.toBitVec_xor, cf_nbv, cf_nbv, cf_nbv, BitVec.ofNat_xor]
theorem cf_ndiv {a b : Nat} (ha : a < 2 ^ 31) (hb : b < 2 ^ 31) : nI a / nI b = nI (a / b) := by
  apply Int32.toInt_inj.mp
  have : a / b < 2 ^ 31 := Nat.lt_of_le_of_lt (Nat.div_le_self a b) ha
  rw [Int32.toInt_div, nI_toInt ha, nI_toInt hb, nI_toInt this]
  rw [Int.tdiv_eq_ediv_of_nonneg (by omega)]
  rw [← Int.natCast_ediv]
  generalize a / b = q at *
  rw [Int.bmod_eq_of_le] <;> omega
theorem cf_nmod {a b : Nat} (ha : a < 2 ^ 31) (hb : b < 2 ^ 31) : nI a - nI a / nI b * nI b = nI (a % b) := by
  rw [cf_ndiv ha hb, cf_nmul, cf_nsub (Nat.div_mul_le_self a b)]
  congr 1
  have := Nat.div_add_mod a b
  rw [Nat.mul_comm] at this
  omega
theorem cf_nshl (a k : Nat) (hk : k < 32) : nI a <<< (nI k &&& 31) = nI (a * 2 ^ k) := by
  apply Int32.toBitVec_inj.mp
  rw [Int32.toBitVec_shiftLeft, cf_nbv, cf_nbv, show (31 : Int32) = nI 31 from rfl, cf_nand, cf_nbv]
  have h31 : k &&& 31 = k := by
    rw [show (31 : Nat) = 2 ^ 5 - 1 from rfl, Nat.and_two_pow_sub_one_eq_mod]; omega
  rw [h31]
  have : ((BitVec.ofNat 32 k).smod (32 : BitVec 32)).toNat = k := by
    match k, hk with
    | 0, _ | 1, _ | 2, _ | 3, _ | 4, _ | 5, _ | 6, _ | 7, _ | 8, _ | 9, _ | 10, _ | 11, _ | 12, _ | 13, _ | 14, _ | 15, _ => rfl
    | 16, _ | 17, _ | 18, _ | 19, _ | 20, _ | 21, _ | 22, _ | 23, _ | 24, _ | 25, _ | 26, _ | 27, _ | 28, _ | 29, _ | 30, _ | 31, _ => rfl
    | n + 32, h => omega
  show BitVec.ofNat 32 a <<< ((BitVec.ofNat 32 k).smod 32) = _
  rw [BitVec.shiftLeft_eq', this]
  apply BitVec.eq_of_toNat_eq
  simp [BitVec.toNat_shiftLeft, Nat.shiftLeft_eq]
theorem cf_nshr (a k : Nat) (ha : a < 2 ^ 31) (hk : k < 32) : nI a >>> (nI k &&& 31) = nI (a / 2 ^ k) := by
  apply Int32.toBitVec_inj.mp
  rw [Int32.toBitVec_shiftRight, cf_nbv, cf_nbv, show (31 : Int32) = nI 31 from rfl, cf_nand, cf_nbv]
  have h31 : k &&& 31 = k := by
    rw [show (31 : Nat) = 2 ^ 5 - 1 from rfl, Nat.and_two_pow_sub_one_eq_mod]; omega
  rw [h31]
  have : ((BitVec.ofNat 32 k).smod (32 : BitVec 32)).toNat = k := by
    match k, hk with
    | 0, _ | 1, _ | 2, _ | 3, _ | 4, _ | 5, _ | 6, _ | 7, _ | 8, _ | 9, _ | 10, _ | 11, _ | 12, _ | 13, _ | 14, _ | 15, _ => rfl
    | 16, _ | 17, _ | 18, _ | 19, _ | 20, _ | 21, _ | 22, _ | 23, _ | 24, _ | 25, _ | 26, _ | 27, _ | 28, _ | 29, _ | 30, _ | 31, _ => rfl
    | n + 32, h => omega
  show (BitVec.ofNat 32 a).sshiftRight' ((BitVec.ofNat 32 k).smod 32) = _
  rw [BitVec.sshiftRight', this]
  rw [BitVec.sshiftRight_eq_of_msb_false (by rw [BitVec.msb_eq_decide]; simp; omega)]
  apply BitVec.eq_of_toNat_eq
  simp [Nat.shiftRight_eq_div_pow]
  rw [Nat.mod_eq_of_lt (by omega), Nat.mod_eq_of_lt]
  exact Nat.lt_of_le_of_lt (Nat.div_le_self _ _) (by omega)
/-- an optional number: 0 none (that is -1), j + 1 the number j -/
def oI (a : Nat) : Int32 := nI a - 1
theorem cf_o0 : oI 0 = -1 := rfl
theorem cf_oS (a : Nat) : oI (a + 1) = nI a := nI_pred a
theorem cf_oneg {a : Nat} (h : a < 2 ^ 31) : oI a < 0 ↔ a = 0 := by
  cases a with
  | zero => exact ⟨fun _ => rfl, fun _ => by decide⟩
  | succ n => rw [cf_oS]; exact ⟨fun q => absurd q (nI_pos (by omega)), fun q => by omega⟩
theorem cf_ole {a : Nat} (h : a < 2 ^ 31) : 0 ≤ oI a ↔ 0 < a := by
  have := cf_oneg h
  rw [← Int32.not_lt, this]; omega
theorem cf_oeq {a b : Nat} (ha : a < 2 ^ 31) (hb : b < 2 ^ 31) : oI a = oI b ↔ a = b := by
  unfold oI
  rw [Int32.sub_left_inj]
  exact nI_eq ha hb
theorem cf_oneq {a b : Nat} (ha : a < 2 ^ 31) (hb : b < 2 ^ 31 - 1) : oI a = nI b ↔ a = b + 1 := by
  rw [← cf_oS]; exact cf_oeq ha (by omega)
theorem cf_o1 (a : Nat) : oI a + 1 = nI a := by
  unfold oI; rw [Int32.sub_add_cancel]
theorem cf_lt {x y : Int32} : x < y ↔ x.toInt < y.toInt := Int32.lt_iff_toInt_lt
theorem cf_le' {x y : Int32} : x ≤ y ↔ x.toInt ≤ y.toInt := Int32.le_iff_toInt_le
/-- whether a square is in a set -/
def cf_has (x : Int64) (q : Nat) : Bool := x.toBitVec.getLsbD q
theorem cf_ext {x y : Int64} (h : ∀ q, q < 64 → cf_has x q = cf_has y q) : x = y := by
  apply Int64.toBitVec_inj.mp
  exact BitVec.eq_of_getLsbD_eq (fun i hi => h i hi)
theorem cf_h0 (q : Nat) : cf_has 0 q = false := by unfold cf_has; rw [show (0 : Int64).toBitVec = 0#64 from rfl]; exact BitVec.getLsbD_zero
theorem cf_hbig {x : Int64} {q : Nat} (h : 64 ≤ q) : cf_has x q = false := BitVec.getLsbD_of_ge _ _ h
theorem cf_hand (x y : Int64) (q : Nat) : cf_has (x &&& y) q = (cf_has x q && cf_has y q) := by
  unfold cf_has; rw [Int64.toBitVec_and, BitVec.getLsbD_and]
theorem cf_hor (x y : Int64) (q : Nat) : cf_has (x ||| y) q = (cf_has x q || cf_has y q) := by
  unfold cf_has; rw [Int64.toBitVec_or, BitVec.getLsbD_or]
theorem cf_hxor (x y : Int64) (q : Nat) : cf_has (x ^^^ y) q = (cf_has x q ^^ cf_has y q) := by
  unfold cf_has; rw [Int64.toBitVec_xor, BitVec.getLsbD_xor]
theorem cf_hm1 (q : Nat) : cf_has (-1) q = decide (q < 64) := by
  unfold cf_has; rw [show (-1 : Int64).toBitVec = BitVec.allOnes 64 from rfl, BitVec.getLsbD_allOnes]
theorem cf_hnot (x : Int64) (q : Nat) : cf_has (x ^^^ -1) q = (decide (q < 64) && !cf_has x q) := by
  rw [cf_hxor, cf_hm1]
  by_cases h : q < 64
  · simp [h]
  · simp [h, cf_hbig (x := x) (q := q) (by omega)]
theorem cf_hne {x : Int64} : ¬ x = 0 ↔ ∃ q, q < 64 ∧ cf_has x q = true := by
  constructor
  · intro h
    apply Classical.byContradiction
    intro g
    apply h
    apply cf_ext
    intro q hq
    rw [cf_h0]
    cases hb : cf_has x q with
    | false => rfl
    | true => exact absurd ⟨q, hq, hb⟩ g
  · intro ⟨q, _, h⟩ e
    rw [e, cf_h0] at h
    cases h
theorem cf_he0 {x : Int64} : x = 0 ↔ ∀ q, q < 64 → cf_has x q = false := by
  constructor
  · intro h q _; rw [h, cf_h0]
  · intro h; apply cf_ext; intro q hq; rw [h q hq, cf_h0]
/-- the set of one square -/
def cf_bt (q : Nat) : Int64 := Int64.ofBitVec (BitVec.twoPow 64 q)
theorem cf_hbt (q p : Nat) : cf_has (cf_bt q) p = (decide (q < 64) && decide (q = p)) := by
  unfold cf_has cf_bt; rw [Int64.toBitVec_ofBitVec, BitVec.getLsbD_twoPow]
theorem cf_lk (k : Nat) (hk : k < 64) : (((nI k).toInt64 &&& 63).toBitVec.smod (64 : BitVec 64)).toNat = k := by
  rw [nI_l (by omega)]
  have : ∀ i : Fin 64, ((lN i.val &&& 63).toBitVec.smod (64 : BitVec 64)).toNat = i.val := by decide +kernel
  exact this ⟨k, hk⟩
theorem cf_shl (x : Int64) (k : Nat) (hk : k < 64) (p : Nat) : cf_has (x <<< ((nI k).toInt64 &&& 63)) p = (decide (p < 64) && decide (k ≤ p) && cf_has x (p - k)) := by
  unfold cf_has
  rw [Int64.toBitVec_shiftLeft]
  show (x.toBitVec <<< ((nI k).toInt64 &&& 63).toBitVec.smod (64 : BitVec 64)).getLsbD p = _
  rw [BitVec.shiftLeft_eq', cf_lk k hk, BitVec.getLsbD_shiftLeft]
  by_cases h : p < k
  · simp [h]; omega
  · simp [h]; rw [show decide (k ≤ p) = true from decide_eq_true (by omega)]; simp
theorem cf_one (k : Nat) (hk : k < 64) : (1 : Int64) <<< ((nI k).toInt64 &&& 63) = cf_bt k := by
  apply cf_ext
  intro q hq
  rw [cf_shl _ k hk, cf_hbt]
  have h1 : ∀ q, cf_has 1 q = decide (q = 0) := by
    intro q
    unfold cf_has
    rw [show (1 : Int64).toBitVec = 1#64 from rfl]; simp
  rw [h1]
  by_cases h : k = q
  · subst h; simp [hk]
  · have : ¬ (k ≤ q ∧ q - k = 0) := by omega
    simp [h, hq, hk]; omega
theorem cf_shr (x : Int64) (k : Nat) (hk : k < 64) (p : Nat) : cf_has (x.toUInt64 >>> ((nI k).toInt64.toUInt64 &&& Int64.toUInt64 63)).toInt64 p = cf_has x (p + k) := by
  unfold cf_has
  have hk2 : ((nI k).toInt64.toUInt64 &&& Int64.toUInt64 63).toBitVec.toNat % 64 = k := by
    rw [nI_l (by omega)]
    have : ∀ i : Fin 64, ((lN i.val).toUInt64 &&& Int64.toUInt64 63).toBitVec.toNat % 64 = i.val := by decide +kernel
    exact this ⟨k, hk⟩
  show (x.toUInt64 >>> ((nI k).toInt64.toUInt64 &&& Int64.toUInt64 63)).toBitVec.getLsbD p = _
  rw [UInt64.toBitVec_shiftRight]
  simp only [BitVec.ushiftRight_eq']
  rw [BitVec.getLsbD_ushiftRight]
  show x.toBitVec.getLsbD _ = _
  rw [BitVec.toNat_umod]
  rw [show (64 : BitVec 64).toNat = 64 from rfl, hk2, Nat.add_comm]

theorem cf_cmp0 {x y : Int64} : lg_cmp x y = 0 ↔ x = y := by
  unfold lg_cmp
  by_cases h : x > y
  · rw [if_pos h]
    exact ⟨fun q => absurd q (by decide), fun q => absurd (q ▸ h) (Int64.lt_irrefl)⟩
  · rw [if_neg h]
    by_cases g : x = y
    · rw [if_pos g]; exact ⟨fun _ => g, fun _ => rfl⟩
    · rw [if_neg g]; exact ⟨fun q => absurd q (by decide), fun q => absurd q g⟩
/-- the square beside another, by direction 0 up, 1 right, 2 down, 3 left -/
def cf_step (w h q d : Nat) : Option Nat :=
  if d = 0 then (if w ≤ q then some (q - w) else none)
  else if d = 1 then (if q % w + 1 < w then some (q + 1) else none)
  else if d = 2 then (if q + w < w * h then some (q + w) else none)
  else (if 0 < q % w then some (q - 1) else none)
/-- the opposite direction, the one to the left, the one to the right -/
def cf_opp (d : Nat) : Nat := (d + 2) % 4
def cf_lf (d : Nat) : Nat := (d + 3) % 4
def cf_rt (d : Nat) : Nat := (d + 1) % 4
/-- the set that a cart stands on, by its state (square and 64 times the heading) -/
def cf_std (w h : Nat) (two : Bool) (s : Nat) : Int64 :=
  bif two then
    match cf_step w h (s % 64) (cf_opp (s / 64 % 4)) with
    | none => 0
    | some b => cf_bt (s % 64) ||| cf_bt b
  else cf_bt (s % 64)
/-- where a turn to a direction leads: the new square and the one beside the old -/
def cf_tn (w h s to : Nat) : Option (Nat × Nat × Nat) :=
  match cf_step w h (s % 64) (cf_opp (s / 64 % 4)) with
  | none => none
  | some b => match cf_step w h b to, cf_step w h (s % 64) to with
    | some n, some c => some (b, n, c)
    | _, _ => none
def cf_to (s m : Nat) : Nat := if m = 3 then cf_lf (s / 64 % 4) else cf_rt (s / 64 % 4)
/-- the four squares of a turn, none if it can't be made -/
def cf_four (w h s m : Nat) : Int64 :=
  match cf_tn w h s (cf_to s m) with
  | none => 0
  | some (b, n, c) => cf_bt (s % 64) ||| cf_bt b ||| cf_bt n ||| cf_bt c
/-- the state behind a MOVE of 0 to 4 -/
def cf_mv (w h : Nat) (two : Bool) (s m : Nat) : Option Nat :=
  if m = 0 then some (s % 256)
  else bif two then
    (if m = 1 then (cf_step w h (s % 64) (s / 64 % 4)).map (fun q => q + 64 * (s / 64 % 4))
     else if m = 2 then
       match cf_step w h (s % 64) (cf_opp (s / 64 % 4)) with
       | none => none
       | some b => match cf_step w h b (cf_opp (s / 64 % 4)) with
         | none => none
         | some _ => some (b + 64 * (s / 64 % 4))
     else match cf_tn w h s (cf_to s m) with
       | none => none
       | some (_, n, _) => some (n + 64 * cf_to s m))
  else (cf_step w h (s % 64) (m - 1)).map (fun q => q + 64 * (m - 1))
theorem cf_step_lt {w h q d p : Nat} (hq : q < w * h) (e : cf_step w h q d = some p) : p < w * h := by
  unfold cf_step at e
  split at e
  · split at e <;> cases e; omega
  · split at e
    · split at e <;> cases e
      rename_i h1
      have hw : 0 < w := by omega
      have h2 : q / w < h := (Nat.div_lt_iff_lt_mul hw).mpr (by rw [Nat.mul_comm]; exact hq)
      have h3 := Nat.div_add_mod q w
      have h4 : w * (q / w) + w ≤ w * h := by rw [← Nat.mul_succ]; exact Nat.mul_le_mul_left w h2
      omega
    · split at e
      · split at e <;> cases e; assumption
      · split at e <;> cases e; omega
