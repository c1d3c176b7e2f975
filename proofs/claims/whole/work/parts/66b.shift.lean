/-! Sets by what they hold; Floor.shift, spread, flood. -/
def cf_of (f : Nat → Bool) : Int64 := cf_un (fun q => bif f q then cf_bt q else 0) 64
theorem cf_has_un (f : Nat → Int64) (q : Nat) : ∀ n, cf_has (cf_un f n) q = cf_any (fun i => cf_has (f i) q) n
  | 0 => cf_h0 q
  | n + 1 => by rw [cf_un, cf_hor, cf_has_un f q n, cf_any]
theorem cf_any_false {p : Nat → Bool} : ∀ {n : Nat}, (∀ i, i < n → p i = false) → cf_any p n = false
  | 0, _ => rfl
  | n + 1, h => by rw [cf_any, cf_any_false (n := n) (fun i hi => h i (by omega)), h n (by omega)]; rfl
theorem cf_any_iff {p : Nat → Bool} : ∀ {n : Nat}, cf_any p n = true ↔ ∃ i, i < n ∧ p i = true
  | 0 => ⟨fun h => Bool.noConfusion h, fun ⟨i, h, _⟩ => absurd h (by omega)⟩
  | n + 1 => by
    rw [cf_any, Bool.or_eq_true, cf_any_iff (n := n)]
    constructor
    · rintro (⟨i, h1, h2⟩ | h)
      · exact ⟨i, by omega, h2⟩
      · exact ⟨n, by omega, h⟩
    · rintro ⟨i, h1, h2⟩
      by_cases e : i = n
      · right; rw [← e]; exact h2
      · left; exact ⟨i, by omega, h2⟩
theorem cf_has_of (f : Nat → Bool) (q : Nat) : cf_has (cf_of f) q = (decide (q < 64) && f q) := by
  unfold cf_of
  rw [cf_has_un]
  by_cases h : q < 64
  · rw [decide_eq_true h, Bool.true_and]
    cases hf : f q with
    | true =>
      refine cf_any_true h ?_
      rw [hf, cond_true, cf_hbt, decide_eq_true h, decide_eq_true rfl]; rfl
    | false =>
      refine cf_any_false (fun i hi => ?_)
      cases hi2 : f i with
      | false => exact cf_h0 q
      | true =>
        rw [cond_true, cf_hbt, decide_eq_false (show ¬ i = q by intro e; rw [e, hf] at hi2; cases hi2), Bool.and_false]
  · rw [decide_eq_false h, Bool.false_and]
    refine cf_any_false (fun i hi => ?_)
    exact cf_hbig (by omega)
/-- a set of squares of the floor alone -/
def cf_in (w h : Nat) (x : Int64) : Prop := ∀ q, cf_has x q = true → q < w * h
/-- all squares of a set moved by one in a direction -/
def cf_shf (w h : Nat) (x : Int64) (d : Nat) : Int64 := cf_of (fun q => decide (q < w * h) && (match cf_step w h q (cf_opp d) with
  | some p => cf_has x p
  | none => false))
theorem cf_in_false {w h : Nat} {x : Int64} (H : cf_in w h x) {q : Nat} (hq : ¬ q < w * h) : cf_has x q = false := by
  cases e : cf_has x q with
  | false => rfl
  | true => exact absurd (H q e) hq
theorem cf_shf_in (w h : Nat) (x : Int64) (d : Nat) : cf_in w h (cf_shf w h x d) := by
  intro q hq
  unfold cf_shf at hq
  rw [cf_has_of, Bool.and_eq_true, Bool.and_eq_true, decide_eq_true_iff] at hq
  exact of_decide_eq_true hq.2.1
theorem cf_w7 {w : Nat} (h1 : 2 ≤ w) (h2 : w ≤ 8) : w = 2 ∨ w = 3 ∨ w = 4 ∨ w = 5 ∨ w = 6 ∨ w = 7 ∨ w = 8 := by omega
section RXE
variable {L : Nat} {t : List (Nat × Nat)} {hi : Nat → Nat → Int32} {hl : Nat → Nat → Int64} {v : Nat → Nat → Option Nat}
variable {RI : Int32 → (Nat → Nat → Int32) → (Nat → Nat → Int64) → (Nat → Nat → Option Nat) → Prop}
variable {RL : Int64 → (Nat → Nat → Int32) → (Nat → Nat → Int64) → (Nat → Nat → Option Nat) → Prop}
theorem c12 {w h : Nat} (K1 : cf_K1 w h hi) (K3 : cf_K3 w h hl) {x : Int64} (H : cf_in w h x) {d : Nat} (hd : d < 4) (k : RL (cf_shf w h x d) hi hl v) : rx_CL L t 12 [.ref 7, .long x, .int (nI d)] hi hl v RL := by
  have hwh := cf_wh K1
  obtain ⟨w2, w8, h2, h8, ew, eh⟩ := K1
  have fin : ∀ y : Int64, (∀ q, q < 64 → cf_has y q = (decide (q < w * h) && (match cf_step w h q (cf_opp d) with
      | some p => cf_has x p
      | none => false))) → RL y hi hl v := by
    intro y hy
    have : y = cf_shf w h x d := by
      apply cf_ext
      intro q hq
      rw [hy q hq]
      unfold cf_shf
      rw [cf_has_of, decide_eq_true hq, Bool.true_and]
    rw [this]; exact k
  have hd4 : d = 0 ∨ d = 1 ∨ d = 2 ∨ d = 3 := by omega
  rcases hd4 with rfl | rfl | rfl | rfl
  · refine w12_shift ⟨fun _ => c_retL (fin _ (fun q hq => ?_)), fun c => absurd rfl c⟩
    rw [ew, cf_shr x w (by omega)]
    show _ = (decide (q < w * h) && (match cf_step w h q 2 with
      | some p => cf_has x p
      | none => false))
    unfold cf_step
    rw [if_neg (by decide), if_neg (by decide), if_pos rfl]
    by_cases hq2 : q + w < w * h
    · rw [if_pos hq2, decide_eq_true (show q < w * h by omega), Bool.true_and]
    · rw [if_neg hq2, cf_in_false H hq2, Bool.and_false]
  · refine w12_shift ⟨fun c => absurd c (by decide), fun _ => ⟨fun _ => c_retL (fin _ (fun q hq => ?_)), fun c => absurd rfl c⟩⟩
    rw [show (1 : Int32) = nI 1 from rfl, cf_shl _ 1 (by decide), cf_hand]
    show _ = (decide (q < w * h) && (match cf_step w h q 3 with
      | some p => cf_has x p
      | none => false))
    unfold cf_step
    rw [if_neg (by decide), if_neg (by decide), if_neg (by decide), decide_eq_true hq, Bool.true_and]
    by_cases h1 : 1 ≤ q
    · rw [decide_eq_true h1, Bool.true_and, (K3 (q - 1) (by omega)).2.2]
      have key : (q - 1 < w * h ∧ ¬ (q - 1) % w + 1 = w) ↔ (q < w * h ∧ 0 < q % w) := by
        rcases cf_w7 w2 w8 with rfl | rfl | rfl | rfl | rfl | rfl | rfl <;> omega
      by_cases h3 : q < w * h ∧ 0 < q % w
      · obtain ⟨g1, g2⟩ := key.mpr h3
        rw [decide_eq_true g1, decide_eq_true g2, decide_eq_true h3.1, if_pos h3.2, Bool.and_true, Bool.and_true, Bool.true_and]
      · have g := mt key.mp h3
        by_cases g1 : q - 1 < w * h
        · rw [decide_eq_false (fun g2 => g ⟨g1, g2⟩), Bool.and_false, Bool.and_false]
          by_cases g3 : q < w * h
          · rw [if_neg (fun g4 => h3 ⟨g3, g4⟩), Bool.and_false]
          · rw [decide_eq_false g3, Bool.false_and]
        · rw [decide_eq_false g1, Bool.false_and, Bool.and_false, decide_eq_false (show ¬ q < w * h by omega), Bool.false_and]
    · have : q = 0 := by omega
      subst this
      rw [decide_eq_false (show ¬ 1 ≤ 0 by omega), Bool.false_and, if_neg (by rw [Nat.zero_mod]; omega), Bool.and_false]
  · refine w12_shift ⟨fun c => absurd c (by decide), fun _ => ⟨fun c => absurd c (by decide), fun _ => ⟨fun _ => c_retL (fin _ (fun q hq => ?_)), fun c => absurd rfl c⟩⟩⟩
    rw [cf_hand, ew, cf_shl _ w (by omega), (K3 q hq).1]
    show _ = (decide (q < w * h) && (match cf_step w h q 0 with
      | some p => cf_has x p
      | none => false))
    unfold cf_step
    rw [if_pos rfl, decide_eq_true hq, Bool.true_and]
    by_cases h1 : w ≤ q
    · rw [decide_eq_true h1, if_pos h1, Bool.true_and, Bool.and_comm]
    · rw [decide_eq_false h1, if_neg h1, Bool.false_and, Bool.false_and, Bool.and_false]
  · refine w12_shift ⟨fun c => absurd c (by decide), fun _ => ⟨fun c => absurd c (by decide), fun _ => ⟨fun c => absurd c (by decide), fun _ => c_retL (fin _ (fun q hq => ?_))⟩⟩⟩
    rw [show (1 : Int32) = nI 1 from rfl, cf_shr _ 1 (by decide), cf_hand]
    show _ = (decide (q < w * h) && (match cf_step w h q 1 with
      | some p => cf_has x p
      | none => false))
    unfold cf_step
    rw [if_neg (by decide), if_pos rfl]
    have key : (q + 1 < w * h ∧ ¬ (q + 1) % w = 0) ↔ (q < w * h ∧ q % w + 1 < w) := by
      rcases cf_w7 w2 w8 with rfl | rfl | rfl | rfl | rfl | rfl | rfl <;> omega
    by_cases h64 : q + 1 < 64
    · rw [(K3 (q + 1) h64).2.1]
      by_cases h3 : q < w * h ∧ q % w + 1 < w
      · obtain ⟨g1, g2⟩ := key.mpr h3
        rw [decide_eq_true g1, decide_eq_true g2, decide_eq_true h3.1, if_pos h3.2, Bool.and_true, Bool.and_true, Bool.true_and]
      · have g := mt key.mp h3
        have e1 : (decide (q + 1 < w * h) && decide (¬ (q + 1) % w = 0)) = false := by
          rw [Bool.and_eq_false_iff]
          by_cases g1 : q + 1 < w * h
          · right; exact decide_eq_false (fun g2 => g ⟨g1, g2⟩)
          · left; exact decide_eq_false g1
        rw [e1, Bool.and_false]
        by_cases g3 : q < w * h
        · rw [if_neg (fun g4 => h3 ⟨g3, g4⟩), Bool.and_false]
        · rw [decide_eq_false g3, Bool.false_and]
    · rw [cf_hbig (x := x) (show 64 ≤ q + 1 by omega), Bool.false_and]
      have h3 : ¬ (q < w * h ∧ q % w + 1 < w) := fun h3 => by have := (key.mpr h3).1; omega
      by_cases g3 : q < w * h
      · rw [if_neg (fun g4 => h3 ⟨g3, g4⟩), Bool.and_false]
      · rw [decide_eq_false g3, Bool.false_and]
/-- a set and all squares beside it -/
def cf_spr (w h : Nat) (x : Int64) : Int64 := x ||| cf_shf w h x 0 ||| cf_shf w h x 1 ||| cf_shf w h x 2 ||| cf_shf w h x 3
theorem c78 {w h : Nat} (K1 : cf_K1 w h hi) (K3 : cf_K3 w h hl) {x : Int64} (H : cf_in w h x) (k : RL (cf_spr w h x) hi hl v) : rx_CL L t 78 [.ref 7, .long x] hi hl v RL :=
  w78_spread (c12 (d := 0) K1 K3 H (by decide) (c12 (d := 1) K1 K3 H (by decide) (c12 (d := 2) K1 K3 H (by decide) (c12 (d := 3) K1 K3 H (by decide) (c_retL k)))))
theorem cf_in_or {w h : Nat} {x y : Int64} (hx : cf_in w h x) (hy : cf_in w h y) : cf_in w h (x ||| y) := by
  intro q hq
  rw [cf_hor, Bool.or_eq_true] at hq
  rcases hq with hq | hq
  · exact hx q hq
  · exact hy q hq
theorem cf_in_and {w h : Nat} {x y : Int64} (hx : cf_in w h x) : cf_in w h (x &&& y) := by
  intro q hq
  rw [cf_hand, Bool.and_eq_true] at hq
  exact hx q hq.1
theorem cf_spr_in {w h : Nat} {x : Int64} (H : cf_in w h x) : cf_in w h (cf_spr w h x) :=
  cf_in_or (cf_in_or (cf_in_or (cf_in_or H (cf_shf_in w h x 0)) (cf_shf_in w h x 1)) (cf_shf_in w h x 2)) (cf_shf_in w h x 3)
/-- what is reached from a set by n steps within another -/
def cf_fld (w h : Nat) (a b : Int64) : Nat → Int64
  | 0 => a &&& b
  | n + 1 => cf_spr w h (cf_fld w h a b n) &&& b
theorem cf_fld_in {w h : Nat} {a b : Int64} (hb : cf_in w h b) : ∀ n, cf_in w h (cf_fld w h a b n)
  | 0 => fun q hq => by rw [cf_fld, cf_hand, Bool.and_eq_true] at hq; exact hb q hq.2
  | n + 1 => fun q hq => by rw [cf_fld, cf_hand, Bool.and_eq_true] at hq; exact hb q hq.2
theorem c120 {w h : Nat} (K1 : cf_K1 w h hi) (K3 : cf_K3 w h hl) {a b : Int64} (hb : cf_in w h b) (k : RL (cf_fld w h a b 64) hi hl v) : rx_CL L t 120 [.ref 7, .long a, .long b] hi hl v RL := by
  refine w120_flood ?_
  have loop : ∀ d i, i + d = 64 → rx_aw 120 8 [.ref 7, .long a, rx_no, .long b, rx_no, .long (cf_fld w h a b i), rx_no, .int (nI i)] [] (rx_hp L t hi hl v) (fun r h2 => ∃ z : Int64, r = some (.long z) ∧ rx_ok2 L t h2 (RL z)) := by
    intro d
    induction d with
    | zero =>
      intro i hi0
      have : i = 64 := by omega
      subst this
      exact w120_flood_8 ⟨fun _ => c_retL k, fun g => absurd (by decide) g⟩
    | succ d ih =>
      intro i hi0
      refine w120_flood_8 ⟨fun g => ?_, fun _ => c78 K1 K3 (cf_fld_in hb i) ?_⟩
      · rw [show (64 : Int32) = nI 64 from rfl, nI_leI (by decide) (by omega)] at g; omega
      · rw [nI_1]; exact ih (i + 1) (by omega)
  exact loop 64 0 (by omega)
end RXE
