/-! Two squares or more in a set, by two formulas; what is blocked for a cart; MEETING. -/
theorem cf_sum_ge {f : Nat → Nat} : ∀ {n i : Nat}, i < n → f i ≤ cf_sum f n
  | 0, i, h => by omega
  | n + 1, i, h => by
    rw [cf_sum]
    by_cases e : i = n
    · subst e; omega
    · have := cf_sum_ge (f := f) (n := n) (i := i) (by omega); omega
theorem cf_sum_two {f : Nat → Nat} : ∀ {n i j : Nat}, i < j → j < n → f i + f j ≤ cf_sum f n
  | 0, i, j, _, h => by omega
  | n + 1, i, j, h1, h => by
    rw [cf_sum]
    by_cases e : j = n
    · subst e
      have := cf_sum_ge (f := f) h1; omega
    · have := cf_sum_two (f := f) (n := n) h1 (show j < n by omega); omega
theorem cf_sum_le1 {p : Nat → Bool} : ∀ {n : Nat}, (∀ i j, i < j → j < n → ¬ (p i = true ∧ p j = true)) → cf_sum (fun q => bif p q then 1 else 0) n ≤ 1
  | 0, _ => Nat.zero_le _
  | n + 1, h => by
    rw [cf_sum]
    cases e : p n with
    | false =>
      have := cf_sum_le1 (p := p) (n := n) (fun i j h1 h2 => h i j h1 (by omega))
      rw [cond_false]; omega
    | true =>
      have h0 : ∀ m, m ≤ n → cf_sum (fun q => bif p q then 1 else 0) m = 0 := by
        intro m
        induction m with
        | zero => intro _; rfl
        | succ m ih =>
          intro hm
          rw [cf_sum, ih (by omega)]
          cases e2 : p m with
          | false => rfl
          | true => exact absurd ⟨e2, e⟩ (h m n (by omega) (by omega))
      rw [h0 n (Nat.le_refl _), cond_true]
      exact Nat.le_refl _
/-- two squares or more -/
def cf_two2 (x : Int64) : Prop := ∃ p q, p < q ∧ q < 64 ∧ cf_has x p = true ∧ cf_has x q = true
theorem cf_pop_two {x : Int64} : 1 < cf_pop x ↔ cf_two2 x := by
  unfold cf_pop
  constructor
  · intro h
    apply Classical.byContradiction
    intro g
    have := cf_sum_le1 (p := cf_has x) (n := 64) (fun i j h1 h2 h3 => g ⟨i, j, h1, h2, h3.1, h3.2⟩)
    omega
  · intro ⟨p, q, h1, h2, h3, h4⟩
    have := cf_sum_two (f := fun q => bif cf_has x q then 1 else 0) h1 h2
    rw [h3, h4] at this
    exact this
theorem cf_low_two {x : Int64} : ¬ (x &&& (x - 1)) = 0 ↔ cf_two2 x := by
  constructor
  · intro h
    apply Classical.byContradiction
    intro g
    apply h
    by_cases h0 : x = 0
    · rw [h0]; rfl
    · obtain ⟨p, hp, hx⟩ := cf_hne.mp h0
      have : x = cf_bt p := by
        apply cf_ext
        intro q hq
        rw [cf_hbt, decide_eq_true hp, Bool.true_and]
        by_cases e : p = q
        · rw [← e, hx, decide_eq_true rfl]
        · rw [decide_eq_false e]
          cases hq2 : cf_has x q with
          | false => rfl
          | true =>
            rcases Nat.lt_or_gt_of_ne e with l | l
            · exact absurd ⟨p, q, l, hq, hx, hq2⟩ g
            · exact absurd ⟨q, p, l, hp, hq2, hx⟩ g
      rw [this]
      have hd : ∀ i : Fin 64, (cf_bt i.val &&& (cf_bt i.val - 1)) = 0 := by decide +kernel
      exact hd ⟨p, hp⟩
  · intro ⟨p, q, h1, h2, h3, h4⟩
    rw [cf_hne]
    refine ⟨q, h2, ?_⟩
    rw [cf_hand, h4, Bool.true_and]
    have hb : ∀ y : Int64, ∀ i, cf_has y i = (cf_u y).testBit i := fun y i => rfl
    rw [hb] at h3 h4 ⊢
    have hu : 1 ≤ cf_u x := by
      rcases Nat.eq_zero_or_pos (cf_u x) with e | e
      · rw [e, Nat.zero_testBit] at h4; cases h4
      · exact e
    rw [cf_u_sub x 1 (by exact hu), show cf_u 1 = 1 from rfl]
    rw [Nat.testBit_eq_decide_div_mod_eq, decide_eq_true_iff] at h3 h4 ⊢
    have hr : 0 < cf_u x % 2 ^ q := by
      rcases Nat.eq_zero_or_pos (cf_u x % 2 ^ q) with e | e
      · obtain ⟨m, hm⟩ := Nat.dvd_of_mod_eq_zero e
        have : 2 ^ q = 2 ^ p * (2 * 2 ^ (q - p - 1)) := by
          rw [← Nat.pow_succ', ← Nat.pow_add]; congr 1; omega
        rw [hm, this, Nat.mul_assoc, Nat.mul_div_cancel_left _ (Nat.two_pow_pos p), Nat.mul_assoc, Nat.mul_mod_right] at h3
        omega
      · exact e
    have e1 : (cf_u x - 1) / 2 ^ q = cf_u x / 2 ^ q := by
      have hdm := Nat.div_add_mod (cf_u x) (2 ^ q)
      have hlt := Nat.mod_lt (cf_u x) (Nat.two_pow_pos q)
      generalize cf_u x / 2 ^ q = a at *
      generalize cf_u x % 2 ^ q = b at *
      have : cf_u x - 1 = (b - 1) + 2 ^ q * a := by omega
      rw [this, Nat.add_mul_div_left _ _ (Nat.two_pow_pos q), Nat.div_eq_of_lt (by omega), Nat.zero_add]
    rw [e1]; exact h4
section RXE
variable {L : Nat} {t : List (Nat × Nat)} {hi : Nat → Nat → Int32} {hl : Nat → Nat → Int64} {v : Nat → Nat → Option Nat}
variable {RI : Int32 → (Nat → Nat → Int32) → (Nat → Nat → Int64) → (Nat → Nat → Option Nat) → Prop}
variable {RL : Int64 → (Nat → Nat → Int32) → (Nat → Nat → Int64) → (Nat → Nat → Option Nat) → Prop}
theorem cf_pop_le (x : Int64) : cf_pop x ≤ 64 := by
  unfold cf_pop
  have : ∀ n, cf_sum (fun q => bif cf_has x q then 1 else 0) n ≤ n := by
    intro n
    induction n with
    | zero => exact Nat.le_refl _
    | succ n ih => rw [cf_sum]; cases cf_has x n <;> simp only [cond_true, cond_false] <;> omega
  exact this 64
theorem c93 {a b c d : Int64} (k : RI (cf_B (cf_swap a b c d)) hi hl v) : rx_CI L t 93 [.long a, .long b, .long c, .long d] hi hl v RI := by
  unfold cf_swap at k
  refine w93_swap ⟨fun g => c_retI ?_, fun g => ⟨fun g2 => c_retI ?_, fun g2 => ⟨fun g3 => c13 ⟨fun g4 => c_retI ?_, fun g4 => c_retI ?_⟩, fun g3 => c_retI ?_⟩⟩⟩
  · rw [cf_cmp0] at g
    rw [decide_eq_false (fun q => q g), Bool.false_and, Bool.false_and] at k; exact k
  · rw [cf_cmp0] at g2
    rw [decide_eq_false (p := ¬ (b &&& c) = 0) (fun q => q g2), Bool.and_false, Bool.false_and] at k; exact k
  · rw [cf_cmp0] at g g2 g3
    rw [show (1 : Int32) = nI 1 from rfl, nI_leI (by have := cf_pop_le (a &&& d); omega) (by decide)] at g4
    have : ¬ ¬ ((a &&& d) &&& ((a &&& d) - 1)) = 0 := fun q => by
      have := cf_pop_two.mpr (cf_low_two.mp q); omega
    rw [decide_eq_true g, decide_eq_true g2, decide_eq_false (p := ¬ (a &&& d) = (b &&& c)) (fun q => q g3), decide_eq_false this] at k; exact k
  · rw [cf_cmp0] at g g2 g3
    rw [show (1 : Int32) = nI 1 from rfl, nI_leI (by have := cf_pop_le (a &&& d); omega) (by decide)] at g4
    have : ¬ ((a &&& d) &&& ((a &&& d) - 1)) = 0 := cf_low_two.mpr (cf_pop_two.mp (by omega))
    rw [decide_eq_true g, decide_eq_true g2, decide_eq_true this, Bool.or_true] at k; exact k
  · rw [cf_cmp0] at g g2 g3
    rw [decide_eq_true g, decide_eq_true g2, decide_eq_true g3] at k; exact k
/-- what all carts but one HOLD -/
def cf_oth (S : cf_S) (c t : Nat) : Int64 := cf_un (fun o => if o = c then 0 else cf_hd S t o) (S 0 2)
/-- what a cart must not HOLD at a tick, carrying a SHELF (given with 1 more) or none -/
def cf_blk (S : cf_S) (c l t : Nat) : Int64 := cf_of (fun q => decide (¬ q < S 0 0 * S 0 1)) ||| cf_bar S ||| cf_oth S c t ||| (if S 3 c = 1 ∧ l = 0 then 0 else cf_sq S t l)
theorem cf_ct_inj {i c : Nat} : ((some (rx_ct i) : Option Nat) = (some (rx_ct c) : Option Nat)) ↔ i = c := by
  rw [Option.some_inj]; unfold rx_ct; omega
theorem c66 {S : cf_S} (X : cf_XR S hi hl) {c l j : Nat} (hc : c < S 0 2) (hl' : l < 2 ^ 20) (hj : j < 2 ^ 31) (k : RL (cf_blk S c l j) hi hl v) : rx_CL L t 66 [.ref 13, .ref (rx_ct c), .int (oI l), .int (nI j)] hi hl v RL := by
  have V := X.1.1
  have h6 := V.2.2.1
  have hC := X.1.2.2.2.2.1.2.2.1 c hc
  have hkd := (V.2.2.2.2.2.2.1 c hc).1
  have e1 : hi (rx_ct c) 5 = (1 : Int32) ↔ S 3 c = 1 := by rw [hC.1, show (1 : Int32) = nI 1 from rfl, nI_eq (by omega) (by decide)]
  have ea : hl 7 2 ^^^ -1 = cf_of (fun q => decide (¬ q < S 0 0 * S 0 1)) := by
    apply cf_ext
    intro q hq
    rw [cf_hnot, cf_has_of, (X.1.2.2.2.1 q hq).1, decide_eq_true hq, Bool.true_and, Bool.true_and]
    by_cases g : q < S 0 0 * S 0 1
    · rw [decide_eq_true g, decide_eq_false (fun q => q g)]; rfl
    · rw [decide_eq_false g, decide_eq_true g]; rfl
  refine w66_blockedFor (by omega) ?_
  rw [ea, X.1.2.2.2.2.2.2.2]
  unfold cf_blk cf_oth at k
  generalize hB : cf_of (fun q => decide (¬ q < S 0 0 * S 0 1)) ||| cf_bar S = B at *
  have loop : ∀ d i, i + d = S 0 2 → rx_aw 66 24 [.ref 13, .ref (rx_ct c), .int (oI l), .int (nI j), .long (B ||| cf_un (fun o => if o = c then 0 else cf_hd S j o) i), rx_no, .int (nI i)] [] (rx_hp L t hi hl v) (fun r h2 => ∃ z : Int64, r = some (.long z) ∧ rx_ok2 L t h2 (RL z)) := by
    intro d
    induction d with
    | zero =>
      intro i hi0
      have : i = S 0 2 := by omega
      subst this
      refine w66_blockedFor_24 (by omega) ⟨fun _ => ⟨fun g => ⟨fun g2 => c37 X hj hl' (c_retL ?_), fun g2 => c_retL ?_⟩, fun g => c37 X hj hl' (c_retL ?_)⟩, fun g => absurd ?_ g⟩
      · rw [cf_ole (by omega)] at g2
        rw [if_neg (by omega)] at k; exact k
      · rw [cf_ole (by omega)] at g2
        rw [if_pos ⟨e1.mp g, by omega⟩, cf_or0] at k; exact k
      · rw [if_neg (fun q => g (e1.mpr q.1))] at k; exact k
      · rw [X.1.2.2.2.2.1.1]; exact nI_le (Nat.le_refl _) (by omega)
    | succ d ih =>
      intro i hi0
      have := ih (i + 1) (by omega)
      refine w66_blockedFor_24 (by omega) ⟨fun g => ?_, fun _ => ⟨i, rfl, by omega, fun g => ?_, fun g => ⟨i, rfl, by omega, min j (cf_set S), cf_min (cf_Rs X (by omega)) (cf_set_lt V) hj, ?_, ?_⟩⟩⟩
      · rw [X.1.2.2.2.2.1.1] at g; exact absurd g (nI_ge (by omega) (by omega))
      · rw [cf_ct_inj] at g
        rw [nI_1]
        rw [cf_un, if_pos g, cf_or0] at this; exact this
      · have := cf_set_lt V; omega
      · rw [cf_ct_inj] at g
        rw [nI_1, ((X.2.2.1 i (by omega)).1 _ (Nat.min_le_right _ _)).2.2, cf_hd_min j (by omega), cf_ora]
        rw [cf_un, if_neg g] at this; exact this
  have := loop (S 0 2) 0 (by omega)
  rw [cf_un, cf_or0] at this
  exact this
/-- whether a cart that goes from a stand to another, and HOLDS this at tick t, MEETS another one -/
def cf_mts (S : cf_S) (c : Nat) (a b x : Int64) (t : Nat) : Bool := cf_any (fun o => !decide (o = c) && (decide (¬ (cf_hd S t o &&& x) = 0) || (decide (0 < t) && cf_swap a b (cf_sd S (t - 1) o) (cf_sd S t o)))) (S 0 2)
theorem c92 {S : cf_S} (X : cf_XR S hi hl) {c j : Nat} (hc : c < S 0 2) (hj : j < 2 ^ 31) {a b x : Int64} (k : RI (cf_B (cf_mts S c a b x j)) hi hl v) : rx_CI L t 92 [.ref 13, .ref (rx_ct c), .long a, .long b, .long x, .int (nI j)] hi hl v RI := by
  have V := X.1.1
  have h6 := V.2.2.1
  have hs := cf_set_lt V
  refine w92_meetsAny (by omega) ?_
  rw [cf_min (cf_Rs X (by omega)) hs hj]
  unfold cf_mts at k
  have loop : ∀ d i, i + d = S 0 2 → cf_any (fun o => !decide (o = c) && (decide (¬ (cf_hd S j o &&& x) = 0) || (decide (0 < j) && cf_swap a b (cf_sd S (j - 1) o) (cf_sd S j o)))) i = false →
      rx_aw 92 14 [.ref 13, .ref (rx_ct c), .long a, rx_no, .long b, rx_no, .long x, rx_no, .int (nI j), .int (nI (min j (cf_set S))), .int (nI i), rx_no, rx_no, rx_no] [] (rx_hp L t hi hl v) (fun r h2 => ∃ z : Int32, r = some (.int z) ∧ rx_ok2 L t h2 (RI z)) := by
    intro d
    induction d with
    | zero =>
      intro i hi0 ha
      have : i = S 0 2 := by omega
      subst this
      rw [ha] at k
      refine w92_meetsAny_14 (by omega) ⟨fun _ => c_retI k, fun g => absurd ?_ g⟩
      rw [X.1.2.2.2.2.1.1]; exact nI_le (Nat.le_refl _) (by omega)
    | succ d ih =>
      intro i hi0 ha
      have hr := (X.2.2.1 i (by omega)).1
      have next : (!decide (i = c) && (decide (¬ (cf_hd S j i &&& x) = 0) || (decide (0 < j) && cf_swap a b (cf_sd S (j - 1) i) (cf_sd S j i)))) = false → rx_aw 92 14 [.ref 13, .ref (rx_ct c), .long a, rx_no, .long b, rx_no, .long x, rx_no, .int (nI j), .int (nI (min j (cf_set S))), .int (nI (i + 1)), rx_no, rx_no, rx_no] [] (rx_hp L t hi hl v) (fun r h2 => ∃ z : Int32, r = some (.int z) ∧ rx_ok2 L t h2 (RI z)) := fun hp => ih (i + 1) (by omega) (by rw [cf_any, ha, hp]; rfl)
      have yes : (!decide (i = c) && (decide (¬ (cf_hd S j i &&& x) = 0) || (decide (0 < j) && cf_swap a b (cf_sd S (j - 1) i) (cf_sd S j i)))) = true → RI 1 hi hl v := fun hp => by
        rw [cf_any_true (i := i) (by omega) hp] at k; exact k
      refine w92_meetsAny_14 (by omega) ⟨fun g => ?_, fun _ => ⟨i, rfl, by omega, fun g => ?_, fun g => ⟨min j (cf_set S), rfl, by omega, fun g2 => ⟨min (j - 1) (cf_set S), ?_, by omega, fun g3 => ?_, fun g3 => ⟨min j (cf_set S), rfl, by omega, c93 ⟨fun g4 => ?_, fun g4 => c_retI (yes ?_)⟩⟩⟩, fun g2 => c_retI (yes ?_)⟩⟩⟩
      · rw [X.1.2.2.2.2.1.1] at g; exact absurd g (nI_ge (by omega) (by omega))
      · rw [cf_ct_inj] at g
        rw [nI_1]
        exact next (by rw [decide_eq_true g]; rfl)
      · rcases Nat.eq_zero_or_pos j with h0 | h0
        · subst h0
          have em : (nI 0 - 1 : Int32) = -1 := rfl
          rw [em, Nat.zero_sub, Nat.zero_min]
          have e1 : ¬ hi 13 5 < -1 := by rw [cf_Rs X (by omega)]; rw [cf_lt, nI_toInt (by omega)]; show ¬ ((cf_set S : Nat) : Int) < -1; omega
          rw [if_neg e1]; rfl
        · have em : (nI j - 1 : Int32) = nI (j - 1) := by rw [show (1 : Int32) = nI 1 from rfl, cf_nsub (by omega)]
          rw [em, cf_min (cf_Rs X (by omega)) hs (by omega)]
          by_cases h1 : 0 < min (j - 1) (cf_set S)
          · rw [if_pos (by rw [show (0 : Int32) = nI 0 from rfl]; exact nI_lt h1 (by omega))]
          · rw [if_neg (by rw [show (0 : Int32) = nI 0 from rfl]; exact nI_nlt (by omega) (by omega))]
            rw [show min (j - 1) (cf_set S) = 0 by omega]; rfl
      · rw [cf_cmp0, (hr _ (Nat.min_le_right _ _)).2.2, cf_hd_min j (by omega)] at g2
        rw [show (0 : Int32) = nI 0 from rfl, nI_leI hj (by decide)] at g3
        rw [nI_1]
        exact next (by rw [decide_eq_false (p := ¬ (cf_hd S j i &&& x) = 0) (fun q => q g2), decide_eq_false (show ¬ 0 < j by omega), Bool.false_and, Bool.or_false, Bool.and_false])
      · rw [cf_cmp0, (hr _ (Nat.min_le_right _ _)).2.2, cf_hd_min j (by omega)] at g2
        rw [(hr _ (Nat.min_le_right _ _)).2.1, (hr _ (Nat.min_le_right _ _)).2.1, cf_sd_min j (by omega), cf_sd_min (j - 1) (by omega)] at g4
        rw [nI_1]
        exact next (by rw [decide_eq_false (p := ¬ (cf_hd S j i &&& x) = 0) (fun q => q g2), cf_B_eq g4, Bool.and_false, Bool.or_false, Bool.and_false])
      · rw [cf_ct_inj] at g
        rw [show (0 : Int32) = nI 0 from rfl, nI_leI hj (by decide)] at g3
        rw [(hr _ (Nat.min_le_right _ _)).2.1, (hr _ (Nat.min_le_right _ _)).2.1, cf_sd_min j (by omega), cf_sd_min (j - 1) (by omega)] at g4
        rw [decide_eq_false g, cf_B_ne g4, decide_eq_true (show 0 < j by omega), Bool.and_self, Bool.or_true]; rfl
      · rw [cf_ct_inj] at g
        rw [cf_cmp0, (hr _ (Nat.min_le_right _ _)).2.2, cf_hd_min j (by omega)] at g2
        rw [decide_eq_false g, decide_eq_true g2]; rfl
  exact loop (S 0 2) 0 (by omega) rfl
end RXE
