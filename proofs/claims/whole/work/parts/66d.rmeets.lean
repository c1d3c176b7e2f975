/-! The reference: BARRED, SHELVES' squares, FITTING, MEETING. -/
/-- a world of the reference: STANCES, squares of SHELVES, stands, HOLDS -/
def cf_RW (n m : Nat) (st sp : Nat → Nat → Nat) (sd hd : Nat → Nat → Int64) (hi : Nat → Nat → Int32) (hl : Nat → Nat → Int64) : Prop :=
  (∀ c, c < n → ∀ u, u < 402 → hi 101 (402 * c + u) = nI (st u c % 64) ∧ hi 102 (402 * c + u) = nI (st u c / 64 % 4) ∧ hi 103 (402 * c + u) = oI (st u c / 256) ∧ hl 105 (402 * c + u) = sd u c ∧ hl 106 (402 * c + u) = hd u c ∧ st u c < 2 ^ 20)
  ∧ (∀ s, s < m → ∀ u, u < 402 → hi 108 (402 * s + u) = nI (sp u s) ∧ sp u s < 64)
theorem cf_RW_NW {S : cf_S} {hi : Nat → Nat → Int32} {hl : Nat → Nat → Int64} (V : cf_V S) (N : cf_NW S hi hl) : cf_RW (S 0 2) (S 0 3) (cf_st S) (cf_sp S) (cf_sd S) (cf_hd S) hi hl := by
  have h12 := V.2.2.2.1
  have hwh := cf_V_wh V
  refine ⟨fun c hc u hu => ?_, fun s hs u hu => ⟨N.2 s hs u hu, ?_⟩⟩
  · obtain ⟨a, b, d, e, f⟩ := (N.1 c hc).1 u hu
    have := ((cf_wv V u).1 c hc).2
    exact ⟨a, b, d, e, f, by omega⟩
  · have := (cf_wv V u).2 s hs; omega
theorem cf_RW_N {S : cf_S} {ck nl : Nat} {hi : Nat → Nat → Int32} {hl : Nat → Nat → Int64} (V : cf_V S) (N : cf_N S ck nl hi hl) : cf_RW (S 0 2) (S 0 3) (cf_vt S ck nl) (cf_vp S ck nl) (cf_vd S ck nl) (cf_vh S ck nl) hi hl := by
  have h12 := V.2.2.2.1
  have hwh := cf_V_wh V
  refine ⟨fun c hc u hu => ?_, fun s hs u hu => ⟨N.2 s hs u hu, ?_⟩⟩
  · obtain ⟨a, b, d, e, f⟩ := (N.1 c hc).1 u hu
    have := ((cf_vv V ck nl u).1 c hc).2
    exact ⟨a, b, d, e, f, by omega⟩
  · have := (cf_vv V ck nl u).2 s hs; omega
def cf_sqg (m : Nat) (sp : Nat → Nat → Nat) (t x : Nat) : Int64 := cf_un (fun s => if s + 1 = x then 0 else cf_bt (sp t s)) m
def cf_fit (S : cf_S) (st sp : Nat → Nat → Nat) (hd : Nat → Nat → Int64) (c t : Nat) : Bool := decide ((hd t c &&& cf_bar S) = 0) && (decide (S 3 c = 1 ∧ st t c / 256 = 0) || decide ((hd t c &&& cf_sqg (S 0 3) sp t (st t c / 256)) = 0))
def cf_mtg (sd hd : Nat → Nat → Int64) (a b t : Nat) : Bool := decide (¬ (hd t a &&& hd t b) = 0) || (decide (0 < t) && cf_swap (sd (t - 1) a) (sd t a) (sd (t - 1) b) (sd t b))
def cf_mta (n : Nat) (sd hd : Nat → Nat → Int64) (c t : Nat) : Bool := cf_any (fun o => !decide (o = c) && cf_mtg sd hd c o t) n
section RXE
variable {L : Nat} {t : List (Nat × Nat)} {hi : Nat → Nat → Int32} {hl : Nat → Nat → Int64} {v : Nat → Nat → Option Nat}
variable {RI : Int32 → (Nat → Nat → Int32) → (Nat → Nat → Int64) → (Nat → Nat → Option Nat) → Prop}
variable {RL : Int64 → (Nat → Nat → Int32) → (Nat → Nat → Int64) → (Nat → Nat → Option Nat) → Prop}
theorem c168 {S : cf_S} (V : cf_V S) (M : cf_M S hi) {q : Nat} (hq : q < S 0 0 * S 0 1) (k : RI (cf_B (cf_isb S q)) hi hl v) : rx_CI L t 168 [.ref 90, .int (nI q)] hi hl v RI := by
  have hwh := cf_V_wh V
  obtain ⟨hw2, hw8, hh2, hh8, hw, hh, hs⟩ := M.1
  have hdv : q / S 0 0 < S 0 1 := (Nat.div_lt_iff_lt_mul (by omega)).mpr (by rw [Nat.mul_comm]; exact hq)
  have e1 : hi 91 q = (1 : Int32) ↔ S 1 q = 1 := by rw [M.2.2.2.1 q (by omega), show (1 : Int32) = nI 1 from rfl, nI_eq (by have := V.2.2.2.2.1 q; omega) (by decide)]
  have e2 : hi 92 (q / S 0 0) = 0 ↔ S 2 (q / S 0 0) = 0 := by
    have := V.2.2.2.2.2.1 (q / S 0 0)
    rw [M.2.2.2.2.1 (q / S 0 0) (Nat.lt_of_lt_of_le hdv hh8), show (0 : Int32) = nI 0 from rfl, nI_eq (Nat.lt_of_le_of_lt this (by decide)) (by decide)]
  have h1 := V.2.2.2.2.2.1 (q / S 0 0)
  unfold cf_isb at k
  refine w168_isBarred_r ⟨q, rfl, by omega, fun g => c_retI ?_, fun g => ⟨by rw [hw]; exact nI_ne0 (by omega) (by omega), q / S 0 0, by rw [hw]; exact cf_ndiv (by omega) (by omega), Nat.lt_of_lt_of_le hdv hh8, fun g2 => c_retI ?_, fun g2 => c_retI ?_⟩⟩
  · rw [decide_eq_true (e1.mp g), Bool.true_or] at k; exact k
  · rw [e2] at g2
    rw [decide_eq_false (mt e1.mpr g), decide_eq_false (by rw [g2]; decide)] at k; exact k
  · rw [e2] at g2
    generalize S 2 (q / S 0 0) = y at *
    rw [decide_eq_true (show y = 1 by omega), Bool.or_true] at k; exact k
theorem c167 {S : cf_S} (V : cf_V S) (M : cf_M S hi) (k : RL (cf_bar S) hi hl v) : rx_CL L t 167 [.ref 90] hi hl v RL := by
  have hwh := cf_V_wh V
  have e2 := M.1.2.2.2.2.2.2
  refine w167_barred_r ?_
  have loop : ∀ d i, i + d = S 0 0 * S 0 1 → rx_aw 167 4 [.ref 90, .long (cf_un (fun q => bif cf_isb S q then cf_bt q else 0) i), rx_no, .int (nI i)] [] (rx_hp L t hi hl v) (fun r h2 => ∃ z : Int64, r = some (.long z) ∧ rx_ok2 L t h2 (RL z)) := by
    intro d
    induction d with
    | zero =>
      intro i hi0
      have : i = S 0 0 * S 0 1 := by omega
      subst this
      refine w167_barred_r_4 ⟨fun _ => c_retL k, fun g => absurd ?_ g⟩
      rw [e2]; exact nI_le (Nat.le_refl _) (by omega)
    | succ d ih =>
      intro i hi0
      have := ih (i + 1) (by omega)
      refine w167_barred_r_4 ⟨fun g => ?_, fun _ => c168 V M (by omega) ⟨fun g => ?_, fun g => c169 (by omega) ?_⟩⟩
      · rw [e2] at g; exact absurd g (nI_ge (by omega) (by omega))
      · rw [nI_1]
        rw [cf_un, cf_B_eq g] at this; exact this
      · rw [nI_1]
        rw [cf_un, cf_B_ne g] at this; exact this
  exact loop (S 0 0 * S 0 1) 0 (by omega)
theorem c170 {S : cf_S} (V : cf_V S) (M : cf_M S hi) {c l : Nat} (hc : c < S 0 2) (hl' : l < 2 ^ 20) (k : RI (cf_B (!decide (S 3 c = 1 ∧ l = 0))) hi hl v) : rx_CI L t 170 [.ref 90, .int (nI c), .int (oI l)] hi hl v RI := by
  have h6 := V.2.2.1
  have hkd := (V.2.2.2.2.2.2.1 c hc).1
  have e1 : hi 93 c = (1 : Int32) ↔ S 3 c = 1 := by rw [(M.2.2.2.2.2.1 c hc).1, show (1 : Int32) = nI 1 from rfl, nI_eq (by omega) (by decide)]
  refine w170_minds_r ⟨c, rfl, by omega, fun g => ⟨fun g2 => c_retI ?_, fun g2 => c_retI ?_⟩, fun g => c_retI ?_⟩
  · rw [cf_oneg (by omega)] at g2
    rw [decide_eq_true ⟨e1.mp g, g2⟩] at k; exact k
  · rw [cf_oneg (by omega)] at g2
    rw [decide_eq_false (fun q => g2 q.2)] at k; exact k
  · rw [decide_eq_false (fun q => g (e1.mpr q.1))] at k; exact k
theorem c171 {n m : Nat} {st sp : Nat → Nat → Nat} {sd hd : Nat → Nat → Int64} (hmm : hi 90 21 = nI m) (hm : m ≤ 12) (W : cf_RW n m st sp sd hd hi hl) {j x : Nat} (hj : j < 402) (hx : x < 2 ^ 20) (k : RL (cf_sqg m sp j x) hi hl v) : rx_CL L t 171 [.ref 90, .int (nI j), .int (oI x)] hi hl v RL := by
  refine w171_shelfSquares_r ?_
  have loop : ∀ d i, i + d = m → rx_aw 171 5 [.ref 90, .int (nI j), .int (oI x), .long (cf_un (fun s => if s + 1 = x then 0 else cf_bt (sp j s)) i), rx_no, .int (nI i)] [] (rx_hp L t hi hl v) (fun r h2 => ∃ z : Int64, r = some (.long z) ∧ rx_ok2 L t h2 (RL z)) := by
    intro d
    induction d with
    | zero =>
      intro i hi0
      have : i = m := by omega
      subst this
      refine w171_shelfSquares_r_5 ⟨fun _ => c_retL k, fun g => absurd ?_ g⟩
      rw [hmm]; exact nI_le (Nat.le_refl _) (by omega)
    | succ d ih =>
      intro i hi0
      have := ih (i + 1) (by omega)
      have hsp := W.2 i (by omega) j hj
      refine w171_shelfSquares_r_5 ⟨fun g => ?_, fun _ => ⟨fun g => ?_, fun g => ⟨402 * i + j, cf_402, by omega, ?_⟩⟩⟩
      · rw [hmm] at g; exact absurd g (nI_ge (by omega) (by omega))
      · have g2 : i + 1 = x := ((cf_oneq (by omega) (by omega)).mp g.symm).symm
        rw [nI_1]
        rw [cf_un, if_pos g2] at this; exact this
      · have g2 : ¬ i + 1 = x := fun q => g ((cf_oneq (by omega) (by omega)).mpr q.symm).symm
        rw [nI_1, hsp.1]
        rw [cf_un, if_neg g2] at this
        exact c169 hsp.2 this
  exact loop m 0 (by omega)
theorem c176 {a b c d : Int64} (k : RI (cf_B (cf_swap a b c d)) hi hl v) : rx_CI L t 176 [.long a, .long b, .long c, .long d] hi hl v RI := by
  unfold cf_swap at k
  refine w176_swaps_r ⟨fun g => c_retI ?_, fun g => ⟨fun g2 => c_retI ?_, fun g2 => ⟨fun g3 => ⟨fun g4 => c_retI ?_, fun g4 => c_retI ?_⟩, fun g3 => c_retI ?_⟩⟩⟩
  · rw [cf_cmp0] at g
    rw [decide_eq_false (fun q => q g), Bool.false_and, Bool.false_and] at k; exact k
  · rw [cf_cmp0] at g2
    rw [decide_eq_false (p := ¬ (b &&& c) = 0) (fun q => q g2), Bool.and_false, Bool.false_and] at k; exact k
  · rw [cf_cmp0] at g g2 g3 g4
    rw [decide_eq_true g, decide_eq_true g2, decide_eq_false (p := ¬ (a &&& d) = (b &&& c)) (fun q => q g3), decide_eq_false (fun q => q g4)] at k; exact k
  · rw [cf_cmp0] at g g2 g3 g4
    rw [decide_eq_true g, decide_eq_true g2, decide_eq_true g4, Bool.or_true] at k; exact k
  · rw [cf_cmp0] at g g2 g3
    rw [decide_eq_true g, decide_eq_true g2, decide_eq_true g3] at k; exact k
theorem c173 {S : cf_S} (V : cf_V S) (M : cf_M S hi) {st sp : Nat → Nat → Nat} {sd hd : Nat → Nat → Int64} (W : cf_RW (S 0 2) (S 0 3) st sp sd hd hi hl) {c j : Nat} (hc : c < S 0 2) (hj : j < 402) (k : RI (cf_B (cf_fit S st sp hd c j)) hi hl v) : rx_CI L t 173 [.ref 90, .int (nI c), .int (nI j)] hi hl v RI := by
  have h6 := V.2.2.1
  have h12 := V.2.2.2.1
  obtain ⟨_, _, w3, _, w5, w6⟩ := W.1 c hc j hj
  unfold cf_fit at k
  refine w173_fits_r ⟨402 * c + j, cf_402, by omega, c167 V M ⟨fun g => ⟨402 * c + j, cf_402, by omega, ?_⟩, fun g => c_retI ?_⟩⟩
  · rw [cf_cmp0, w5] at g
    rw [w3]
    refine c170 V M hc (by omega) ⟨fun g2 => c_retI ?_, fun g2 => ⟨402 * c + j, cf_402, by omega, 402 * c + j, cf_402, by omega, ?_⟩⟩
    · have := cf_B_eq g2
      rw [Bool.not_eq_false'] at this
      rw [decide_eq_true g, this] at k; exact k
    · have := cf_B_ne g2
      rw [Bool.not_eq_true'] at this
      rw [decide_eq_true g, this, Bool.true_and, Bool.false_or] at k
      rw [w3, w5]
      refine c171 M.2.2.1 h12 W hj (by omega) ⟨fun g3 => c_retI ?_, fun g3 => c_retI ?_⟩
      · rw [cf_cmp0] at g3
        rw [decide_eq_true g3] at k; exact k
      · rw [cf_cmp0] at g3
        rw [decide_eq_false g3] at k; exact k
  · rw [cf_cmp0, w5] at g
    rw [decide_eq_false g, Bool.false_and] at k; exact k
theorem c175 {n m : Nat} {st sp : Nat → Nat → Nat} {sd hd : Nat → Nat → Int64} (W : cf_RW n m st sp sd hd hi hl) (h6 : n ≤ 6) {a b j : Nat} (ha : a < n) (hb : b < n) (hj : j < 402) (k : RI (cf_B (cf_mtg sd hd a b j)) hi hl v) : rx_CI L t 175 [.ref 90, .int (nI a), .int (nI b), .int (nI j)] hi hl v RI := by
  obtain ⟨_, _, _, a4, a5, _⟩ := W.1 a ha j hj
  obtain ⟨_, _, _, b4, b5, _⟩ := W.1 b hb j hj
  unfold cf_mtg at k
  refine w175_meets_r ⟨402 * a + j, cf_402, by omega, 402 * b + j, cf_402, by omega, fun g => ⟨fun g2 => c_retI ?_, fun g2 => ?_⟩, fun g => c_retI ?_⟩
  · rw [cf_cmp0, a5, b5] at g
    rw [show (0 : Int32) = nI 0 from rfl, nI_leI (by omega) (by decide)] at g2
    rw [decide_eq_false (fun q => q g), decide_eq_false (show ¬ 0 < j by omega)] at k; exact k
  · rw [cf_cmp0, a5, b5] at g
    rw [show (0 : Int32) = nI 0 from rfl, nI_leI (by omega) (by decide)] at g2
    rw [decide_eq_false (fun q => q g), decide_eq_true (show 0 < j by omega), Bool.false_or, Bool.true_and] at k
    obtain ⟨_, _, _, a6, _, _⟩ := W.1 a ha (j - 1) (by omega)
    obtain ⟨_, _, _, b6, _, _⟩ := W.1 b hb (j - 1) (by omega)
    have pr : ∀ c, (402 : Int32) * nI c + nI j - (1 : Int32) = nI (402 * c + (j - 1)) := by
      intro c
      rw [cf_402, show (1 : Int32) = nI 1 from rfl, cf_nsub (by omega)]; congr 1; omega
    refine ⟨402 * a + (j - 1), pr a, by omega, 402 * a + j, cf_402, by omega, 402 * b + (j - 1), pr b, by omega, 402 * b + j, cf_402, by omega, ?_⟩
    rw [a4, b4, a6, b6]
    refine c176 ⟨fun g3 => c_retI ?_, fun g3 => c_retI ?_⟩
    · rw [cf_B_eq g3] at k; exact k
    · rw [cf_B_ne g3] at k; exact k
  · rw [cf_cmp0, a5, b5] at g
    rw [decide_eq_true g, Bool.true_or] at k; exact k
theorem c174 {n m : Nat} {st sp : Nat → Nat → Nat} {sd hd : Nat → Nat → Int64} (hn : hi 90 6 = nI n) (W : cf_RW n m st sp sd hd hi hl) (h6 : n ≤ 6) {c j : Nat} (hc : c < n) (hj : j < 402) (k : RI (cf_B (cf_mta n sd hd c j)) hi hl v) : rx_CI L t 174 [.ref 90, .int (nI c), .int (nI j)] hi hl v RI := by
  refine w174_meetsAny_r ?_
  have loop : ∀ d i, i + d = n → rx_aw 174 5 [.ref 90, .int (nI c), .int (nI j), .int (cf_B (cf_any (fun o => !decide (o = c) && cf_mtg sd hd c o j) i)), .int (nI i)] [] (rx_hp L t hi hl v) (fun r h2 => ∃ z : Int32, r = some (.int z) ∧ rx_ok2 L t h2 (RI z)) := by
    intro d
    induction d with
    | zero =>
      intro i hi0
      have : i = n := by omega
      subst this
      refine w174_meetsAny_r_5 ⟨fun _ => ⟨cf_B01 _, c_retI k⟩, fun g => absurd ?_ g⟩
      rw [hn]; exact nI_le (Nat.le_refl _) (by omega)
    | succ d ih =>
      intro i hi0
      have := ih (i + 1) (by omega)
      refine w174_meetsAny_r_5 ⟨fun g => ?_, fun _ => ⟨fun g => ?_, fun g => c175 W h6 hc (by omega) hj ⟨fun g2 => ?_, fun g2 => ?_⟩⟩⟩
      · rw [hn] at g; exact absurd g (nI_ge (by omega) (by omega))
      · rw [nI_eq (by omega) (by omega)] at g
        rw [nI_1, cf_Bor0]
        rw [cf_any, decide_eq_true g, Bool.not_true, Bool.false_and, Bool.or_false] at this; exact this
      · rw [nI_eq (by omega) (by omega)] at g
        rw [nI_1, cf_Bor0]
        rw [cf_any, decide_eq_false g, cf_B_eq g2, Bool.and_false, Bool.or_false] at this; exact this
      · rw [nI_eq (by omega) (by omega)] at g
        rw [nI_1, cf_Bor1]
        rw [cf_any, decide_eq_false g, cf_B_ne g2, Bool.not_false, Bool.true_and, Bool.or_true] at this; exact this
  exact loop n 0 (by omega)
theorem c189 {kd d m : Nat} (hk : kd < 4) (hd : d < 4) (hm : m ≤ 4) (k : RI (cf_B (cf_itn kd d m)) hi hl v) : rx_CI L t 189 [.ref 90, .int (nI kd), .int (nI d), .int (nI m)] hi hl v RI := by
  have e3 : nI m = (3 : Int32) ↔ m = 3 := by rw [show (3 : Int32) = nI 3 from rfl, nI_eq (by omega) (by decide)]
  have e4 : nI m = (4 : Int32) ↔ m = 4 := by rw [show (4 : Int32) = nI 4 from rfl, nI_eq (by omega) (by decide)]
  have e0 : nI m ≤ 0 ↔ m ≤ 0 := by rw [show (0 : Int32) = nI 0 from rfl, nI_leI (by omega) (by decide)]
  unfold cf_itn at k
  refine w189_turnsOf_r (c180 hk ⟨fun g => ⟨fun g2 => c_retI ?_, fun g2 => ⟨fun g3 => c_retI ?_, fun g3 => c_retI ?_⟩⟩, fun g => ⟨fun g2 => c_retI ?_, fun g2 => ⟨fun g3 => c_retI ?_, fun g3 => c_retI ?_⟩⟩⟩)
  · rw [e0] at g2
    rw [cf_B_eq g, cond_false, decide_eq_false (show ¬ 1 ≤ m by omega)] at k; exact k
  · rw [e0] at g2
    rw [show (1 : Int32) = nI 1 from rfl, cf_nsub (by omega), nI_eq (by omega) (by omega)] at g3
    rw [cf_B_eq g, cond_false, decide_eq_true (show m = d + 1 by omega), Bool.not_true, Bool.and_false] at k; exact k
  · rw [e0] at g2
    rw [show (1 : Int32) = nI 1 from rfl, cf_nsub (by omega), nI_eq (by omega) (by omega)] at g3
    rw [cf_B_eq g, cond_false, decide_eq_true (show 1 ≤ m by omega), decide_eq_true hm, decide_eq_false (show ¬ m = d + 1 by omega)] at k; exact k
  · rw [cf_B_ne g, cond_true, decide_eq_true (e3.mp g2)] at k; exact k
  · rw [cf_B_ne g, cond_true, decide_eq_true (e4.mp g3), Bool.or_true] at k; exact k
  · rw [cf_B_ne g, cond_true, decide_eq_false (mt e3.mpr g2), decide_eq_false (mt e4.mpr g3)] at k; exact k
theorem c187 {x : Int64} {j : Nat} (hj : j < 402) (k : RI (cf_B (decide ((x &&& ((hl 90 43 ||| hl 117 j) ||| hl 119 j)) = 0))) hi hl v) : rx_CI L t 187 [.ref 90, .long x, .int (nI j)] hi hl v RI := by
  refine w187_isFree_r ⟨j, rfl, hj, j, rfl, hj, fun g => c_retI ?_, fun g => c_retI ?_⟩
  · rw [cf_cmp0] at g; rw [decide_eq_true g] at k; exact k
  · rw [cf_cmp0] at g; rw [decide_eq_false g] at k; exact k
end RXE
