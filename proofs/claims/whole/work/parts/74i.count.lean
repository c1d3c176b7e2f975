/-! count of both. -/
def cf_fold (f : Nat → Nat → Nat) : Nat → Nat → Nat → Nat
  | 0, _, n => n
  | d + 1, i, n => cf_fold f d (i + 1) (f i n)
/-- one cart more -/
def cf_cs1 (S : cf_S) (w i n : Nat) : Nat := if w = 2 then n + (if 0 < S 5 i then 1 else 0) else if w = 3 then n + (if cf_op S i = true then 1 else 0) else if w = 4 then n + (if S 8 i = 1 then 1 else 0) else if w = 5 then n + (if S 8 i = 2 then 1 else 0) else if w = 6 then n + S 4 i else max n (S 4 i)
def cf_cta (S : cf_S) (w : Nat) : Nat := cf_fold (cf_cs1 S w) (S 0 2) 0 0
def cf_cto (S : cf_S) (d : Int32) (x : Int32) : Int32 := if ¬ (0 ≤ x.toInt ∧ x.toInt ≤ 8) then -2 else if x.toInt = 0 then nI (S 0 2) else if x.toInt = 1 then nI (S 0 3) else if x.toInt = 8 then d else nI (cf_cta S x.toInt.toNat)
theorem cf_cs1_le {S : cf_S} (V : cf_V S) {w i n b : Nat} (hc : i < S 0 2) (h : n ≤ b) : cf_cs1 S w i n ≤ b + 400 := by
  have := (V.2.2.2.2.2.2.1 i hc).2.2.2.1
  unfold cf_cs1
  repeat' split
  all_goals omega
section RXE
variable {L : Nat} {t : List (Nat × Nat)} {hi : Nat → Nat → Int32} {hl : Nat → Nat → Int64} {v : Nat → Nat → Option Nat}
variable {RI : Int32 → (Nat → Nat → Int32) → (Nat → Nat → Int64) → (Nat → Nat → Option Nat) → Prop}
variable {Q : Option Value → rx_H → Prop}
/-- a loop over the carts -/
theorem cf_lpc {S : cf_S} (V : cf_V S) {w m pc : Nat} {A : Nat → Nat → List Value} (st : ∀ i n, i < S 0 2 → n ≤ 400 * i → rx_aw m pc (A (cf_cs1 S w i n) (i + 1)) [] (rx_hp L t hi hl v) Q → rx_aw m pc (A n i) [] (rx_hp L t hi hl v) Q)
    (en : ∀ n, rx_aw m pc (A n (S 0 2)) [] (rx_hp L t hi hl v) Q ∨ ¬ n = cf_cta S w) : rx_aw m pc (A 0 0) [] (rx_hp L t hi hl v) Q := by
  have lp : ∀ d i n, i + d = S 0 2 → n ≤ 400 * i → cf_fold (cf_cs1 S w) d i n = cf_cta S w → rx_aw m pc (A n i) [] (rx_hp L t hi hl v) Q := by
    intro d
    induction d with
    | zero =>
      intro i n hid hn he
      have : i = S 0 2 := by omega
      subst this
      rcases en n with q | q
      · exact q
      · exact absurd he q
    | succ d ih =>
      intro i n hid hn he
      refine st i n (by omega) hn (ih (i + 1) _ (by omega) ?_ he)
      have := cf_cs1_le V (w := w) (i := i) (n := n) (b := 400 * i) (by omega) hn
      omega
  exact lp (S 0 2) 0 0 (by omega) (by omega) rfl
theorem cf_nle {n m : Nat} (hn : n < 2 ^ 31) (hm : m < 2 ^ 31) : (nI n ≤ nI m) = (n ≤ m) := propext (by rw [cf_le', nI_toInt hn, nI_toInt hm]; omega)
theorem c113 {S : cf_S} (V : cf_V S) (C : cf_C S hi) (k : RI (nI (cf_cta S 2)) hi hl v) : rx_CI L t 113 [.ref 13] hi hl v RI := by
  have h6 := V.2.2.1
  refine w113_errands (cf_lpc (w := 2) V (A := fun n i => [.ref 13, .int (nI n), .int (nI i)]) (fun i n hc hn q => ?_) (fun n => ?_))
  · refine w113_errands_4 ⟨fun g => ?_, fun g => ⟨i, rfl, by omega, fun g2 => ?_, fun g2 => ?_⟩⟩
    · rw [C.1, cf_nle (by omega) (by omega)] at g; omega
    all_goals have v5 := (V.2.2.2.2.2.2.1 i hc).2.2.2.2.1
    all_goals have h64 := cf_V_wh V
    all_goals rw [(C.2.2.1 i hc).2.2.2.1, cf_oneg (by omega)] at g2
    · unfold cf_cs1 at q
      rw [if_pos rfl, if_neg (by omega)] at q
      rw [show (0 : Int32) = nI 0 from rfl, show (1 : Int32) = nI 1 from rfl, nI_add, nI_add]; exact q
    · unfold cf_cs1 at q
      rw [if_pos rfl, if_pos (by omega)] at q
      rw [show (1 : Int32) = nI 1 from rfl, nI_add, nI_add]; exact q
  · by_cases e : n = cf_cta S 2
    · refine Or.inl (w113_errands_4 ⟨fun g => c_retIe k (by rw [e]), fun g => absurd ?_ g⟩)
      rw [C.1, cf_nle (by omega) (by omega)]; omega
    · exact Or.inr e
theorem c114 {S : cf_S} (V : cf_V S) (C : cf_C S hi) (k : RI (nI (cf_cta S 3)) hi hl v) : rx_CI L t 114 [.ref 13] hi hl v RI := by
  have h6 := V.2.2.1
  refine w114_openCarts (cf_lpc (w := 3) V (A := fun n i => [.ref 13, .int (nI n), .int (nI i)]) (fun i n hc hn q => ?_) (fun n => ?_))
  · refine w114_openCarts_4 ⟨fun g => ?_, fun g => ⟨i, rfl, by omega, c62 V C hc ⟨fun g2 => ?_, fun g2 => ?_⟩⟩⟩
    · rw [C.1, cf_nle (by omega) (by omega)] at g; omega
    all_goals unfold cf_cs1 at q
    · rw [if_neg (by omega), if_pos rfl, if_neg (by rw [cf_B_eq g2]; decide)] at q
      rw [show (0 : Int32) = nI 0 from rfl, show (1 : Int32) = nI 1 from rfl, nI_add, nI_add]; exact q
    · rw [if_neg (by omega), if_pos rfl, if_pos (cf_B_ne g2)] at q
      rw [show (1 : Int32) = nI 1 from rfl, nI_add, nI_add]; exact q
  · by_cases e : n = cf_cta S 3
    · refine Or.inl (w114_openCarts_4 ⟨fun g => c_retIe k (by rw [e]), fun g => absurd ?_ g⟩)
      rw [C.1, cf_nle (by omega) (by omega)]; omega
    · exact Or.inr e
theorem c115 {S : cf_S} (V : cf_V S) (C : cf_C S hi) {f : Nat} (hf : f = 1 ∨ f = 2) (k : RI (nI (cf_cta S (f + 3))) hi hl v) : rx_CI L t 115 [.ref 13, .int (nI f)] hi hl v RI := by
  have h6 := V.2.2.1
  refine w115_fated (cf_lpc (w := f + 3) V (A := fun n i => [.ref 13, .int (nI f), .int (nI n), .int (nI i)]) (fun i n hc hn q => ?_) (fun n => ?_))
  · refine w115_fated_4 ⟨fun g => ?_, fun g => ⟨i, rfl, by omega, fun g2 => ?_, fun g2 => ?_⟩⟩
    · rw [C.1, cf_nle (by omega) (by omega)] at g; omega
    all_goals have v8 := (V.2.2.2.2.2.2.1 i hc).2.2.2.2.2.2.2.1
    all_goals rw [(C.2.2.1 i hc).2.2.2.2.2.1, nI_eq (by omega) (by omega)] at g2
    all_goals unfold cf_cs1 at q
    all_goals rw [if_neg (by omega), if_neg (by omega)] at q
    · have : (if f + 3 = 4 then n + (if S 8 i = 1 then 1 else 0) else if f + 3 = 5 then n + (if S 8 i = 2 then 1 else 0) else if f + 3 = 6 then n + S 4 i else max n (S 4 i)) = n + 1 := by
        rcases hf with e | e <;> subst e
        · rw [if_pos rfl, if_pos g2]
        · rw [if_neg (by omega), if_pos rfl, if_pos g2]
      rw [this] at q
      rw [show (1 : Int32) = nI 1 from rfl, nI_add, nI_add]; exact q
    · have : (if f + 3 = 4 then n + (if S 8 i = 1 then 1 else 0) else if f + 3 = 5 then n + (if S 8 i = 2 then 1 else 0) else if f + 3 = 6 then n + S 4 i else max n (S 4 i)) = n + 0 := by
        rcases hf with e | e <;> subst e
        · rw [if_pos rfl, if_neg g2]
        · rw [if_neg (by omega), if_pos rfl, if_neg g2]
      rw [this] at q
      rw [show (0 : Int32) = nI 0 from rfl, show (1 : Int32) = nI 1 from rfl, nI_add, nI_add]; exact q
  · by_cases e : n = cf_cta S (f + 3)
    · refine Or.inl (w115_fated_4 ⟨fun g => c_retIe k (by rw [e]), fun g => absurd ?_ g⟩)
      rw [C.1, cf_nle (by omega) (by omega)]; omega
    · exact Or.inr e
theorem c116 {S : cf_S} (V : cf_V S) (C : cf_C S hi) (k : RI (nI (cf_cta S 6)) hi hl v) : rx_CI L t 116 [.ref 13] hi hl v RI := by
  have h6 := V.2.2.1
  refine w116_sumOfEnds (cf_lpc (w := 6) V (A := fun n i => [.ref 13, .int (nI n), .int (nI i)]) (fun i n hc hn q => ?_) (fun n => ?_))
  · refine w116_sumOfEnds_4 ⟨fun g => ?_, fun g => ⟨i, rfl, by omega, ?_⟩⟩
    · rw [C.1, cf_nle (by omega) (by omega)] at g; omega
    · rw [(C.2.2.1 i hc).2.2.1, show (1 : Int32) = nI 1 from rfl, nI_add, nI_add]; exact q
  · by_cases e : n = cf_cta S 6
    · refine Or.inl (w116_sumOfEnds_4 ⟨fun g => c_retIe k (by rw [e]), fun g => absurd ?_ g⟩)
      rw [C.1, cf_nle (by omega) (by omega)]; omega
    · exact Or.inr e
theorem c36m {S : cf_S} (V : cf_V S) (C : cf_C S hi) (k : RI (nI (cf_cta S 7)) hi hl v) : rx_CI L t 36 [.ref 13, .null] hi hl v RI := by
  have h6 := V.2.2.1
  refine w36_greatestEnd_null (cf_lpc (w := 7) V (A := fun n i => [.ref 13, .null, .int (nI n), .int (nI i)]) (fun i n hc hn q => ?_) (fun n => ?_))
  · refine w36_greatestEnd_null_4 ⟨fun g => ?_, fun g => ⟨i, rfl, by omega, i, rfl, by omega, ?_⟩⟩
    · rw [C.1, cf_nle (by omega) (by omega)] at g; omega
    · have v4 := (V.2.2.2.2.2.2.1 i hc).2.2.2.1
      have hm : (if nI n < nI (S 4 i) then nI (S 4 i) else nI n) = nI (max n (S 4 i)) := by
        by_cases z : n < S 4 i
        · rw [if_pos (by rw [cf_lt, nI_toInt (by omega), nI_toInt (by omega)]; omega), Nat.max_eq_right (by omega)]
        · rw [if_neg (by rw [cf_lt, nI_toInt (by omega), nI_toInt (by omega)]; omega), Nat.max_eq_left (by omega)]
      rw [(C.2.2.1 i hc).2.2.1, hm, show (1 : Int32) = nI 1 from rfl, nI_add]; exact q
  · by_cases e : n = cf_cta S 7
    · refine Or.inl (w36_greatestEnd_null_4 ⟨fun g => c_retIe k (by rw [e]), fun g => absurd ?_ g⟩)
      rw [C.1, cf_nle (by omega) (by omega)]; omega
    · exact Or.inr e
theorem cf_xi {x : Int32} {n : Nat} (hn : n < 2 ^ 31) : x = nI n ↔ x.toInt = n := by rw [cf_eqI, nI_toInt hn]
theorem c112 {S : cf_S} (V : cf_V S) (C : cf_C S hi) {x : Int32} (k : RI (cf_cto S (hi 1 8) x) hi hl v) : rx_CI L t 112 [.ref 1, .int x] hi hl v RI := by
  have e1 : ∀ w, w < 9 → x = nI w → 1 < w → w < 8 → cf_cto S (hi 1 8) x = nI (cf_cta S w) := fun w hw q h1 h8 => by
    have : x.toInt = w := by rw [q, nI_toInt (by omega)]
    unfold cf_cto; rw [if_neg (by omega), if_neg (by omega), if_neg (by omega), if_neg (by omega), this]; rfl
  refine w112_count ⟨fun g => c_retIe k ?_, fun g0 => ⟨fun g => c_retIe k ?_, fun g1 => ⟨fun g => c113 V C (c_retIe k (e1 2 (by omega) g (by omega) (by omega))), fun g2 => ⟨fun g => c114 V C (c_retIe k (e1 3 (by omega) g (by omega) (by omega))), fun g3 => ⟨fun g => c115 (f := 1) V C (Or.inl rfl) (c_retIe k (e1 4 (by omega) g (by omega) (by omega))), fun g4 => ⟨fun g => c115 (f := 2) V C (Or.inr rfl) (c_retIe k (e1 5 (by omega) g (by omega) (by omega))), fun g5 => ⟨fun g => c116 V C (c_retIe k (e1 6 (by omega) g (by omega) (by omega))), fun g6 => ⟨fun g => c36m V C (c_retIe k (e1 7 (by omega) g (by omega) (by omega))), fun g7 => ⟨fun g => c_retIe k ?_, fun g8 => c_retIe k ?_⟩⟩⟩⟩⟩⟩⟩⟩⟩
  · rw [C.1]; unfold cf_cto; rw [show (0 : Int32) = nI 0 from rfl, cf_xi (by omega)] at g; rw [if_neg (by omega), if_pos (by omega)]
  · rw [C.2.1]; unfold cf_cto; rw [show (1 : Int32) = nI 1 from rfl, cf_xi (by omega)] at g; rw [if_neg (by omega), if_neg (by omega), if_pos (by omega)]
  · unfold cf_cto; rw [show (8 : Int32) = nI 8 from rfl, cf_xi (by omega)] at g; rw [if_neg (by omega), if_neg (by omega), if_neg (by omega), if_pos (by omega)]
  · rw [show (0 : Int32) = nI 0 from rfl, cf_xi (by omega)] at g0
    rw [show (1 : Int32) = nI 1 from rfl, cf_xi (by omega)] at g1
    rw [show (2 : Int32) = nI 2 from rfl, cf_xi (by omega)] at g2
    rw [show (3 : Int32) = nI 3 from rfl, cf_xi (by omega)] at g3
    rw [show (4 : Int32) = nI 4 from rfl, cf_xi (by omega)] at g4
    rw [show (5 : Int32) = nI 5 from rfl, cf_xi (by omega)] at g5
    rw [show (6 : Int32) = nI 6 from rfl, cf_xi (by omega)] at g6
    rw [show (7 : Int32) = nI 7 from rfl, cf_xi (by omega)] at g7
    rw [show (8 : Int32) = nI 8 from rfl, cf_xi (by omega)] at g8
    unfold cf_cto; rw [if_pos (by omega)]
/-- the ends of a round -/
theorem cf_q126 {x1 x2 x3 y0 : Int32} (h6 : ¬ x1 = 6) (h7 : ¬ x1 = 7) (k : rx_aw 223 56 [.ref 90, .int x1, .int (y0 + 0 + 0), .int (x3 + 1)] [] (rx_hp L t hi hl v) Q) : rx_aw 223 126 [.ref 90, .int x1, .int x2, .int x3] [.int y0] (rx_hp L t hi hl v) Q :=
  w223_count_r_126 (w223_count_r_127 ⟨fun q => absurd q h6, fun _ => w223_count_r_146 ⟨fun q => absurd q h7, fun _ => w223_count_r_173 (w223_count_r_174 k)⟩⟩)
theorem cf_q122 {x1 x2 x3 y0 : Int32} (h6 : ¬ x1 = 6) (h7 : ¬ x1 = 7) (k : rx_aw 223 56 [.ref 90, .int x1, .int (y0 + 1 + 0), .int (x3 + 1)] [] (rx_hp L t hi hl v) Q) : rx_aw 223 122 [.ref 90, .int x1, .int x2, .int x3] [.int y0] (rx_hp L t hi hl v) Q :=
  w223_count_r_122 (w223_count_r_127 ⟨fun q => absurd q h6, fun _ => w223_count_r_146 ⟨fun q => absurd q h7, fun _ => w223_count_r_173 (w223_count_r_174 k)⟩⟩)
theorem c223l {S : cf_S} (V : cf_V S) (M : cf_M S hi) {w : Nat} (hw : 2 ≤ w ∧ w ≤ 7) (k : RI (nI (cf_cta S w)) hi hl v) : rx_aw 223 56 [.ref 90, .int (nI w), .int (nI 0), .int (nI 0)] [] (rx_hp L t hi hl v) (fun r h2 => ∃ z : Int32, r = some (.int z) ∧ rx_ok2 L t h2 (RI z)) := by
  have h6 := V.2.2.1
  have z0 : ∀ n, nI n + 0 + 0 = nI n := fun n => by rw [show (0 : Int32) = nI 0 from rfl, nI_add, nI_add]; rfl
  have z1 : ∀ n, nI n + 1 + 0 = nI (n + 1) := fun n => by rw [show (0 : Int32) = nI 0 from rfl, show (1 : Int32) = nI 1 from rfl, nI_add, nI_add]
  have z2 : ∀ n, nI n + 1 = nI (n + 1) := fun n => nI_add n 1
  refine cf_lpc (w := w) V (A := fun n i => [.ref 90, .int (nI w), .int (nI n), .int (nI i)]) (fun i n hc hn q => ?_) (fun n => ?_)
  · have hM := M.2.2.2.2.2.1 i hc
    obtain ⟨_, _, _, v4, v5, _, _, v8, _⟩ := V.2.2.2.2.2.2.1 i hc
    have hw' : w = 2 ∨ w = 3 ∨ w = 4 ∨ w = 5 ∨ w = 6 ∨ w = 7 := by omega
    unfold cf_cs1 at q
    refine w223_count_r_56 ⟨fun g => ?_, fun g => ?_⟩
    · rw [M.2.1, cf_nle (by omega) (by omega)] at g; omega
    rcases hw' with e | e | e | e | e | e <;> subst e
    · rw [if_pos rfl] at q
      refine ⟨fun _ => ⟨i, rfl, by omega, fun g2 => w223_count_r_79 ⟨fun z => absurd z (by decide), fun _ => w223_count_r_92 ⟨fun z => absurd z (by decide), fun _ => w223_count_r_107 ⟨fun z => absurd z (by decide), fun _ => cf_q126 (by decide) (by decide) ?_⟩⟩⟩, fun g2 => cf_q122 (by decide) (by decide) ?_⟩, fun z => absurd rfl z⟩
      · rw [hM.2.2.1] at g2
        rw [if_neg (of_decide_eq_false (cf_B_eq g2))] at q
        rw [z0, z2]; exact q
      · rw [hM.2.2.1] at g2
        rw [if_pos (of_decide_eq_true (cf_B_ne g2))] at q
        rw [z1, z2]; exact q
    · rw [if_neg (by omega), if_pos rfl] at q
      refine ⟨fun z => absurd z (by decide), fun _ => w223_count_r_79 ⟨fun _ => c162 V M hc ⟨fun g2 => w223_count_r_92 ⟨fun z => absurd z (by decide), fun _ => w223_count_r_107 ⟨fun z => absurd z (by decide), fun _ => cf_q126 (by decide) (by decide) ?_⟩⟩, fun g2 => cf_q122 (by decide) (by decide) ?_⟩, fun z => absurd rfl z⟩⟩
      · rw [if_neg (by rw [cf_B_eq g2]; decide)] at q
        rw [z0, z2]; exact q
      · rw [if_pos (cf_B_ne g2)] at q
        rw [z1, z2]; exact q
    · rw [if_neg (by omega), if_neg (by omega), if_pos rfl] at q
      refine ⟨fun z => absurd z (by decide), fun _ => w223_count_r_79 ⟨fun z => absurd z (by decide), fun _ => w223_count_r_92 ⟨fun _ => ⟨i, rfl, by omega, fun g2 => cf_q122 (by decide) (by decide) ?_, fun g2 => w223_count_r_107 ⟨fun z => absurd z (by decide), fun _ => cf_q126 (by decide) (by decide) ?_⟩⟩, fun z => absurd rfl z⟩⟩⟩
      all_goals rw [hM.2.2.2.2.2.1, show (1 : Int32) = nI 1 from rfl, nI_eq (by omega) (by omega)] at g2
      · rw [if_pos g2] at q
        rw [z1, z2]; exact q
      · rw [if_neg g2] at q
        rw [z0, z2]; exact q
    · rw [if_neg (by omega), if_neg (by omega), if_neg (by omega), if_pos rfl] at q
      refine ⟨fun z => absurd z (by decide), fun _ => w223_count_r_79 ⟨fun z => absurd z (by decide), fun _ => w223_count_r_92 ⟨fun z => absurd z (by decide), fun _ => w223_count_r_107 ⟨fun _ => ⟨i, rfl, by omega, fun g2 => cf_q122 (by decide) (by decide) ?_, fun g2 => cf_q126 (by decide) (by decide) ?_⟩, fun z => absurd rfl z⟩⟩⟩⟩
      all_goals rw [hM.2.2.2.2.2.1, show (2 : Int32) = nI 2 from rfl, nI_eq (by omega) (by omega)] at g2
      · rw [if_pos g2] at q
        rw [z1, z2]; exact q
      · rw [if_neg g2] at q
        rw [z0, z2]; exact q
    · rw [if_neg (by omega), if_neg (by omega), if_neg (by omega), if_neg (by omega), if_pos rfl] at q
      refine ⟨fun z => absurd z (by decide), fun _ => w223_count_r_79 ⟨fun z => absurd z (by decide), fun _ => w223_count_r_92 ⟨fun z => absurd z (by decide), fun _ => w223_count_r_107 ⟨fun z => absurd z (by decide), fun _ => w223_count_r_126 (w223_count_r_127 ⟨fun _ => ⟨i, rfl, by omega, w223_count_r_146 ⟨fun z => absurd z (by decide), fun _ => w223_count_r_173 (w223_count_r_174 ?_)⟩⟩, fun z => absurd rfl z⟩)⟩⟩⟩⟩
      rw [hM.2.1, z2, show nI n + 0 + nI (S 4 i) = nI (n + S 4 i) by rw [show (0 : Int32) = nI 0 from rfl, nI_add, nI_add]; rfl]; exact q
    · rw [if_neg (by omega), if_neg (by omega), if_neg (by omega), if_neg (by omega), if_neg (by omega)] at q
      refine ⟨fun z => absurd z (by decide), fun _ => w223_count_r_79 ⟨fun z => absurd z (by decide), fun _ => w223_count_r_92 ⟨fun z => absurd z (by decide), fun _ => w223_count_r_107 ⟨fun z => absurd z (by decide), fun _ => w223_count_r_126 (w223_count_r_127 ⟨fun z => absurd z (by decide), fun _ => w223_count_r_146 ⟨fun _ => ⟨i, rfl, by omega, fun g2 => w223_count_r_173 (w223_count_r_174 ?_), fun g2 => ⟨i, rfl, by omega, w223_count_r_174 ?_⟩⟩, fun z => absurd rfl z⟩⟩)⟩⟩⟩⟩
      all_goals rw [hM.2.1, z0, cf_nle (by omega) (by omega)] at g2
      · rw [Nat.max_eq_left g2] at q
        rw [z0, z2]; exact q
      · rw [Nat.max_eq_right (by omega)] at q
        rw [hM.2.1, z2]; exact q
  · by_cases e : n = cf_cta S w
    · refine Or.inl (w223_count_r_56 ⟨fun g => c_retIe k (by rw [e]), fun g => absurd ?_ g⟩)
      rw [M.2.1, cf_nle (by omega) (by omega)]; omega
    · exact Or.inr e
theorem c223 {S : cf_S} (V : cf_V S) (M : cf_M S hi) {x : Int32} (k : RI (cf_cto S (hi 90 5) x) hi hl v) : rx_CI L t 223 [.ref 90, .int x] hi hl v RI := by
  have h0 : ((0 : Int32)).toInt = 0 := rfl
  have h1 : ((1 : Int32)).toInt = 1 := rfl
  have h8 : ((8 : Int32)).toInt = 8 := rfl
  unfold cf_cto at k
  refine w223_count_r ⟨fun g => w223_count_r_10 (c_retIe k ?_), fun g => ⟨fun g2 => ⟨fun g3 => w223_count_r_24 ⟨fun g4 => w223_count_r_51 (c_retIe k ?_), fun g4 => ⟨fun g5 => w223_count_r_51 (c_retIe k ?_), fun g5 => ?_⟩⟩, fun g3 => ⟨fun g4 => w223_count_r_24 ⟨fun g5 => ?_, fun g5 => ⟨fun g6 => ?_, fun g6 => w223_count_r_51 (c_retIe k ?_)⟩⟩, fun g4 => ?_⟩⟩, fun g2 => w223_count_r_10 (c_retIe k ?_)⟩⟩
  · rw [cf_lt] at g; rw [if_pos (by omega)]
  · rw [cf_eqI] at g4; rw [if_neg (by omega), if_pos (by omega), M.2.1]
  · rw [cf_eqI] at g5; rw [if_neg (by omega), if_neg (by omega), if_pos (by omega), M.2.2.1]
  · rw [cf_eqI] at g4 g5; rw [cf_lt] at g; rw [cf_le'] at g3; omega
  · rw [cf_eqI] at g4 g5; omega
  · rw [cf_eqI] at g4 g6; omega
  · rw [cf_eqI] at g4; rw [if_neg (by omega), if_neg (by omega), if_neg (by omega), if_pos (by omega)]
  · rw [cf_lt] at g; rw [cf_le'] at g2 g3; rw [cf_eqI] at g4
    rw [if_neg (by omega), if_neg (by omega), if_neg (by omega), if_neg (by omega)] at k
    rw [(cf_x (x := x) (by omega)).1]
    exact c223l V M (by omega) k
  · rw [cf_le'] at g2; rw [if_pos (by omega)]
end RXE
theorem cf_pr_count {L : Nat} {t : List (Nat × Nat)} (x : Int32) : cf_pr L t 112 223 [.int x] := by
  intro S ls hi hl v R
  obtain ⟨I, A, Z, E⟩ := id R
  exact c112 I.1 A.1.1.2.2.2.2.1 (c223 I.1 Z.1.2.2.1 ⟨by rw [E.1], S, ls, R⟩)
