/-! The reference's state: its numbers, its carts. -/
def cf_M (S : cf_S) (hi : Nat → Nat → Int32) : Prop := cf_K4 (S 0 0) (S 0 1) hi ∧ hi 90 6 = nI (S 0 2) ∧ hi 90 21 = nI (S 0 3) ∧ (∀ q, q < 64 → hi 91 q = nI (S 1 q)) ∧ (∀ y, y < 8 → hi 92 y = nI (S 2 y))
  ∧ (∀ c, c < S 0 2 → hi 93 c = nI (S 3 c) ∧ hi 94 c = nI (S 4 c) ∧ hi 96 c = cf_B (decide (0 < S 5 c)) ∧ (0 < S 5 c → hi 97 c = nI (S 5 c - 1) ∧ hi 98 c = oI (S 6 c)) ∧ hi 99 c = nI (S 7 c) ∧ hi 100 c = nI (S 8 c) ∧ (∀ j, j < S 4 c → hi 95 (400 * c + j) = nI (S (20 + c) j))
    ∧ hi 101 (402 * c) = nI (S 9 c % 64) ∧ hi 102 (402 * c) = nI (S 9 c / 64 % 4) ∧ hi 103 (402 * c) = oI (S 9 c / 256))
  ∧ (∀ s, s < S 0 3 → hi 107 s = nI (S 12 s))
/-- what stands in the rows of squares, headings, loads and SHELVES at one tick -/
def cf_atR (n m j : Nat) (st sp : Nat → Nat) (hi : Nat → Nat → Int32) : Prop := (∀ c, c < n → hi 101 (402 * c + j) = nI (st c % 64) ∧ hi 102 (402 * c + j) = nI (st c / 64 % 4) ∧ hi 103 (402 * c + j) = oI (st c / 256) ∧ st c < 2 ^ 20) ∧ (∀ s, s < m → hi 108 (402 * s + j) = nI (sp s) ∧ sp s < 64)
theorem cf_402 {c j : Nat} : (402 : Int32) * nI c + nI j = nI (402 * c + j) := by
  rw [show (402 : Int32) = nI 402 from rfl, cf_nmul, nI_add]
theorem cf_400 {c j : Nat} : (400 : Int32) * nI c + nI j = nI (400 * c + j) := by
  rw [show (400 : Int32) = nI 400 from rfl, cf_nmul, nI_add]
theorem cf_Bor1 (b : Bool) : cf_B b ||| (1 : Int32) = cf_B true := by cases b <;> decide
theorem cf_Bor0 (b : Bool) : cf_B b ||| (0 : Int32) = cf_B b := by cases b <;> decide
theorem cf_B01 (b : Bool) : cf_B b = 0 ∨ cf_B b = 1 := by cases b <;> decide
theorem cf_Beq {a b : Bool} : (cf_B a = cf_B b) ↔ a = b := by cases a <;> cases b <;> decide
section RXE
variable {L : Nat} {t : List (Nat × Nat)} {hi : Nat → Nat → Int32} {hl : Nat → Nat → Int64} {v : Nat → Nat → Option Nat}
variable {RI : Int32 → (Nat → Nat → Int32) → (Nat → Nat → Int64) → (Nat → Nat → Option Nat) → Prop}
variable {RL : Int64 → (Nat → Nat → Int32) → (Nat → Nat → Int64) → (Nat → Nat → Option Nat) → Prop}
variable {RV : (Nat → Nat → Int32) → (Nat → Nat → Int64) → (Nat → Nat → Option Nat) → Prop}
theorem c194 {S : cf_S} (V : cf_V S) (M : cf_M S hi) {c j : Nat} (hc : c < S 0 2) (hj : j < 2 ^ 20) (k : RI (nI (cf_mt S c j)) hi hl v) : rx_CI L t 194 [.ref 90, .int (nI c), .int (nI j)] hi hl v RI := by
  have h6 := V.2.2.1
  obtain ⟨_, _, h4, _⟩ := (V.2.2.2.2.2.2.1 c hc).2
  have hC := M.2.2.2.2.2.1 c hc
  unfold cf_mt at k
  refine w194_moveAt_r ⟨c, rfl, by omega, fun q => c_retI ?_, fun q => ⟨400 * c + j, cf_400, ?_, c_retI ?_⟩⟩ <;> rw [hC.2.1, nI_leI (by omega) (by omega)] at q
  · rw [if_neg (by omega)] at k; exact k
  · omega
  · rw [if_pos (by omega)] at k
    rw [hC.2.2.2.2.2.2.1 j (by omega)]; exact k
theorem c178 {n m j : Nat} {st sp : Nat → Nat} (hn : hi 90 6 = nI n) (h6 : n ≤ 6) (hj : j < 402) (A : cf_atR n m j st sp hi) {s : Nat} (hs : s < 2 ^ 10)
    (k : RI (cf_B (cf_any (fun c => decide (st c / 256 = s + 1)) n)) hi hl v) : rx_CI L t 178 [.ref 90, .int (nI s), .int (nI j)] hi hl v RI := by
  refine w178_isCarried_r ?_
  have loop : ∀ d i, i + d = n → rx_aw 178 5 [.ref 90, .int (nI s), .int (nI j), .int (cf_B (cf_any (fun c => decide (st c / 256 = s + 1)) i)), .int (nI i)] [] (rx_hp L t hi hl v) (fun r h2 => ∃ z : Int32, r = some (.int z) ∧ rx_ok2 L t h2 (RI z)) := by
    intro d
    induction d with
    | zero =>
      intro i hi0
      have : i = n := by omega
      subst this
      refine w178_isCarried_r_5 ⟨fun _ => ⟨cf_B01 _, c_retI k⟩, fun g => absurd ?_ g⟩
      rw [hn]; exact nI_le (Nat.le_refl _) (by omega)
    | succ d ih =>
      intro i hi0
      have hst := A.1 i (by omega)
      have := ih (i + 1) (by omega)
      refine w178_isCarried_r_5 ⟨fun g => ?_, fun _ => ⟨402 * i + j, cf_402, by omega, fun g => ?_, fun g => ?_⟩⟩
      · rw [hn] at g; exact absurd g (nI_ge (by omega) (by omega))
      · rw [hst.2.2.1, cf_oneq (by omega) (by omega)] at g
        rw [nI_1, cf_Bor1]
        rw [cf_any, decide_eq_true g, Bool.or_true] at this; exact this
      · rw [hst.2.2.1, cf_oneq (by omega) (by omega)] at g
        rw [nI_1, cf_Bor0]
        rw [cf_any, decide_eq_false g, Bool.or_false] at this; exact this
  exact loop n 0 (by omega)
theorem c195 {n m j : Nat} {st sp : Nat → Nat} (hn : hi 90 6 = nI n) (h6 : n ≤ 6) (hmm : hi 90 21 = nI m) (hm : m ≤ 12) (hj : j < 402) (A : cf_atR n m j st sp hi) {q : Nat} (hq : q < 64)
    (k : RI (oI (cf_lie n m st sp q)) hi hl v) : rx_CI L t 195 [.ref 90, .int (nI q), .int (nI j)] hi hl v RI := by
  refine w195_looseShelf_r ?_
  have loop : ∀ d i, i + d = m → cf_ff (cf_ly n st sp q) i = 0 → rx_aw 195 2 [.ref 90, .int (nI q), .int (nI j), .int (nI i)] [] (rx_hp L t hi hl v) (fun r h2 => ∃ z : Int32, r = some (.int z) ∧ rx_ok2 L t h2 (RI z)) := by
    intro d
    induction d with
    | zero =>
      intro i hi0 ha
      have : i = m := by omega
      subst this
      have hk : cf_lie n i st sp q = 0 := ha
      rw [hk] at k
      refine w195_looseShelf_r_2 ⟨fun _ => c_retI k, fun g => absurd ?_ g⟩
      rw [hmm]; exact nI_le (Nat.le_refl _) (by omega)
    | succ d ih =>
      intro i hi0 ha
      have hsp := A.2 i (by omega)
      have next : cf_ly n st sp q i = false → rx_aw 195 2 [.ref 90, .int (nI q), .int (nI j), .int (nI (i + 1))] [] (rx_hp L t hi hl v) (fun r h2 => ∃ z : Int32, r = some (.int z) ∧ rx_ok2 L t h2 (RI z)) := fun hp => ih (i + 1) (by omega) (by rw [cf_ff, if_pos ha, hp]; rfl)
      refine w195_looseShelf_r_2 ⟨fun g => ?_, fun _ => ⟨402 * i + j, cf_402, by omega, fun g => c178 hn h6 hj A (by omega) ⟨fun g2 => c_retI ?_, fun g2 => ?_⟩, fun g => ?_⟩⟩
      · rw [hmm] at g; exact absurd g (nI_ge (by omega) (by omega))
      · rw [hsp.1, nI_eq (by omega) (by omega)] at g
        have hp : cf_ly n st sp q i = true := by unfold cf_ly; rw [decide_eq_true g, cf_B_eq g2]; rfl
        have hk : cf_lie n m st sp q = i + 1 := cf_ff_at ha hp m (by omega)
        rw [hk, cf_oS] at k; exact k
      · rw [nI_1]
        exact next (by unfold cf_ly; rw [cf_B_ne g2, Bool.not_true, Bool.and_false])
      · rw [hsp.1, nI_eq (by omega) (by omega)] at g
        rw [nI_1]
        exact next (by unfold cf_ly; rw [decide_eq_false g, Bool.false_and])
  exact loop m 0 (by omega) rfl
end RXE
