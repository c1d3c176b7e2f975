/-! carriedBesides. -/
theorem cf_fo_402 {S : cf_S} (V : cf_V S) (c s : Nat) : cf_fo S c s = cf_any (fun o => !decide (o = c) && cf_any (fun u => decide (cf_st S u o / 256 = s + 1)) 402) (S 0 2) := by
  have hset := cf_set_lt V
  unfold cf_fo
  refine cf_any_eq (fun o ho => ?_)
  have : cf_any (fun u => decide (cf_st S u o / 256 = s + 1)) (cf_set S + 1) = true ↔ cf_any (fun u => decide (cf_st S u o / 256 = s + 1)) 402 = true := by
    rw [cf_any_iff, cf_any_iff]
    constructor
    · rintro ⟨u, h1, h2⟩; exact ⟨u, by omega, h2⟩
    · rintro ⟨u, h1, h2⟩
      refine ⟨min u (cf_set S), by omega, ?_⟩
      show decide (cf_st S (min u (cf_set S)) o / 256 = s + 1) = true
      rw [cf_st_min u ho]; exact h2
  have key : cf_any (fun u => decide (cf_st S u o / 256 = s + 1)) (cf_set S + 1) = cf_any (fun u => decide (cf_st S u o / 256 = s + 1)) 402 := by
    generalize cf_any (fun u => decide (cf_st S u o / 256 = s + 1)) (cf_set S + 1) = a at this ⊢
    generalize cf_any (fun u => decide (cf_st S u o / 256 = s + 1)) 402 = b at this ⊢
    cases a <;> cases b
    · rfl
    · exact absurd (this.mpr rfl) (by decide)
    · exact absurd (this.mp rfl) (by decide)
    · rfl
  rw [key]
theorem cf_sh1 {l : Nat} (h : l < 12) : (1 : Int32) <<< (nI l &&& 31) = nI (2 ^ l) := by
  have : ∀ i : Fin 12, (1 : Int32) <<< (nI i.val &&& 31) = nI (2 ^ i.val) := by decide +kernel
  exact this ⟨l, h⟩
section RXE
variable {L : Nat} {t : List (Nat × Nat)} {hi : Nat → Nat → Int32} {hl : Nat → Nat → Int64} {v : Nat → Nat → Option Nat}
variable {RI : Int32 → (Nat → Nat → Int32) → (Nat → Nat → Int64) → (Nat → Nat → Option Nat) → Prop}
theorem c215 {S : cf_S} (V : cf_V S) (M : cf_M S hi) (N : cf_NW S hi hl) {c : Nat} (hc : c < S 0 2) (k : ∀ nl, nl < 2 ^ 12 → (∀ s, nl.testBit s = cf_fo S c s) → RI (nI nl) hi hl v) : rx_CI L t 215 [.ref 90, .int (nI c)] hi hl v RI := by
  have h6 := V.2.2.1
  have h12 := V.2.2.2.1
  let fp : Nat → Nat → Nat → Bool := fun i u s => cf_any (fun o => !decide (o = c) && cf_any (fun u => decide (cf_st S u o / 256 = s + 1)) 402) i || (!decide (i = c) && cf_any (fun u => decide (cf_st S u i / 256 = s + 1)) u)
  have l4 : ∀ d i, i + d = S 0 2 → ∀ nl, nl < 2 ^ 12 → (∀ s, nl.testBit s = fp i 0 s) → rx_aw 215 4 [.ref 90, .int (nI c), .int (nI nl), .int (nI i), rx_no, rx_no] [] (rx_hp L t hi hl v) (fun r h2 => ∃ z : Int32, r = some (.int z) ∧ rx_ok2 L t h2 (RI z)) := by
    intro d
    induction d with
    | zero =>
      intro i hid nl hn W
      have : i = S 0 2 := by omega
      subst this
      refine w215_carriedBesides_r_4 ⟨fun _ => c_retI (k nl hn (fun s => ?_)), fun g => absurd ?_ g⟩
      · rw [W s, cf_fo_402 V]
        show (_ || (_ && false)) = _
        rw [Bool.and_false, Bool.or_false]
      · rw [M.2.1, cf_nle (by omega) (by omega)]; omega
    | succ d ih =>
      intro i hid nl hn W
      have hi0 : i < S 0 2 := by omega
      have l15 : ∀ e u, u + e = 402 → ∀ nl, nl < 2 ^ 12 → (∀ s, nl.testBit s = fp i u s) → rx_aw 215 15 [.ref 90, .int (nI c), .int (nI nl), .int (nI i), .int (nI u), rx_no] [] (rx_hp L t hi hl v) (fun r h2 => ∃ z : Int32, r = some (.int z) ∧ rx_ok2 L t h2 (RI z)) := by
        intro e
        induction e with
        | zero =>
          intro u hu nl hn W
          have : u = 402 := by omega
          subst this
          refine w215_carriedBesides_r_15 ⟨fun _ => ?_, fun g => absurd (by decide) g⟩
          rw [show nI i + 1 = nI (i + 1) from nI_add i 1]
          refine ih (i + 1) (by omega) nl hn (fun s => ?_)
          rw [W s]
          show (_ || _) = ((_ || _) || (_ && false))
          rw [Bool.and_false, Bool.or_false]
        | succ e ihe =>
          intro u hu nl hn W
          have lt := cf_st_lt V hi0 u
          have ldm := ((cf_wv V u).1 i hi0).2
          have e103 := ((N.1 i hi0).1 u (by omega)).2.2.1
          have up : ∀ n2, n2 < 2 ^ 12 → (∀ s, n2.testBit s = (fp i u s || (!decide (i = c) && decide (cf_st S u i / 256 = s + 1)))) → rx_aw 215 15 [.ref 90, .int (nI c), .int (nI n2), .int (nI i), .int (nI u + 1), rx_no] [] (rx_hp L t hi hl v) (fun r h2 => ∃ z : Int32, r = some (.int z) ∧ rx_ok2 L t h2 (RI z)) := fun n2 h2 W2 => by
            rw [show nI u + 1 = nI (u + 1) from nI_add u 1]
            refine ihe (u + 1) (by omega) n2 h2 (fun s => ?_)
            rw [W2 s]
            show ((_ || (!decide (i = c) && _)) || (!decide (i = c) && _)) = (_ || (!decide (i = c) && (_ || _)))
            rw [Bool.or_assoc, ← Bool.and_or_distrib_left]
          have n0 : nI nl ||| 0 = nI nl := by rw [show (0 : Int32) = nI 0 from rfl, cf_nor, Nat.or_zero]
          refine w215_carriedBesides_r_15 ⟨fun g => ?_, fun _ => ⟨402 * i + u, cf_402, by omega, fun g => ?_, fun g => ⟨fun g2 => ?_, fun g2 => ?_⟩⟩⟩
          · rw [show (402 : Int32) = nI 402 from rfl, cf_nle (by omega) (by omega)] at g; omega
          all_goals rw [nI_eq (by omega) (by omega)] at g
          · rw [n0]
            refine up nl hn (fun s => ?_)
            rw [W s, decide_eq_true g, Bool.not_true, Bool.false_and, Bool.or_false]
          · rw [e103, cf_oneg (by omega)] at g2
            rw [n0]
            refine up nl hn (fun s => ?_)
            rw [W s, decide_eq_false (show ¬ cf_st S u i / 256 = s + 1 by omega), Bool.and_false, Bool.or_false]
          · rw [e103, cf_oneg (by omega)] at g2
            have eo : oI (cf_st S u i / 256) = nI (cf_st S u i / 256 - 1) := by rw [← cf_oS, show cf_st S u i / 256 - 1 + 1 = cf_st S u i / 256 by omega]
            rw [e103, eo, cf_sh1 (by omega), cf_nor]
            refine up _ (Nat.or_lt_two_pow hn (Nat.pow_lt_pow_right (by decide) (by omega))) (fun s => ?_)
            rw [Nat.testBit_or, W s, Nat.testBit_two_pow, decide_eq_false g, Bool.not_false, Bool.true_and]
            congr 1
            by_cases z : cf_st S u i / 256 = s + 1
            · rw [decide_eq_true z, decide_eq_true (by omega)]
            · rw [decide_eq_false z, decide_eq_false (by omega)]
      refine w215_carriedBesides_r_4 ⟨fun g => ?_, fun _ => l15 402 0 (by omega) nl hn W⟩
      rw [M.2.1, cf_nle (by omega) (by omega)] at g; omega
  refine w215_carriedBesides_r (l4 (S 0 2) 0 (by omega) 0 (by decide) (fun s => ?_))
  show Nat.testBit 0 s = (false || (_ && false))
  rw [Bool.and_false, Nat.zero_testBit]; rfl
end RXE
