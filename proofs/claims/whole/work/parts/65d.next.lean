/-- whether a cart may lift a SHELF (given with 1 more) while another's row is checked: ck the cart (and 1), nl the SHELVES that it can't lift -/
def cf_al (ck nl c l : Nat) : Bool := !(decide (ck = c + 1) && nl.testBit (l - 1))
/-- what the reference's next() leads to -/
def cf_nr (S : cf_S) (ck nl : Nat) (st sp : Nat → Nat) (j c : Nat) : Option Nat :=
  cf_aft (S 0 0) (S 0 1) (S 1) (S 3 c) (st c) (cf_mt S c j) (bif cf_al ck nl c (cf_lie (S 0 2) (S 0 3) st sp (st c % 64)) then cf_lie (S 0 2) (S 0 3) st sp (st c % 64) else 0)
theorem cf_nar (b : Bool) : vp_nar .boolean (cf_B b) = cf_B b := by cases b <;> rfl
section RXE
variable {L : Nat} {t : List (Nat × Nat)} {hi : Nat → Nat → Int32} {hl : Nat → Nat → Int64} {v : Nat → Nat → Option Nat}
variable {RV : (Nat → Nat → Int32) → (Nat → Nat → Int64) → (Nat → Nat → Option Nat) → Prop}
theorem c193 {S : cf_S} (V : cf_V S) (M : cf_M S hi) {ck nl : Nat} (hck : hi 90 35 = oI ck) (hck2 : ck ≤ 6) (hnl : hi 90 36 = nI nl) (hnl2 : nl < 2 ^ 20) {st sp : Nat → Nat} {j c : Nat} (hj : j < 401) (hc : c < S 0 2) (A : cf_atR (S 0 2) (S 0 3) j st sp hi) (hv : cf_vs (S 0 0) (S 0 1) (cf_two (S 3 c)) (st c)) (hv2 : st c / 256 ≤ S 0 3)
    (k : ∀ hi2 : Nat → Nat → Int32, (∀ a b, ¬ (a = 90 ∧ (b = 33 ∨ b = 34)) → ¬ (a = 104 ∧ b = 402 * c + j) → ¬ (101 ≤ a ∧ a ≤ 103 ∧ b = 402 * c + (j + 1)) → hi2 a b = hi a b) → hi2 104 (402 * c + j) = cf_B (cf_nr S ck nl st sp j c).isSome → hi2 101 (402 * c + (j + 1)) = nI ((cf_nr S ck nl st sp j c).getD (st c) % 64) → hi2 102 (402 * c + (j + 1)) = nI ((cf_nr S ck nl st sp j c).getD (st c) / 64 % 4) → hi2 103 (402 * c + (j + 1)) = oI ((cf_nr S ck nl st sp j c).getD (st c) / 256) → RV hi2 hl v) :
    rx_CV L t 193 [.ref 90, .int (nI c), .int (nI j)] hi hl v RV := by
  have h6 := V.2.2.1
  have h12 := V.2.2.2.1
  have hwh := cf_V_wh V
  have hkd := (V.2.2.2.2.2.2.1 c hc).1
  have hmt := cf_mt_lt V hc j
  have hC := M.2.2.2.2.2.1 c hc
  have hst := A.1 c hc
  have hlie : cf_lie (S 0 2) (S 0 3) st sp (st c % 64) ≤ S 0 3 := cf_ff_le _ _
  have at0 : (402 : Int32) * nI c + nI j = nI (402 * c + j) := cf_402
  have at1 : nI (402 * c + j) + (1 : Int32) = nI (402 * c + (j + 1)) := nI_1 _
  have e1 : hi 93 c = (1 : Int32) ↔ S 3 c = 1 := by rw [hC.1, show (1 : Int32) = nI 1 from rfl, nI_eq (by omega) (by decide)]
  have e5 : nI (cf_mt S c j) = (5 : Int32) ↔ cf_mt S c j = 5 := by rw [show (5 : Int32) = nI 5 from rfl, nI_eq (by omega) (by decide)]
  have e6 : nI (cf_mt S c j) = (6 : Int32) ↔ cf_mt S c j = 6 := by rw [show (6 : Int32) = nI 6 from rfl, nI_eq (by omega) (by decide)]
  have eg : hi 91 (st c % 64) = (2 : Int32) ↔ S 1 (st c % 64) = 2 := by
    rw [M.2.2.2.1 _ (by omega), show (2 : Int32) = nI 2 from rfl, nI_eq (by have := V.2.2.2.2.1 (st c % 64); omega) (by decide)]
  -- the end
  have fin : ∀ (hi' : Nat → Nat → Int32) (x4 x5 x6 x7 x8 : Int32) (o : Option Nat), cf_fg hi hi' → cf_nr S ck nl st sp j c = o → x8 = cf_B o.isSome → x6 = nI (o.getD (st c) % 64) → x7 = nI (o.getD (st c) / 64 % 4) → x5 = oI (o.getD (st c) / 256) →
      rx_aw 193 232 [.ref 90, .int (nI c), .int (nI j), .int (nI (402 * c + j)), .int x4, .int x5, .int x6, .int x7, .int x8, rx_no] [] (rx_hp L t hi' hl v) (fun r h2 => r = none ∧ rx_ok2 L t h2 RV) := by
    intro hi' x4 x5 x6 x7 x8 o F eo h8 h6' h7 h5
    subst eo
    refine w193_next_r_232 ⟨402 * c + j, rfl, by omega, 402 * c + (j + 1), at1, by omega, 402 * c + (j + 1), at1, by omega, 402 * c + (j + 1), at1, by omega, c_retV (k _ (fun a b q1 q2 q3 => ?_) ?_ ?_ ?_ ?_)⟩
    · rw [cf_ru_ne (by omega), cf_ru_ne (by omega), cf_ru_ne (by omega), cf_ru_ne (by omega)]; exact F a b q1
    · rw [cf_ru_ne (by omega), cf_ru_ne (by omega), cf_ru_ne (by omega), cf_ru_eq, h8, cf_nar]
    · rw [cf_ru_ne (by omega), cf_ru_ne (by omega), cf_ru_eq, h6']
    · rw [cf_ru_ne (by omega), cf_ru_eq, h7]
    · rw [cf_ru_eq, h5]
  have F0 : cf_fg hi hi := fun _ _ _ => rfl
  refine w193_next_r (c194 V M hc (by omega) ⟨402 * c + j, at0, by omega, 402 * c + j, at0, by omega, 402 * c + j, at0, by omega, fun c5 => ?_, fun c5 => ⟨fun c6 => ?_, fun c6 => ?_⟩⟩)
  · -- LIFT
    rw [e5] at c5
    rw [at0, hst.1, hst.2.1, hst.2.2.1]
    -- from the place where the SHELF is known
    have lift : ∀ l, l ≤ 12 → cf_nr S ck nl st sp j c = (if 0 < l ∧ cf_al ck nl c l = true then some (st c % 256 + 256 * l) else none) → ∀ x4,
        rx_aw 193 75 [.ref 90, .int (nI c), .int (nI j), .int (nI (402 * c + j)), .int x4, .int (oI (st c / 256)), .int (nI (st c % 64)), .int (nI (st c / 64 % 4)), .int (1 : Int32), rx_no] [.int (oI l)] (rx_hp L t hi hl v) (fun r h2 => r = none ∧ rx_ok2 L t h2 RV) := by
      intro l hl12 hnr x4
      have no : (¬ (0 < l ∧ cf_al ck nl c l = true)) → rx_aw 193 106 [.ref 90, .int (nI c), .int (nI j), .int (nI (402 * c + j)), .int x4, .int (oI (st c / 256)), .int (nI (st c % 64)), .int (nI (st c / 64 % 4)), .int (1 : Int32), .int (oI l)] [] (rx_hp L t hi hl v) (fun r h2 => r = none ∧ rx_ok2 L t h2 RV) := by
        intro hne
        rw [if_neg hne] at hnr
        exact w193_next_r_106 (w193_next_r_107 ⟨fun _ => w193_next_r_121 (fin hi _ _ _ _ _ none F0 hnr rfl rfl rfl rfl), fun g => absurd rfl g⟩)
      have yes : 0 < l → cf_al ck nl c l = true → rx_aw 193 102 [.ref 90, .int (nI c), .int (nI j), .int (nI (402 * c + j)), .int x4, .int (oI (st c / 256)), .int (nI (st c % 64)), .int (nI (st c / 64 % 4)), .int (1 : Int32), .int (oI l)] [] (rx_hp L t hi hl v) (fun r h2 => r = none ∧ rx_ok2 L t h2 RV) := by
        intro h0 ha
        rw [if_pos ⟨h0, ha⟩] at hnr
        refine w193_next_r_102 (w193_next_r_107 ⟨fun g => absurd g (by decide), fun _ => w193_next_r_121 (fin hi _ _ _ _ _ _ F0 hnr rfl ?_ ?_ ?_)⟩)
        · show nI _ = nI ((st c % 256 + 256 * l) % 64); congr 1; omega
        · show nI _ = nI ((st c % 256 + 256 * l) / 64 % 4); congr 1; omega
        · show oI _ = oI ((st c % 256 + 256 * l) / 256); congr 1; omega
      refine w193_next_r_75 ⟨fun g => no ?_, fun g => ⟨fun g2 => ⟨fun g3 => ?_, fun g3 => no ?_⟩, fun g2 => ?_⟩⟩
      · rw [cf_oneg (by omega)] at g; omega
      · rw [cf_oneg (by omega)] at g
        refine yes (by omega) ?_
        obtain ⟨p, rfl⟩ : ∃ p, l = p + 1 := ⟨l - 1, by omega⟩
        rw [cf_oS, hnl, cf_nshr nl p (by omega) (by omega), show (1 : Int32) = nI 1 from rfl, cf_nand, show (0 : Int32) = nI 0 from rfl, show nl / 2 ^ p &&& 1 = nl / 2 ^ p % 2 from Nat.and_two_pow_sub_one_eq_mod _ 1, nI_eq (by omega) (by decide)] at g3
        unfold cf_al
        rw [show p + 1 - 1 = p by omega, Nat.testBit_eq_decide_div_mod_eq, decide_eq_false (show ¬ nl / 2 ^ p % 2 = 1 by omega), Bool.and_false]; rfl
      · rw [cf_oneg (by omega)] at g
        obtain ⟨p, rfl⟩ : ∃ p, l = p + 1 := ⟨l - 1, by omega⟩
        rw [cf_oS, hnl, cf_nshr nl p (by omega) (by omega), show (1 : Int32) = nI 1 from rfl, cf_nand, show (0 : Int32) = nI 0 from rfl, show nl / 2 ^ p &&& 1 = nl / 2 ^ p % 2 from Nat.and_two_pow_sub_one_eq_mod _ 1, nI_eq (by omega) (by decide)] at g3
        rw [hck] at g2
        have : ck = c + 1 := (cf_oneq (by omega) (by omega)).mp g2.symm
        intro ⟨_, ha⟩
        unfold cf_al at ha
        rw [show p + 1 - 1 = p by omega, Nat.testBit_eq_decide_div_mod_eq, decide_eq_true (show nl / 2 ^ p % 2 = 1 by omega), decide_eq_true this] at ha
        exact absurd ha (by decide)
      · rw [cf_oneg (by omega)] at g
        refine yes (by omega) ?_
        rw [hck] at g2
        have : ¬ ck = c + 1 := fun q => g2 ((cf_oneq (by omega) (by omega)).mpr q).symm
        unfold cf_al
        rw [decide_eq_false this]; rfl
    refine ⟨c, rfl, by omega, fun c1 => ⟨fun c2 => ?_, fun c2 => c195 M.2.1 h6 M.2.2.1 h12 (by omega) A (by omega) ?_⟩, fun c1 => ?_⟩
    · rw [e1] at c1; rw [cf_ole (by omega)] at c2
      refine w193_next_r_74 (lift 0 (by omega) ?_ _)
      rw [if_neg (by omega)]
      unfold cf_nr cf_aft
      rw [if_neg (by omega), if_pos c1, if_pos c5, if_neg (by omega)]
    · rw [e1] at c1; rw [cf_ole (by omega)] at c2
      refine lift _ (by omega) ?_ _
      unfold cf_nr cf_aft
      rw [if_neg (by omega), if_pos c1, if_pos c5]
      cases ha : cf_al ck nl c (cf_lie (S 0 2) (S 0 3) st sp (st c % 64)) with
      | true =>
        rw [cond_true]
        by_cases h0 : 0 < cf_lie (S 0 2) (S 0 3) st sp (st c % 64)
        · rw [if_pos ⟨by omega, h0⟩, if_pos ⟨h0, rfl⟩]
        · rw [if_neg (by omega), if_neg (fun q => h0 q.1)]
      | false =>
        rw [cond_false, if_neg (by omega), if_neg (fun q => by cases q.2)]
    · rw [e1] at c1
      refine w193_next_r_74 (lift 0 (by omega) ?_ _)
      rw [if_neg (by omega)]
      unfold cf_nr cf_aft
      rw [if_neg (by omega), if_neg c1]
  · -- LET DOWN
    rw [e6] at c6
    rw [at0, hst.1, hst.2.1, hst.2.2.1]
    have no : cf_nr S ck nl st sp j c = none → ∀ x4, rx_aw 193 163 [.ref 90, .int (nI c), .int (nI j), .int (nI (402 * c + j)), .int x4, .int (oI (st c / 256)), .int (nI (st c % 64)), .int (nI (st c / 64 % 4)), .int (1 : Int32), rx_no] [] (rx_hp L t hi hl v) (fun r h2 => r = none ∧ rx_ok2 L t h2 RV) := by
      intro hnr x4
      exact w193_next_r_163 (w193_next_r_164 ⟨fun _ => w193_next_r_177 (fin hi _ _ _ _ _ none F0 hnr rfl rfl rfl rfl), fun g => absurd rfl g⟩)
    have hnr0 : cf_nr S ck nl st sp j c = (if S 3 c = 1 then (if 0 < st c / 256 ∧ S 1 (st c % 64) = 2 then some (st c % 256) else none) else none) := by
      unfold cf_nr cf_aft
      rw [if_neg (by omega)]
      by_cases h1 : S 3 c = 1
      · rw [if_pos h1, if_pos h1, if_neg (by omega)]
      · rw [if_neg h1, if_neg h1]
    refine ⟨c, rfl, by omega, fun c1 => ⟨fun c2 => no ?_ _, fun c2 => ⟨st c % 64, rfl, by omega, fun c3 => ?_, fun c3 => no ?_ _⟩⟩, fun c1 => no ?_ _⟩
    · rw [cf_oneg (by omega)] at c2
      rw [hnr0, if_pos (e1.mp c1), if_neg (by omega)]
    · rw [cf_oneg (by omega)] at c2
      rw [eg] at c3
      rw [if_pos (e1.mp c1), if_pos (by omega)] at hnr0
      refine w193_next_r_164 ⟨fun g => absurd g (by decide), fun _ => w193_next_r_177 (fin hi _ _ _ _ _ _ F0 hnr0 rfl ?_ ?_ ?_)⟩
      · show nI _ = nI (st c % 256 % 64); congr 1; omega
      · show nI _ = nI (st c % 256 / 64 % 4); congr 1; omega
      · show _ = oI (st c % 256 / 256); rw [show st c % 256 / 256 = 0 by omega]; rfl
    · rw [eg] at c3
      rw [hnr0, if_pos (e1.mp c1), if_neg (by omega)]
    · rw [hnr0, if_neg (mt e1.mpr c1)]
  · -- the MOVES 0 to 4
    rw [e5] at c5; rw [e6] at c6
    rw [at0, hst.1, hst.2.1, hst.2.2.1]
    have hm4 : cf_mt S c j ≤ 4 := by omega
    have hqd : st c % 64 + 64 * (st c / 64 % 4) = st c % 256 := by omega
    have hnr0 : cf_nr S ck nl st sp j c = (cf_mv (S 0 0) (S 0 1) (cf_two (S 3 c)) (st c % 64 + 64 * (st c / 64 % 4)) (cf_mt S c j)).map (fun r => st c / 256 * 256 + r) := by
      unfold cf_nr cf_aft
      rw [if_pos hm4, hqd, cf_mv_m]
    refine ⟨c, rfl, by omega, ?_⟩
    rw [hC.1]
    refine c184 M.1 hkd (by omega) (by omega) (by rw [hqd]; exact cf_vs_m.mpr hv) hv.1 (fun e hi2 F => ?_) (fun r e hi2 F f1 f2 => ?_)
    · rw [e] at hnr0
      exact ⟨fun _ => w193_next_r_214 ⟨fun _ => w193_next_r_230 (fin hi2 _ _ _ _ _ none F hnr0 rfl rfl rfl rfl), fun g => absurd rfl g⟩, fun g => absurd rfl g⟩
    · have hr := cf_mv_lt hwh (by rw [hqd, (cf_m256 _).1]; exact hv.1) (by omega) e
      rw [e] at hnr0
      refine ⟨fun g => absurd g (by decide), fun _ => w193_next_r_214 ⟨fun g => absurd g (by decide), fun _ => w193_next_r_230 (fin hi2 _ _ _ _ _ _ F hnr0 rfl ?_ ?_ ?_)⟩⟩
      · rw [f1]; show nI _ = nI ((st c / 256 * 256 + r) % 64); congr 1; omega
      · rw [f2]; show nI _ = nI ((st c / 256 * 256 + r) / 64 % 4); congr 1; omega
      · show oI _ = oI ((st c / 256 * 256 + r) / 256); congr 1; omega
end RXE
