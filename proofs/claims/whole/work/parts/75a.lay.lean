/-! lay of both. -/
def cf_up (S : cf_S) (a0 b0 x : Nat) : cf_S := fun a b => if a = a0 ∧ b = b0 then x else S a b
theorem cf_up_r {S : cf_S} {a0 b0 x a b : Nat} (h : ¬ a = a0) : cf_up S a0 b0 x a b = S a b := if_neg (fun q => h q.1)
theorem cf_up_e {S : cf_S} {a0 b0 x : Nat} : cf_up S a0 b0 x a0 b0 = x := if_pos ⟨rfl, rfl⟩
theorem cf_up_n {S : cf_S} {a0 b0 x b : Nat} (h : ¬ b = b0) : cf_up S a0 b0 x a0 b = S a0 b := if_neg (fun q => h q.2)
theorem cf_up_row {S : cf_S} {a0 b0 x a : Nat} (h : ¬ a = a0) : cf_up S a0 b0 x a = S a := funext fun b => cf_up_r h
theorem cf_V_lay {S : cf_S} (V : cf_V S) {q g : Nat} (hg : g < 4) : cf_V (cf_up S 1 q g) := by
  have r : ∀ a b, ¬ a = 1 → cf_up S 1 q g a b = S a b := fun a b h => cf_up_r h
  unfold cf_V
  rw [r 0 0 (by omega), r 0 1 (by omega), r 0 2 (by omega), r 0 3 (by omega)]
  refine ⟨V.1, V.2.1, V.2.2.1, V.2.2.2.1, fun p => ?_, fun y => ?_, fun c hc => ?_, fun s hs => ?_⟩
  · by_cases e : p = q
    · subst e; rw [cf_up_e]; exact hg
    · rw [cf_up_n e]; exact V.2.2.2.2.1 p
  · rw [r _ _ (by omega)]; exact V.2.2.2.2.2.1 y
  · rw [r 3 _ (by omega), r 9 _ (by omega), r 4 _ (by omega), r 5 _ (by omega), r 6 _ (by omega), r 7 _ (by omega), r 8 _ (by omega)]
    obtain ⟨h1, h2, h3, h4, h5, h6, h7, h8, h9⟩ := V.2.2.2.2.2.2.1 c hc
    exact ⟨h1, h2, h3, h4, h5, h6, h7, h8, fun u hu => by rw [r _ _ (by omega)]; exact h9 u hu⟩
  · rw [r _ _ (by omega)]; exact V.2.2.2.2.2.2.2 s hs
theorem cf_V_mis {S : cf_S} (V : cf_V S) {q g : Nat} (hg : g ≤ 1) : cf_V (cf_up S 2 q g) := by
  have r : ∀ a b, ¬ a = 2 → cf_up S 2 q g a b = S a b := fun a b h => cf_up_r h
  unfold cf_V
  rw [r 0 0 (by omega), r 0 1 (by omega), r 0 2 (by omega), r 0 3 (by omega)]
  refine ⟨V.1, V.2.1, V.2.2.1, V.2.2.2.1, fun p => ?_, fun y => ?_, fun c hc => ?_, fun s hs => ?_⟩
  · rw [r _ _ (by omega)]; exact V.2.2.2.2.1 p
  · by_cases e : y = q
    · subst e; rw [cf_up_e]; exact hg
    · rw [cf_up_n e]; exact V.2.2.2.2.2.1 y
  · rw [r 3 _ (by omega), r 9 _ (by omega), r 4 _ (by omega), r 5 _ (by omega), r 6 _ (by omega), r 7 _ (by omega), r 8 _ (by omega)]
    obtain ⟨h1, h2, h3, h4, h5, h6, h7, h8, h9⟩ := V.2.2.2.2.2.2.1 c hc
    exact ⟨h1, h2, h3, h4, h5, h6, h7, h8, fun u hu => by rw [r _ _ (by omega)]; exact h9 u hu⟩
  · rw [r _ _ (by omega)]; exact V.2.2.2.2.2.2.2 s hs
/-- an empty floor -/
theorem cf_Ir_0 {S : cf_S} {ls : Nat} (V : cf_V S) (h2 : S 0 2 = 0) (h3 : S 0 3 = 0) (hls : ls ≤ 400) : cf_Ir ls S := by
  refine ⟨V, ⟨fun s s' hs => ?_, fun c s hc => ?_, fun c hc => ?_, fun c c' hc => ?_, fun c hc => ?_, fun o c u ho => ?_⟩, fun c hc => ?_, fun c hc => ?_, fun c hc => ?_, hls, fun c hc => ?_, fun c hc => ?_⟩ <;> omega
theorem cf_XR_0 {S S' : cf_S} {hi hi2 : Nat → Nat → Int32} {hl hl2 : Nat → Nat → Int64} (X : cf_XR S hi hl) (h2 : S 0 2 = 0) (h3 : S 0 3 = 0) (V' : cf_V S') (e0 : S' 0 = S 0) (F : ∀ a b, 7 ≤ a → a < 76 → ¬ a = 8 → ¬ a = 9 → hi2 a b = hi a b) (Fl : ∀ a b, 7 ≤ a → a < 76 → ¬ (a = 7 ∧ b = 10) → hl2 a b = hl a b) (g : ∀ q, q < 64 → hi2 8 q = nI (S' 1 q)) (m : ∀ y, y < 8 → hi2 9 y = nI (S' 2 y)) (b : hl2 7 10 = cf_bar S') : cf_XR S' hi2 hl2 := by
  obtain ⟨⟨V, K1, K2, K3, C, G1, G2, B⟩, R1, R2, R3⟩ := X
  unfold cf_XR cf_X
  rw [e0]
  refine ⟨⟨V', ?_, ?_, fun q hq => ?_, ⟨?_, ?_, fun c hc => ?_, fun s hs => ?_⟩, g, m, b⟩, ?_, fun c hc => ?_, fun s hs => ?_⟩
  · obtain ⟨a1, a2, a3, a4, a5, a6⟩ := K1
    exact ⟨a1, a2, a3, a4, (F 7 0 (by omega) (by omega) (by omega) (by omega)).trans a5, (F 7 1 (by omega) (by omega) (by omega) (by omega)).trans a6⟩
  · exact cf_K2_eq K2 (fun b => F 10 b (by omega) (by omega) (by omega) (by omega)) (fun b => Fl 11 b (by omega) (by omega) (by omega)) (fun b => Fl 12 b (by omega) (by omega) (by omega))
  · obtain ⟨k1, k2, k3⟩ := K3 q hq
    rw [Fl 7 2 (by omega) (by omega) (by omega), Fl 7 3 (by omega) (by omega) (by omega), Fl 7 4 (by omega) (by omega) (by omega)]
    exact ⟨k1, k2, k3⟩
  · rw [F _ _ (by omega) (by omega) (by omega) (by omega), e0]; exact C.1
  · rw [F _ _ (by omega) (by omega) (by omega) (by omega), e0]; exact C.2.1
  · rw [e0] at hc; omega
  · rw [e0] at hs; omega
  · rw [F _ _ (by omega) (by omega) (by omega) (by omega), e0]
    refine R1.imp (fun z => ?_) (fun z => z)
    rw [z]
    unfold cf_set
    rw [e0, h2]; rfl
  · rw [e0] at hc; omega
  · rw [e0] at hs; omega
theorem cf_A_0 {S S' : cf_S} {ls : Nat} {hi hi2 : Nat → Nat → Int32} {hl hl2 : Nat → Nat → Int64} (A : cf_A S ls hi hl) (h2 : S 0 2 = 0) (h3 : S 0 3 = 0) (V' : cf_V S') (e0 : S' 0 = S 0) (F : ∀ a b, 7 ≤ a → a ≤ 76 → ¬ a = 8 → ¬ a = 9 → hi2 a b = hi a b) (Fl : ∀ a b, 7 ≤ a → a < 76 → ¬ (a = 7 ∧ b = 10) → hl2 a b = hl a b) (g : ∀ q, q < 64 → hi2 8 q = nI (S' 1 q)) (m : ∀ y, y < 8 → hi2 9 y = nI (S' 2 y)) (b : hl2 7 10 = cf_bar S') : cf_A S' ls hi2 hl2 := by
  refine ⟨cf_XR_0 A.1 h2 h3 V' e0 (fun a b q1 q2 => F a b q1 (by omega)) Fl g m b, fun c hc j hj => ?_, (F 76 3 (by omega) (by omega) (by omega) (by omega)).trans A.2.2⟩
  rw [F _ _ (by unfold rx_ct; omega) (by unfold rx_ct; omega) (by unfold rx_ct; omega) (by unfold rx_ct; omega), F _ _ (by unfold rx_ct; omega) (by unfold rx_ct; omega) (by unfold rx_ct; omega) (by unfold rx_ct; omega)]
  exact A.2.1 c hc j hj
theorem cf_RM_0 {S S' : cf_S} {hi hi2 : Nat → Nat → Int32} {hl hl2 : Nat → Nat → Int64} (Z : cf_RM S hi hl) (h2 : S 0 2 = 0) (h3 : S 0 3 = 0) (V' : cf_V S') (e0 : S' 0 = S 0) (F0 : ∀ b, cf_rf b → hi2 90 b = hi 90 b) (g : ∀ q, q < 64 → hi2 91 q = nI (S' 1 q)) (m : ∀ y, y < 8 → hi2 92 y = nI (S' 2 y)) : cf_RM S' hi2 hl2 := by
  obtain ⟨V, H, M, ⟨K1, nl, K2, K3⟩, N1, N2⟩ := Z
  obtain ⟨⟨a1, a2, a3, a4, a5, a6, a7⟩, b, c, d, e, f, _⟩ := M
  unfold cf_rf at F0
  unfold cf_RM cf_M
  rw [e0]
  refine ⟨V', fun c s hc => ?_, ⟨⟨a1, a2, a3, a4, (F0 0 (by omega)).trans a5, (F0 1 (by omega)).trans a6, (F0 2 (by omega)).trans a7⟩, (F0 6 (by omega)).trans b, (F0 21 (by omega)).trans c, g, m, fun i hi0 => ?_, fun s hs => ?_⟩, ⟨(F0 35 (by omega)).trans K1, nl, (F0 36 (by omega)).trans K2, K3⟩, fun c hc => ?_, fun s hs => ?_⟩
  all_goals rw [e0] at *
  all_goals omega
def cf_lyz (S : cf_S) (a0 a1 a2 : Int32) : Prop := cf_num (S 0 0) (S 0 1) a0 a1 = 0 ∨ ¬ (0 ≤ a2.toInt ∧ a2.toInt ≤ 3) ∨ 0 < S 0 2 ∨ 0 < S 0 3
section RXE
variable {L : Nat} {t : List (Nat × Nat)} {hi : Nat → Nat → Int32} {hl : Nat → Nat → Int64} {v : Nat → Nat → Option Nat}
variable {RI : Int32 → (Nat → Nat → Int32) → (Nat → Nat → Int64) → (Nat → Nat → Option Nat) → Prop}
variable {RV : (Nat → Nat → Int32) → (Nat → Nat → Int64) → (Nat → Nat → Option Nat) → Prop}
theorem c29 {S : cf_S} (V : cf_V S) (K : cf_K1 (S 0 0) (S 0 1) hi) (G1 : ∀ q, q < 64 → hi 8 q = nI (S 1 q)) (G2 : ∀ y, y < 8 → hi 9 y = nI (S 2 y)) {hl0 : Nat → Nat → Int64} (k : ∀ hl2, (∀ a b, ¬ (a = 7 ∧ b = 10) → hl2 a b = hl0 a b) → hl2 7 10 = cf_bar S → RV hi hl2 v) : rx_CV L t 29 [.ref 7] hi hl0 v RV := by
  have hwh := cf_V_wh V
  obtain ⟨hw2, hw8, hh2, hh8, hw, hh⟩ := K
  have em : hi 7 0 * hi 7 1 = nI (S 0 0 * S 0 1) := by rw [hw, hh, cf_nmul]
  have ex : (if (1 : Int32) < hi 7 0 then hi 7 0 else 1) = nI (S 0 0) := by
    rw [hw, if_pos]
    rw [show (1 : Int32) = nI 1 from rfl, cf_lt, nI_toInt (by omega), nI_toInt (by omega)]; omega
  have lp : ∀ d i, i + d = S 0 0 * S 0 1 → ∀ hl : Nat → Nat → Int64, (∀ a b, ¬ (a = 7 ∧ b = 10) → hl a b = hl0 a b) → hl 7 10 = cf_un (fun q => bif cf_isb S q then cf_bt q else 0) i → rx_aw 29 7 [.ref 7, .int (nI i)] [] (rx_hp L t hi hl v) (fun r h2 => r = none ∧ rx_ok2 L t h2 RV) := by
    intro d
    induction d with
    | zero =>
      intro i hid hl F e
      have : i = S 0 0 * S 0 1 := by omega
      subst this
      refine w29_findBarred_7 ⟨fun g => c_retV (k hl F e), fun g => absurd ?_ g⟩
      rw [em, cf_nle (by omega) (by omega)]; omega
    | succ d ih =>
      intro i hid hl F e
      have hdv : i / S 0 0 < S 0 1 := (Nat.div_lt_iff_lt_mul (by omega)).mpr (by rw [Nat.mul_comm]; omega)
      have v1 := V.2.2.2.2.1 i
      have v2 := V.2.2.2.2.2.1 (i / S 0 0)
      have ny : cf_isb S i = true → rx_aw 29 7 [.ref 7, .int (nI i + 1)] [] (rx_hp L t hi (rx_u hl 7 10 (hl 7 10 ||| (1 : Int64) <<< (Int32.toInt64 (nI i) &&& 63))) v) (fun r h2 => r = none ∧ rx_ok2 L t h2 RV) := by
        intro hb
        rw [show (1 : Int32) = nI 1 from rfl, nI_add]
        refine ih (i + 1) (by omega) _ (fun a b q => ?_) ?_
        · rw [cf_ru_ne q]; exact F a b q
        · rw [cf_ru_eq, e, cf_one i (by omega), cf_un, hb]; rfl
      have nn : cf_isb S i = false → rx_aw 29 7 [.ref 7, .int (nI i + 1)] [] (rx_hp L t hi hl v) (fun r h2 => r = none ∧ rx_ok2 L t h2 RV) := by
        intro hb
        rw [show (1 : Int32) = nI 1 from rfl, nI_add]
        refine ih (i + 1) (by omega) _ F ?_
        rw [e, cf_un, hb]
        exact (Int64.or_zero).symm
      refine w29_findBarred_7 ⟨fun g => ?_, fun g => ⟨i, rfl, by omega, fun g1 => ny ?_, fun g1 => ⟨?_, i / S 0 0, ?_, Nat.lt_of_lt_of_le hdv hh8, fun g2 => nn ?_, fun g2 => ny ?_⟩⟩⟩
      · rw [em, cf_nle (by omega) (by omega)] at g; omega
      all_goals rw [G1 i (by omega), show (1 : Int32) = nI 1 from rfl, nI_eq (by omega) (by omega)] at g1
      · unfold cf_isb; rw [decide_eq_true g1, Bool.true_or]
      · rw [ex]; exact nI_ne0 (by omega) (by omega)
      · rw [ex]; exact cf_ndiv (by omega) (by omega)
      all_goals rw [G2 _ (Nat.lt_of_lt_of_le hdv hh8), show (0 : Int32) = nI 0 from rfl, nI_eq (by omega) (by omega)] at g2
      · unfold cf_isb
        rw [decide_eq_false g1, decide_eq_false (by rw [g2]; decide)]; rfl
      · unfold cf_isb
        rw [decide_eq_true (show S 2 (i / S 0 0) = 1 by generalize S 2 (i / S 0 0) = y at *; omega), Bool.or_true]
  exact w29_findBarred (lp (S 0 0 * S 0 1) 0 (by omega) _ (fun a b q => cf_ru_ne q) cf_ru_eq)
theorem c25 {S : cf_S} (X : cf_XR S hi hl) {a0 a1 a2 : Int32} (kr : cf_lyz S a0 a1 a2 → RI (-2) hi hl v) (kg : ¬ cf_lyz S a0 a1 a2 → ∀ q g, cf_num (S 0 0) (S 0 1) a0 a1 = q + 1 → a2 = nI g → g < 4 → ∀ hl2, (∀ a b, ¬ (a = 7 ∧ b = 10) → hl2 a b = hl a b) → hl2 7 10 = cf_bar (cf_up S 1 q g) → RI (hi 8 q) (rx_u hi 8 q (nI g)) hl2 v) : rx_CI L t 25 [.ref 1, .int a0, .int a1, .int a2] hi hl v RI := by
  have V := X.1.1
  have K1 := X.1.2.1
  have C := X.1.2.2.2.2.1
  have hwh := cf_V_wh V
  have h0 : ((0 : Int32)).toInt = 0 := rfl
  have h3 : ((3 : Int32)).toInt = 3 := rfl
  have hn : cf_num (S 0 0) (S 0 1) a0 a1 ≤ 64 := by
    unfold cf_num
    split
    · have := cf_ix (w := S 0 0) (h := S 0 1) (y := a1.toInt.toNat) (x := a0.toInt.toNat) V.1.2 V.2.1.2 (by omega) (by omega)
      omega
    · omega
  unfold cf_lyz at kr kg
  refine w25_lay (c26 K1 ⟨fun g => c_retI (kr (Or.inl ?_)), fun g => ⟨fun g2 => c_retI (kr ?_), fun g2 => ⟨fun g3 => c_retI (kr ?_), fun g3 => c28 V C ⟨fun g4 => ?_, fun g4 => c_retI (kr (Or.inr (Or.inr (of_decide_eq_true (cf_B_ne g4)))))⟩⟩⟩⟩)
  · rw [cf_oneg (by omega)] at g; exact g
  · rw [cf_lt] at g2; omega
  · rw [cf_lt] at g3; omega
  · have hp := of_decide_eq_false (cf_B_eq g4)
    rw [cf_lt] at g2 g3
    rw [cf_oneg (by omega)] at g
    have eq : cf_num (S 0 0) (S 0 1) a0 a1 = cf_num (S 0 0) (S 0 1) a0 a1 - 1 + 1 := by omega
    generalize cf_num (S 0 0) (S 0 1) a0 a1 - 1 = q at eq
    obtain ⟨eg, _⟩ := cf_x (x := a2) (by omega)
    have hg : a2.toInt.toNat < 4 := by omega
    have kg' := kg (by omega) q _ eq eg hg
    generalize a2.toInt.toNat = g at *
    subst eg
    rw [eq, cf_oS]
    refine ⟨q, rfl, by omega, q, rfl, by omega, c29 (S := cf_up S 1 q g) (cf_V_lay V hg) ?_ (fun p hp => ?_) (fun y hy => ?_) (fun hl2 F e => c_retI (kg' hl2 F e))⟩
    · rw [cf_up_r (by omega), cf_up_r (by omega)]
      obtain ⟨b1, b2, b3, b4, b5, b6⟩ := K1
      exact ⟨b1, b2, b3, b4, by rw [cf_ru_ne (by omega)]; exact b5, by rw [cf_ru_ne (by omega)]; exact b6⟩
    · by_cases e : p = q
      · subst e; rw [cf_ru_eq, cf_up_e]
      · rw [cf_ru_ne (by omega), cf_up_n e]; exact X.1.2.2.2.2.2.1 p hp
    · rw [cf_ru_ne (by omega), cf_up_r (by omega)]; exact X.1.2.2.2.2.2.2.1 y hy
theorem c204 {S : cf_S} (V : cf_V S) (M : cf_M S hi) {a0 a1 a2 : Int32} (kr : cf_lyz S a0 a1 a2 → RI (-2) hi hl v) (kg : ¬ cf_lyz S a0 a1 a2 → ∀ q g, cf_num (S 0 0) (S 0 1) a0 a1 = q + 1 → a2 = nI g → g < 4 → RI (hi 91 q) (rx_u hi 91 q (nI g)) hl v) : rx_CI L t 204 [.ref 90, .int a0, .int a1, .int a2] hi hl v RI := by
  have h0 : ((0 : Int32)).toInt = 0 := rfl
  have h3 : ((3 : Int32)).toInt = 3 := rfl
  have h6 := V.2.2.1
  have h12 := V.2.2.2.1
  unfold cf_lyz at kr kg
  have es : (hi 90 6 + hi 90 21).toInt = S 0 2 + S 0 3 := by rw [M.2.1, M.2.2.1, nI_add, nI_toInt (by omega)]; omega
  refine w204_lay_r (c182 M.1 ⟨fun g => c_retI (kr (Or.inl ?_)), fun g => ⟨fun g2 => c_retI (kr ?_), fun g2 => ⟨fun g3 => c_retI (kr ?_), fun g3 => ⟨fun g4 => ?_, fun g4 => c_retI (kr ?_)⟩⟩⟩⟩)
  · have := of_decide_eq_false (cf_B_eq g)
    unfold cf_num; rw [if_neg this]
  · rw [cf_lt] at g2; omega
  · rw [cf_lt] at g3; omega
  · have hs := of_decide_eq_true (cf_B_ne g)
    rw [cf_lt] at g2 g3
    rw [cf_le', es] at g4
    obtain ⟨ex, _⟩ := cf_x (x := a0) (by omega)
    obtain ⟨ey, _⟩ := cf_x (x := a1) (by omega)
    obtain ⟨eg, _⟩ := cf_x (x := a2) (by omega)
    have en : cf_num (S 0 0) (S 0 1) a0 a1 = a1.toInt.toNat * S 0 0 + a0.toInt.toNat + 1 := by unfold cf_num; rw [if_pos hs]
    have lt := cf_ix (w := S 0 0) (h := S 0 1) (y := a1.toInt.toNat) (x := a0.toInt.toNat) V.1.2 V.2.1.2 (by omega) (by omega)
    have ix : a1 * hi 90 0 + a0 = nI (a1.toInt.toNat * S 0 0 + a0.toInt.toNat) := by
      rw [M.1.2.2.2.2.1, ← nI_add, ← cf_nmul, ← ex, ← ey]
    refine ⟨_, ix, lt, _, ix, lt, c_retI ?_⟩
    have := kg (by omega) _ _ en eg (by omega)
    rw [← eg] at this; exact this
  · rw [cf_le', es] at g4; omega
end RXE
theorem cf_pr_lay {L : Nat} {t : List (Nat × Nat)} (a0 a1 a2 : Int32) : cf_pr L t 25 204 [.int a0, .int a1, .int a2] := by
  intro S ls hi hl v R
  obtain ⟨I, A, Z, E⟩ := id R
  have V := I.1
  have M := Z.1.2.2.1
  refine c25 A.1 (fun q => c204 V M (fun _ => ⟨rfl, S, ls, R⟩) (fun q2 => absurd q q2)) (fun q p g ep eg hg hl2 Fl eb => c204 V (cf_M_ext M (fun a b q1 q2 q3 => cf_ru_ne (by omega))) (fun q2 => absurd q2 q) (fun _ p' g' ep' eg' _ => ?_))
  rw [ep] at ep'
  have hpp : p = p' := by omega
  rw [eg, nI_eq (by omega) (by omega)] at eg'
  subst hpp eg'
  have h2 : S 0 2 = 0 := by unfold cf_lyz at q; omega
  have h3 : S 0 3 = 0 := by unfold cf_lyz at q; omega
  have V' := cf_V_lay V (q := p) hg
  have hp : p < 64 := by
    have hwh := cf_V_wh V
    unfold cf_num at ep
    split at ep
    · have := cf_ix (w := S 0 0) (h := S 0 1) (y := a1.toInt.toNat) (x := a0.toInt.toNat) V.1.2 V.2.1.2 (by omega) (by omega)
      omega
    · omega
  refine ⟨?_, cf_up S 1 p g, ls, cf_Ir_0 V' (by rw [cf_up_r (by omega)]; exact h2) (by rw [cf_up_r (by omega)]; exact h3) I.2.2.2.2.2.1, ?_, ⟨?_, ?_⟩, ?_⟩
  · rw [cf_ru_ne (by omega), M.2.2.2.1 p hp]; exact (A.1.1.2.2.2.2.2.1 p hp).symm
  · refine cf_A_0 A h2 h3 V' (cf_up_row (by omega)) (fun a b q1 q2 q3 q4 => ?_) (fun a b _ _ q => Fl a b q) (fun y hy => ?_) (fun y hy => ?_) eb
    · rw [cf_ru_ne (by omega), cf_ru_ne (by omega)]
    · rw [cf_ru_ne (by omega)]
      by_cases e : y = p
      · subst e; rw [cf_ru_eq, cf_up_e]
      · rw [cf_ru_ne (by omega), cf_up_n e]; exact A.1.1.2.2.2.2.2.1 y hy
    · rw [cf_ru_ne (by omega), cf_ru_ne (by omega), cf_up_r (by omega)]; exact A.1.1.2.2.2.2.2.2.1 y hy
  · refine cf_RM_0 Z.1 h2 h3 V' (cf_up_row (by omega)) (fun b _ => ?_) (fun y hy => ?_) (fun y hy => ?_)
    · rw [cf_ru_ne (by omega), cf_ru_ne (by omega)]
    · by_cases e : y = p
      · subst e; rw [cf_ru_eq, cf_up_e]
      · rw [cf_ru_ne (by omega), cf_ru_ne (by omega), cf_up_n e]; exact M.2.2.2.1 y hy
    · rw [cf_ru_ne (by omega), cf_ru_ne (by omega), cf_up_r (by omega)]; exact M.2.2.2.2.1 y hy
  · rw [cf_ru_ne (by omega), cf_ru_ne (by omega)]; exact Z.2
  · refine cf_E_S (cf_E_ext E (fun a b q => ?_) (fun _ => rfl) rfl) (cf_up_row (by omega)) (cf_up_row (by omega))
    unfold cf_er at q
    rw [cf_ru_ne (by omega), cf_ru_ne (by omega)]
