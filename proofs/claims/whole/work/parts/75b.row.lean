/-! row of both. -/
def cf_rwz (S : cf_S) (a0 : Int32) : Prop := ¬ (0 ≤ a0.toInt ∧ a0.toInt < S 0 1) ∨ 0 < S 0 2 ∨ 0 < S 0 3
section RXE
variable {L : Nat} {t : List (Nat × Nat)} {hi : Nat → Nat → Int32} {hl : Nat → Nat → Int64} {v : Nat → Nat → Option Nat}
variable {RI : Int32 → (Nat → Nat → Int32) → (Nat → Nat → Int64) → (Nat → Nat → Option Nat) → Prop}
variable {RV : (Nat → Nat → Int32) → (Nat → Nat → Int64) → (Nat → Nat → Option Nat) → Prop}
theorem c32m {hi0 : Nat → Nat → Int32} {a b : Nat} (hab : a ≤ b) (hb : b ≤ 64)
    (k : ∀ hi2, (∀ i j, ¬ i = 89 → hi2 i j = hi0 i j) → (∀ j, hi2 89 j = if a ≤ j ∧ j < b then 0 else hi0 89 j) → RV hi2 hl v) :
    rx_CV L t 32 [.ref 89, .int (nI a), .int (nI b), .int 0] hi0 hl v RV := by
  have hnar : vp_nar .byte (0 : Int32) = 0 := rfl
  have lp : ∀ d i, i + d = b → a ≤ i → ∀ hi : Nat → Nat → Int32, (∀ x y, ¬ x = 89 → hi x y = hi0 x y) → (∀ j, hi 89 j = if a ≤ j ∧ j < i then 0 else hi0 89 j) → rx_aw 32 10 [.ref 89, .int (nI a), .int (nI b), .int 0, .int (nI i)] [] (rx_hp L t hi hl v) (fun r h2 => r = none ∧ rx_ok2 L t h2 RV) := by
    intro d
    induction d with
    | zero =>
      intro i hid hai hi F W
      have : i = b := by omega
      subst this
      refine w32_fill_at89_10 ⟨fun g => c_retV (k hi F W), fun g => absurd ?_ g⟩
      rw [cf_nle (by omega) (by omega)]; omega
    | succ d ih =>
      intro i hid hai hi F W
      refine w32_fill_at89_10 ⟨fun g => ?_, fun g => ⟨i, rfl, by omega, ?_⟩⟩
      · rw [cf_nle (by omega) (by omega)] at g; omega
      · rw [hnar, show nI i + 1 = nI (i + 1) from nI_add i 1]
        refine ih (i + 1) (by omega) (by omega) _ (fun x y q => ?_) (fun j => ?_)
        · rw [cf_ru_ne (by omega)]; exact F x y q
        · by_cases e : j = i
          · subst e; rw [cf_ru_eq, if_pos (by omega)]
          · rw [cf_ru_ne (by omega), W j]
            by_cases z : a ≤ j ∧ j < i
            · rw [if_pos z, if_pos (by omega)]
            · rw [if_neg z, if_neg (by omega)]
  have hc : ((64 : Int32)) = nI 64 := rfl
  refine w32_fill_at89 (w33_rangeCheck ⟨fun _ => ⟨fun _ => ⟨fun _ => c_retV (lp (b - a) a (by omega) (Nat.le_refl _) hi0 (fun _ _ _ => rfl) (fun j => by rw [if_neg (by omega)])), fun g => g ?_⟩, fun g => g ?_⟩, fun g => g ?_⟩)
  · rw [hc, cf_nle (by omega) (by omega)]; omega
  · rw [show (0 : Int32) = nI 0 from rfl, cf_nle (by omega) (by omega)]; omega
  · rw [cf_nle (by omega) (by omega)]; omega
theorem c30 {S : cf_S} (X : cf_XR S hi hl) {a0 : Int32} {g : Nat} (hg : g ≤ 1) (kr : cf_rwz S a0 → RI (-2) hi hl v) (kg : ¬ cf_rwz S a0 → ∀ y, a0 = nI y → y < S 0 1 → ∀ hi2 hl2, (∀ a b, ¬ (a = 9 ∧ b = y) → ¬ a = 89 → hi2 a b = hi a b) → hi2 9 y = nI g → (∀ j, hi2 89 j = if g = 1 ∧ y * S 0 0 ≤ j ∧ j < y * S 0 0 + S 0 0 then 0 else hi 89 j) → (∀ a b, ¬ (a = 7 ∧ b = 10) → hl2 a b = hl a b) → hl2 7 10 = cf_bar (cf_up S 2 y g) → RI (nI (S 2 y)) hi2 hl2 v) : rx_CI L t 30 [.ref 1, .int a0, .int (nI g)] hi hl v RI := by
  have V := X.1.1
  have K1 := X.1.2.1
  have C := X.1.2.2.2.2.1
  have mi := X.1.2.2.2.2.2.2.1
  have hw := V.1
  have hh := V.2.1
  unfold cf_rwz at kr kg
  refine w30_row (c27 K1 ⟨fun e => c_retI (kr (Or.inl (of_decide_eq_false (cf_B_eq e)))), fun e => c28 V C ⟨fun e2 => ?_, fun e2 => c_retI (kr (Or.inr (of_decide_eq_true (cf_B_ne e2))))⟩⟩)
  have hy := of_decide_eq_true (cf_B_ne e)
  have hp := of_decide_eq_false (cf_B_eq e2)
  obtain ⟨ey, _⟩ := cf_x (x := a0) hy.1
  have hyl : a0.toInt.toNat < S 0 1 := by omega
  have kg' := kg (by omega) _ ey hyl
  generalize a0.toInt.toNat = y at *
  subst ey
  have em := mi y (by omega)
  have v2 := V.2.2.2.2.2.1 y
  have bd : y * S 0 0 + S 0 0 ≤ 64 := by
    have b1 : (y + 1) * S 0 0 ≤ 8 * 8 := Nat.mul_le_mul (by omega) (by omega)
    rw [Nat.succ_mul] at b1; exact b1
  have rest : rx_CV L t 29 [.ref 7] (rx_u hi 9 y (vp_nar .boolean (nI g))) hl v (fun hi8 hl8 v8 => (nI g = 0 → ∃ z : Int32, (some (Value.int (nI (S 2 y)))) = some (.int z) ∧ rx_ok2 L t (rx_hp L t hi8 hl8 v8) (RI z)) ∧ (¬ nI g = 0 → rx_CV L t 31 [.ref 88, .int (nI y)] hi8 hl8 v8 (fun hi10 hl10 v10 => ∃ z : Int32, (some (Value.int (nI (S 2 y)))) = some (.int z) ∧ rx_ok2 L t (rx_hp L t hi10 hl10 v10) (RI z)))) := by
    rw [cf_nar7 hg]
    refine c29 (S := cf_up S 2 y g) (cf_V_mis V hg) ?_ (fun p hp => ?_) (fun p hp => ?_) (fun hl2 F eb => ⟨fun q => c_retI (kg' _ hl2 (fun a b q1 q2 => cf_ru_ne q1) cf_ru_eq (fun j => ?_) F eb), fun q => w31_lose ?_⟩)
    · rw [cf_up_r (by omega), cf_up_r (by omega)]
      obtain ⟨b1, b2, b3, b4, b5, b6⟩ := K1
      exact ⟨b1, b2, b3, b4, by rw [cf_ru_ne (by omega)]; exact b5, by rw [cf_ru_ne (by omega)]; exact b6⟩
    · rw [cf_ru_ne (by omega), cf_up_r (by omega)]; exact X.1.2.2.2.2.2.1 p hp
    · by_cases e : p = y
      · subst e; rw [cf_ru_eq, cf_up_e]
      · rw [cf_ru_ne (by omega), cf_up_n e]; exact mi p hp
    · rw [show (0 : Int32) = nI 0 from rfl, nI_eq (by omega) (by omega)] at q
      rw [cf_ru_ne (by omega), if_neg (by omega)]
    · rw [show (0 : Int32) = nI 0 from rfl, nI_eq (by omega) (by omega)] at q
      have e1 : nI y * (rx_u hi 9 y (nI g)) 7 0 = nI (y * S 0 0) := by rw [cf_ru_ne (by omega), K1.2.2.2.2.1, cf_nmul]
      have e2 : (nI y + 1) * (rx_u hi 9 y (nI g)) 7 0 = nI (y * S 0 0 + S 0 0) := by rw [cf_ru_ne (by omega), K1.2.2.2.2.1, show (1 : Int32) = nI 1 from rfl, nI_add, cf_nmul, Nat.succ_mul]
      rw [e1, e2]
      refine c32m (by omega) bd (fun hi3 F3 W3 => c_retV (c_retI (kg' hi3 hl2 (fun a b q1 q2 => ?_) ?_ (fun j => ?_) F eb)))
      · rw [F3 a b q2, cf_ru_ne q1]
      · rw [F3 _ _ (by omega)]; exact cf_ru_eq
      · rw [W3 j, cf_ru_ne (by omega)]
        by_cases z : y * S 0 0 ≤ j ∧ j < y * S 0 0 + S 0 0
        · rw [if_pos z, if_pos (by omega)]
        · rw [if_neg z, if_neg (by omega)]
  refine ⟨y, rfl, by omega, fun q => ⟨y, rfl, by omega, ?_⟩, fun q => ⟨y, rfl, by omega, ?_⟩⟩
  all_goals rw [em, show (0 : Int32) = nI 0 from rfl, nI_eq (by omega) (by omega)] at q
  · rw [q] at rest
    exact rest
  · rw [show S 2 y = 1 by omega] at rest
    exact rest
theorem c205 {hi0 : Nat → Nat → Int32} {S : cf_S} (V : cf_V S) (M : cf_M S hi0) {a0 : Int32} {g : Nat} (hg : g ≤ 1) (kr : cf_rwz S a0 → RI (-2) hi0 hl v) (kg : ¬ cf_rwz S a0 → ∀ y, a0 = nI y → y < S 0 1 → ∀ hi2, (∀ a b, ¬ (a = 92 ∧ b = y) → ¬ a = 112 → hi2 a b = hi0 a b) → hi2 92 y = nI g → (∀ j, hi2 112 j = if (g = 1 ∨ S 2 y = 1) ∧ 8 * y ≤ j ∧ j < 8 * y + S 0 0 then 0 else hi0 112 j) → RI (nI (S 2 y)) hi2 hl v) : rx_CI L t 205 [.ref 90, .int a0, .int (nI g)] hi0 hl v RI := by
  have h0 : ((0 : Int32)).toInt = 0 := rfl
  have h6 := V.2.2.1
  have h12 := V.2.2.2.1
  have hw := V.1
  have hh := V.2.1
  obtain ⟨⟨_, _, _, _, e0, e1, _⟩, f1, f2, _, mi, _, _⟩ := M
  have es : (hi0 90 6 + hi0 90 21).toInt = S 0 2 + S 0 3 := by rw [f1, f2, nI_add, nI_toInt (by omega)]; omega
  unfold cf_rwz at kr kg
  refine w205_row_r ⟨fun q => c_retI (kr ?_), fun q => ⟨fun q2 => c_retI (kr ?_), fun q2 => ⟨fun q3 => ?_, fun q3 => c_retI (kr ?_)⟩⟩⟩
  · rw [cf_lt] at q; omega
  · rw [e1, cf_le', nI_toInt (by omega)] at q2; omega
  · rw [cf_lt] at q; rw [e1, cf_le', nI_toInt (by omega)] at q2; rw [cf_le', es] at q3
    obtain ⟨ey, _⟩ := cf_x (x := a0) (by omega)
    have hyl : a0.toInt.toNat < S 0 1 := by omega
    have kg' := kg (by omega) _ ey hyl
    generalize a0.toInt.toNat = y at *
    subst ey
    have v2 := V.2.2.2.2.2.1 y
    have lp : ∀ d i, i + d = S 0 0 → ∀ hi : Nat → Nat → Int32, (∀ a b, ¬ a = 112 → hi a b = hi0 a b) → (∀ j, hi 112 j = if (g = 1 ∨ S 2 y = 1) ∧ 8 * y ≤ j ∧ j < 8 * y + i then 0 else hi0 112 j) → rx_aw 205 45 [.ref 90, .int (nI y), .int (nI g), .int (nI (S 2 y)), .int (nI i)] [] (rx_hp L t hi hl v) (fun r h2 => ∃ z : Int32, r = some (.int z) ∧ rx_ok2 L t h2 (RI z)) := by
      intro d
      induction d with
      | zero =>
        intro i hid hi F W
        have : i = S 0 0 := by omega
        subst this
        refine w205_row_r_45 ⟨fun q => ⟨y, rfl, by omega, c_retI ?_⟩, fun q => absurd ?_ q⟩
        · rw [cf_nar7 hg]
          refine kg' _ (fun a b z1 z2 => ?_) cf_ru_eq (fun j => ?_)
          · rw [cf_ru_ne z1]; exact F a b z2
          · rw [cf_ru_ne (by omega)]; exact W j
        · rw [F _ _ (by omega), e0, cf_nle (by omega) (by omega)]; omega
      | succ d ih =>
        intro i hid hi F W
        have ix : (8 : Int32) * nI y + nI i = nI (8 * y + i) := by rw [show (8 : Int32) = nI 8 from rfl, cf_nmul, nI_add]
        have nx : (g = 1 ∨ S 2 y = 1) → rx_aw 205 45 [.ref 90, .int (nI y), .int (nI g), .int (nI (S 2 y)), .int (nI i + 1)] [] (rx_hp L t (rx_u hi 112 (8 * y + i) 0) hl v) (fun r h2 => ∃ z : Int32, r = some (.int z) ∧ rx_ok2 L t h2 (RI z)) := by
          intro hz
          rw [show (1 : Int32) = nI 1 from rfl, nI_add]
          refine ih (i + 1) (by omega) _ (fun a b z => ?_) (fun j => ?_)
          · rw [cf_ru_ne (by omega)]; exact F a b z
          · by_cases e : j = 8 * y + i
            · subst e; rw [cf_ru_eq, if_pos ⟨hz, by omega, by omega⟩]
            · rw [cf_ru_ne (by omega), W j]
              by_cases z : (g = 1 ∨ S 2 y = 1) ∧ 8 * y ≤ j ∧ j < 8 * y + i
              · rw [if_pos z, if_pos ⟨z.1, by omega, by omega⟩]
              · rw [if_neg z, if_neg (fun w => z ⟨w.1, by omega, by omega⟩)]
        refine w205_row_r_45 ⟨fun q => ?_, fun q => ⟨fun z => ⟨y, rfl, by omega, fun z2 => ⟨y, rfl, by omega, c_retI ?_⟩, fun z2 => ⟨_, ix, by omega, nx ?_⟩⟩, fun z => ⟨_, ix, by omega, nx ?_⟩⟩⟩
        · rw [F _ _ (by omega), e0, cf_nle (by omega) (by omega)] at q; omega
        all_goals rw [show (0 : Int32) = nI 0 from rfl, nI_eq (by omega) (by omega)] at z
        · rw [F _ _ (by omega), mi _ (by omega), show (0 : Int32) = nI 0 from rfl, nI_eq (by omega) (by omega)] at z2
          rw [cf_nar7 hg]
          refine kg' _ (fun a b z1 z2 => ?_) cf_ru_eq (fun j => ?_)
          · rw [cf_ru_ne z1]; exact F a b z2
          · rw [cf_ru_ne (by omega), W j, if_neg (by omega), if_neg (by omega)]
        · rw [F _ _ (by omega), mi _ (by omega), show (0 : Int32) = nI 0 from rfl, nI_eq (by omega) (by omega)] at z2
          omega
        · omega
    have st := lp (S 0 0) 0 (by omega) hi0 (fun _ _ _ => rfl) (fun j => by rw [if_neg (by omega)])
    refine ⟨y, rfl, by omega, fun z => ?_, fun z => ?_⟩
    all_goals rw [mi _ (by omega), show (0 : Int32) = nI 0 from rfl, nI_eq (by omega) (by omega)] at z
    · rw [z] at st; exact st
    · rw [show S 2 y = 1 by omega] at st; exact st
  · rw [cf_le', es] at q3; omega
end RXE
theorem cf_pr_row {L : Nat} {t : List (Nat × Nat)} (a0 : Int32) (g : Nat) (hg : g ≤ 1) : cf_pr L t 30 205 [.int a0, .int (nI g)] := by
  intro S ls hi hl v R
  obtain ⟨I, A, Z, E⟩ := id R
  have V := I.1
  have M := Z.1.2.2.1
  have hw := V.1
  have hh := V.2.1
  refine c30 A.1 hg (fun q => c205 V M hg (fun _ => ⟨rfl, S, ls, R⟩) (fun q2 => absurd q q2)) (fun q y ey hy hi2 hl2 F e9 W Fl eb => c205 V (cf_M_ext M (fun a b q1 q2 q3 => F a b (by omega) (by omega))) hg (fun q2 => absurd q2 q) (fun _ y' ey' _ hi3 F3 e92 W3 => ?_))
  rw [ey, nI_eq (by omega) (by omega)] at ey'
  subst ey'
  have h2 : S 0 2 = 0 := by unfold cf_rwz at q; omega
  have h3 : S 0 3 = 0 := by unfold cf_rwz at q; omega
  have V' := cf_V_mis V (q := y) hg
  have G : ∀ a b, ¬ (a = 9 ∧ b = y) → ¬ a = 89 → ¬ (a = 92 ∧ b = y) → ¬ a = 112 → hi3 a b = hi a b := fun a b q1 q2 q3 q4 => (F3 a b q3 q4).trans (F a b q1 q2)
  obtain ⟨E1, E2, E3, E4, E5, E6⟩ := E
  have v2 := V.2.2.2.2.2.1 y
  refine ⟨rfl, cf_up S 2 y g, ls, cf_Ir_0 V' (by rw [cf_up_r (by omega)]; exact h2) (by rw [cf_up_r (by omega)]; exact h3) I.2.2.2.2.2.1, ?_, ⟨?_, ?_⟩, ?_⟩
  · refine cf_A_0 A h2 h3 V' (cf_up_row (by omega)) (fun a b q1 q2 q3 q4 => ?_) (fun a b _ _ q => Fl a b q) (fun p hp => ?_) (fun p hp => ?_) eb
    · exact G a b (by omega) (by omega) (by omega) (by omega)
    · rw [G _ _ (by omega) (by omega) (by omega) (by omega), cf_up_r (by omega)]; exact A.1.1.2.2.2.2.2.1 p hp
    · by_cases e : p = y
      · subst e; rw [F3 _ _ (by omega) (by omega), e9, cf_up_e]
      · rw [G _ _ (by omega) (by omega) (by omega) (by omega), cf_up_n e]; exact A.1.1.2.2.2.2.2.2.1 p hp
  · refine cf_RM_0 Z.1 h2 h3 V' (cf_up_row (by omega)) (fun b _ => ?_) (fun p hp => ?_) (fun p hp => ?_)
    · exact G _ _ (by omega) (by omega) (by omega) (by omega)
    · rw [G _ _ (by omega) (by omega) (by omega) (by omega), cf_up_r (by omega)]; exact M.2.2.2.1 p hp
    · by_cases e : p = y
      · subst e; rw [e92, cf_up_e]
      · rw [G _ _ (by omega) (by omega) (by omega) (by omega), cf_up_n e]; exact M.2.2.2.2.1 p hp
  · rw [G _ _ (by omega) (by omega) (by omega) (by omega)]; exact Z.2
  · unfold cf_E
    rw [cf_up_row (a := 0) (by omega)]
    refine ⟨?_, ?_, ?_, ⟨fun r k hr hk => ?_, fun j hj => ?_⟩, ?_, E6⟩
    · rw [G _ _ (by omega) (by omega) (by omega) (by omega), G _ _ (by omega) (by omega) (by omega) (by omega)]; exact E1
    · refine cf_Et_ext E2 ?_ ?_ ?_ ?_ <;> (try intro b) <;> exact G _ _ (by omega) (by omega) (by omega) (by omega)
    · refine cf_Eh_ext E3 ?_ ?_ ?_ ?_ <;> intro b <;> exact G _ _ (by omega) (by omega) (by omega) (by omega)
    · rw [F3 89 _ (by omega) (by omega), W, W3]
      by_cases er : r = y
      · subst er
        rw [cf_up_e]
        by_cases zg : g = 1
        · rw [if_pos ⟨Or.inl zg, by omega, by omega⟩, if_pos ⟨zg, by omega, by omega⟩]
          exact ⟨rfl, fun _ => rfl⟩
        · rw [if_neg (show ¬ (g = 1 ∧ r * S 0 0 ≤ r * S 0 0 + k ∧ r * S 0 0 + k < r * S 0 0 + S 0 0) from fun w => zg w.1)]
          refine ⟨?_, fun w => absurd w zg⟩
          by_cases zm : S 2 r = 1
          · rw [if_pos ⟨Or.inr zm, by omega, by omega⟩]
            exact ((E4.1 r k hr hk).2 zm).symm
          · rw [if_neg (fun w => by rcases w.1 with z | z; exact zg z; exact zm z), F 112 _ (by omega) (by omega)]
            exact (E4.1 r k hr hk).1
      · rw [cf_up_n er]
        have n1 : ¬ (8 * y ≤ 8 * r + k ∧ 8 * r + k < 8 * y + S 0 0) := by omega
        have n2 : ¬ (y * S 0 0 ≤ r * S 0 0 + k ∧ r * S 0 0 + k < y * S 0 0 + S 0 0) := by
          intro w
          have w2 := (cf_rix (w := S 0 0) (r := r) (k := k) (o := y) (p := r * S 0 0 + k - y * S 0 0) hk (by omega)).mp (by omega)
          exact er w2.1
        rw [if_neg (fun w => n1 w.2), if_neg (fun w => n2 w.2), F 112 _ (by omega) (by omega)]
        exact E4.1 r k hr hk
    · rw [F3 89 _ (by omega) (by omega), W]
      by_cases z : g = 1 ∧ y * S 0 0 ≤ j ∧ j < y * S 0 0 + S 0 0
      · rw [if_pos z]; rfl
      · rw [if_neg z]; exact E4.2 j hj
    · refine cf_El_ext E5 ?_ ?_ ?_ ?_ ?_ (fun _ => rfl) <;> (try intro b) <;> exact G _ _ (by omega) (by omega) (by omega) (by omega)
