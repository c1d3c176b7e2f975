/-! follow; anyMoveButGuests. -/
/-- a cart's way is the TOLD row -/
def cf_fw2 (S : cf_S) (c T : Nat) (tm : Nat → Nat) : cf_S := fun a b => if a = 4 ∧ b = c then T else if a = 20 + c ∧ b < T then tm b else S a b
theorem cf_fw2_4 {S : cf_S} {c T : Nat} {tm : Nat → Nat} : cf_fw2 S c T tm 4 c = T := if_pos ⟨rfl, rfl⟩
theorem cf_fw2_w {S : cf_S} {c T j : Nat} {tm : Nat → Nat} (h : j < T) : cf_fw2 S c T tm (20 + c) j = tm j := by
  unfold cf_fw2; rw [if_neg (by omega), if_pos ⟨rfl, h⟩]
theorem cf_fw2_r {S : cf_S} {c T a b : Nat} {tm : Nat → Nat} (h : ¬ (a = 4 ∧ b = c)) (h2 : ¬ a = 20 + c) : cf_fw2 S c T tm a b = S a b := by
  unfold cf_fw2; rw [if_neg h, if_neg (fun q => h2 q.1)]
section RXE
variable {L : Nat} {t : List (Nat × Nat)} {hl : Nat → Nat → Int64} {v : Nat → Nat → Option Nat}
variable {RI : Int32 → (Nat → Nat → Int32) → (Nat → Nat → Int64) → (Nat → Nat → Option Nat) → Prop}
variable {RV : (Nat → Nat → Int32) → (Nat → Nat → Int64) → (Nat → Nat → Option Nat) → Prop}
theorem c216 {hi0 : Nat → Nat → Int32} {S : cf_S} (V : cf_V S) (M : cf_M S hi0) {c T : Nat} {tm : Nat → Nat} (hc : c < S 0 2) (hT : T ≤ 400) (e25 : hi0 90 25 = nI T) (htm : ∀ j, j < T → hi0 109 j = nI (tm j)) (k : ∀ hi2, (∀ a b, ¬ (a = 94 ∧ b = c) → ¬ a = 95 → hi2 a b = hi0 a b) → cf_M (cf_fw2 S c T tm) hi2 → RV hi2 hl v) : rx_CV L t 216 [.ref 90, .int (nI c)] hi0 hl v RV := by
  have h6 := V.2.2.1
  have lp : ∀ d i, i + d = T → ∀ hi : Nat → Nat → Int32, (∀ a b, ¬ (a = 95 ∧ 400 * c ≤ b ∧ b < 400 * c + 400) → hi a b = hi0 a b) → (∀ j, j < i → hi 95 (400 * c + j) = nI (tm j)) → rx_aw 216 2 [.ref 90, .int (nI c), .int (nI i)] [] (rx_hp L t hi hl v) (fun r h2 => r = none ∧ rx_ok2 L t h2 RV) := by
    intro d
    induction d with
    | zero =>
      intro i hid hi F W
      have : i = T := by omega
      subst this
      refine w216_follow_r_2 ⟨fun _ => ⟨c, rfl, by omega, c_retV ?_⟩, fun g => absurd ?_ g⟩
      · rw [F 90 25 (by omega), e25]
        have u : ∀ a b, ¬ (a = 94 ∧ b = c) → ¬ (a = 95 ∧ 400 * c ≤ b ∧ b < 400 * c + 400) → rx_u hi 94 c (nI i) a b = hi0 a b := fun a b q1 q2 => by rw [cf_ru_ne q1]; exact F a b q2
        refine k _ (fun a b q1 q2 => u a b q1 (by omega)) ?_
        obtain ⟨⟨a1, a2, a3, a4, a5, a6, a7⟩, b, d', e, g, h, k0⟩ := M
        unfold cf_M
        rw [cf_fw2_r (a := 0) (b := 0) (by omega) (by omega), cf_fw2_r (a := 0) (b := 1) (by omega) (by omega), cf_fw2_r (a := 0) (b := 2) (by omega) (by omega), cf_fw2_r (a := 0) (b := 3) (by omega) (by omega)]
        refine ⟨⟨a1, a2, a3, a4, (u _ _ (by omega) (by omega)).trans a5, (u _ _ (by omega) (by omega)).trans a6, (u _ _ (by omega) (by omega)).trans a7⟩, (u _ _ (by omega) (by omega)).trans b, (u _ _ (by omega) (by omega)).trans d', fun p hp => ?_, fun p hp => ?_, fun o ho => ?_, fun s hs => ?_⟩
        · rw [u _ _ (by omega) (by omega), cf_fw2_r (by omega) (by omega)]; exact e p hp
        · rw [u _ _ (by omega) (by omega), cf_fw2_r (by omega) (by omega)]; exact g p hp
        · obtain ⟨f1, f2, f3, f4, f5, f6, f7, f8, f9, f10⟩ := h o ho
          have v4 := (V.2.2.2.2.2.2.1 o ho).2.2.2.1
          rw [cf_fw2_r (a := 3) (by omega) (by omega), cf_fw2_r (a := 5) (by omega) (by omega), cf_fw2_r (a := 6) (by omega) (by omega), cf_fw2_r (a := 7) (by omega) (by omega), cf_fw2_r (a := 8) (by omega) (by omega), cf_fw2_r (a := 9) (by omega) (by omega)]
          refine ⟨(u _ _ (by omega) (by omega)).trans f1, ?_, (u _ _ (by omega) (by omega)).trans f3, fun q => ⟨(u _ _ (by omega) (by omega)).trans (f4 q).1, (u _ _ (by omega) (by omega)).trans (f4 q).2⟩, (u _ _ (by omega) (by omega)).trans f5, (u _ _ (by omega) (by omega)).trans f6, fun j hj => ?_, (u _ _ (by omega) (by omega)).trans f8, (u _ _ (by omega) (by omega)).trans f9, (u _ _ (by omega) (by omega)).trans f10⟩
          · by_cases z : o = c
            · subst z; rw [cf_ru_eq, cf_fw2_4]
            · rw [u _ _ (by omega) (by omega), cf_fw2_r (by omega) (by omega)]; exact f2
          · by_cases z : o = c
            · subst z
              rw [cf_fw2_4] at hj
              rw [cf_ru_ne (by omega), cf_fw2_w hj]; exact W j hj
            · rw [cf_fw2_r (by omega) (by omega)] at hj
              rw [u _ _ (by omega) (by omega), cf_fw2_r (by omega) (by omega)]; exact f7 j hj
        · rw [u _ _ (by omega) (by omega), cf_fw2_r (by omega) (by omega)]; exact k0 s hs
      · rw [F 90 25 (by omega), e25, cf_nle (by omega) (by omega)]; omega
    | succ d ih =>
      intro i hid hi F W
      refine w216_follow_r_2 ⟨fun g => ?_, fun _ => ⟨i, rfl, by omega, 400 * c + i, cf_400, by omega, ?_⟩⟩
      · rw [F 90 25 (by omega), e25, cf_nle (by omega) (by omega)] at g; omega
      · rw [F 109 i (by omega), htm i (by omega), show nI i + 1 = nI (i + 1) from nI_add i 1]
        refine ih (i + 1) (by omega) _ (fun a b q => by rw [cf_ru_ne (by omega)]; exact F a b q) (fun j hj => ?_)
        by_cases z : j = i
        · subst z; exact cf_ru_eq
        · rw [cf_ru_ne (by omega)]; exact W j (by omega)
  exact w216_follow_r (lp T 0 (by omega) hi0 (fun _ _ _ => rfl) (fun j hj => by omega))
theorem c107 {hi : Nat → Nat → Int32} {S : cf_S} (V : cf_V S) (C : cf_C S hi) (k : RI (cf_B (cf_any (fun o => !decide (S 3 o = 3) && decide (0 < S 4 o)) (S 0 2))) hi hl v) : rx_CI L t 107 [.ref 13] hi hl v RI := by
  have h6 := V.2.2.1
  have lp : ∀ d i, i + d = S 0 2 → cf_any (fun o => !decide (S 3 o = 3) && decide (0 < S 4 o)) i = false → rx_aw 107 2 [.ref 13, .int (nI i)] [] (rx_hp L t hi hl v) (fun r h2 => ∃ z : Int32, r = some (.int z) ∧ rx_ok2 L t h2 (RI z)) := by
    intro d
    induction d with
    | zero =>
      intro i hid ha
      have : i = S 0 2 := by omega
      subst this
      refine w107_anyMoveButGuests_2 ⟨fun _ => c_retIe k (by rw [ha]; rfl), fun g => absurd ?_ g⟩
      rw [C.1, cf_nle (by omega) (by omega)]; omega
    | succ d ih =>
      intro i hid ha
      have hi0 : i < S 0 2 := by omega
      have hC := C.2.2.1 i hi0
      obtain ⟨v3, _, _, v4, _⟩ := V.2.2.2.2.2.2.1 i hi0
      have nx : (!decide (S 3 i = 3) && decide (0 < S 4 i)) = false → rx_aw 107 2 [.ref 13, .int (nI i + 1)] [] (rx_hp L t hi hl v) (fun r h2 => ∃ z : Int32, r = some (.int z) ∧ rx_ok2 L t h2 (RI z)) := fun z => by
        rw [show nI i + 1 = nI (i + 1) from nI_add i 1]
        exact ih (i + 1) (by omega) (by rw [cf_any, ha, z]; rfl)
      refine w107_anyMoveButGuests_2 ⟨fun g => ?_, fun _ => ⟨i, rfl, by omega, fun g => nx ?_, fun g => ⟨i, rfl, by omega, fun g2 => nx ?_, fun g2 => c_retIe k ?_⟩⟩⟩
      · rw [C.1, cf_nle (by omega) (by omega)] at g; omega
      all_goals rw [hC.1, show (3 : Int32) = nI 3 from rfl, nI_eq (by omega) (by omega)] at g
      · rw [decide_eq_true g]; rfl
      all_goals rw [hC.2.2.1, show (0 : Int32) = nI 0 from rfl, cf_nle (by omega) (by omega)] at g2
      · rw [decide_eq_false (show ¬ 0 < S 4 i by omega), Bool.and_false]
      · rw [cf_any_true hi0 (by rw [decide_eq_false g, decide_eq_true (show 0 < S 4 i by omega)]; rfl)]; rfl
  exact w107_anyMoveButGuests (lp (S 0 2) 0 (by omega) rfl)
end RXE
