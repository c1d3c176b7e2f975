/-! check() of both. -/
/-- what check() of the reference writes -/
def cf_fK (hi hi2 : Nat → Nat → Int32) : Prop := ∀ a b, ¬ (a = 90 ∧ 33 ≤ b ∧ b ≤ 36) → ¬ (94 ≤ a ∧ a ≤ 95) → ¬ (99 ≤ a ∧ a ≤ 104) → ¬ a = 108 → ¬ (121 ≤ a ∧ a ≤ 124) → hi2 a b = hi a b
section RXE
variable {L : Nat} {t : List (Nat × Nat)} {v : Nat → Nat → Option Nat}
variable {RI : Int32 → (Nat → Nat → Int32) → (Nat → Nat → Int64) → (Nat → Nat → Option Nat) → Prop}
theorem c214 {hi : Nat → Nat → Int32} {hl : Nat → Nat → Int64} {S : cf_S} (Z : cf_RM S hi hl) {x : Int32} {T : Nat} {tm : Nat → Nat} (hT : T ≤ 400) (e25 : hi 90 25 = nI T) (htm : ∀ j, j < T → tm j < 7 ∧ hi 109 j = nI (tm j))
    (k0 : cf_cn (S 0 2) x = 0 → RI (-2) hi hl v)
    (k1 : ∀ c, x = nI c → c < S 0 2 → c + 1 = cf_cn (S 0 2) x → ∀ nl, (∀ s, nl.testBit s = cf_fo S c s) → ∀ hi2 hl2, cf_fK hi hi2 → cf_fwl hl hl2 → cf_RM S hi2 hl2 → RI (cf_fb (cf_vb (cf_fw2 S c T tm) (c + 1) nl T c) T 402) hi2 hl2 v) : rx_CI L t 214 [.ref 90, .int x] hi hl v RI := by
  obtain ⟨V, H, M, K, N⟩ := Z
  have h6 := V.2.2.1
  refine w214_check_r (c161 V M ⟨fun g => c_retI (k0 ?_), fun g => ?_⟩)
  · have := cf_B_eq g
    rw [decide_eq_false_iff_not] at this; omega
  have g := cf_B_ne g
  rw [decide_eq_true_iff] at g
  obtain ⟨ex, hc⟩ := cf_cn_x h6 g
  have hcn : cf_cn (S 0 2) x - 1 + 1 = cf_cn (S 0 2) x := by omega
  revert ex hc hcn
  generalize cf_cn (S 0 2) x - 1 = c
  intro ex hc hcn
  subst ex
  have rr : ∀ a b, ¬ a = 4 → a < 20 → cf_fw2 S c T tm a b = S a b := fun a b h h2 => cf_fw2_r (by omega) (by omega)
  have V' := cf_fw2_V (S := S) V hc hT (fun j hj => (htm j hj).1)
  refine c215 V M N hc (fun nl hnl1 hnl2 => ?_)
  have hnl3 : nl < 2 ^ 20 := Nat.lt_trans hnl1 (by decide)
  refine c200f V (cf_M_ext M (fun a b q1 q2 q3 => by rw [cf_ru_ne (by omega), cf_ru_ne (by omega)])) (fun hi2 F2 K2 W2 => ?_)
  have f2 : ∀ a b, ¬ (121 ≤ a ∧ a ≤ 124) → ¬ (a = 90 ∧ 33 ≤ b ∧ b ≤ 36) → hi2 a b = hi a b := fun a b q1 q2 => by
    rw [F2 a b q1, cf_ru_ne (by omega), cf_ru_ne (by omega)]
  have e35 : hi2 90 35 = oI (c + 1) := by rw [F2 _ _ (by omega), cf_ru_eq, cf_oS]
  have e36 : hi2 90 36 = nI nl := by rw [F2 _ _ (by omega), cf_ru_ne (by omega), cf_ru_eq]
  have M2 : cf_M S hi2 := cf_M_ext M (fun a b q1 q2 q3 => f2 a b (by omega) (by omega))
  refine c191 V M2 e35 (by omega) e36 hnl3 (fun hi3 hl3 F3 Fl3 M3 N3 => ?_)
  refine c216 V M3 (tm := tm) hc hT ((F3 _ _ (by omega) (by omega) (by omega)).trans ((f2 _ _ (by omega) (by omega)).trans e25)) (fun j hj => (F3 _ _ (by omega) (by omega) (by omega)).trans ((f2 _ _ (by omega) (by omega)).trans (htm j hj).2)) (fun hi4 F4 M4 => ?_)
  have f4 : ∀ a b, ¬ (a = 90 ∧ (b = 33 ∨ b = 34)) → ¬ (94 ≤ a ∧ a ≤ 95) → ¬ (101 ≤ a ∧ a ≤ 104) → ¬ a = 108 → hi4 a b = hi2 a b := fun a b q1 q2 q3 q4 => (F4 a b (by omega) (by omega)).trans (F3 a b q1 q3 q4)
  refine c191 V' M4 ((f4 _ _ (by omega) (by omega) (by omega) (by omega)).trans e35) (by omega) ((f4 _ _ (by omega) (by omega) (by omega) (by omega)).trans e36) hnl3 (fun hi5 hl5 F5 Fl5 M5 N5 => ?_)
  have f5 : ∀ a b, ¬ (a = 90 ∧ (b = 33 ∨ b = 34)) → ¬ (94 ≤ a ∧ a ≤ 95) → ¬ (101 ≤ a ∧ a ≤ 104) → ¬ a = 108 → hi5 a b = hi2 a b := fun a b q1 q2 q3 q4 => (F5 a b q1 q3 q4).trans (f4 a b q1 q2 q3 q4)
  have e25' : hi5 90 25 = nI T := (f5 _ _ (by omega) (by omega) (by omega) (by omega)).trans ((f2 _ _ (by omega) (by omega)).trans e25)
  rw [e25']
  refine g214 V' M5 N5 (by rw [rr 0 _ (by omega) (by omega)]; exact hc) hT e25' ?_ 0 402 rfl
  have f6 : ∀ a b, ¬ (a = 90 ∧ 33 ≤ b ∧ b ≤ 36) → ¬ (94 ≤ a ∧ a ≤ 95) → ¬ (101 ≤ a ∧ a ≤ 104) → ¬ a = 108 → rx_u hi5 90 35 (-1) a b = hi2 a b := fun a b q1 q2 q3 q4 => by rw [cf_ru_ne (by omega)]; exact f5 a b (by omega) q2 q3 q4
  refine c200t V (S2 := cf_fw2 S c T tm) (cf_M_ext M5 (fun a b q1 q2 q3 => cf_ru_ne (by omega))) (fun a b q1 _ _ q4 => rr a b q1 q4) (fun o ho ho2 => ?_) (fun o ho u hu hlt => ?_) (fun hi6 F6 M6 => ?_)
  · rw [f6 _ _ (by omega) (by omega) (by omega) (by omega), f6 _ _ (by omega) (by omega) (by omega) (by omega), f6 _ _ (by omega) (by omega) (by omega) (by omega)]
    exact K2 o ho ho2
  · rw [f6 _ _ (by omega) (by omega) (by omega) (by omega)]
    exact W2 o ho u hu hlt
  · have K6 : cf_ck hi6 := ⟨by rw [F6 _ _ (by omega), cf_ru_eq], nl, by rw [F6 _ _ (by omega), cf_ru_ne (by omega), f5 _ _ (by omega) (by omega) (by omega) (by omega)]; exact e36, hnl3⟩
    refine c191w V H M6 K6 (fun hi7 hl7 F7 Fl7 M7 K7 N7 => ?_)
    refine c_retI (k1 c rfl hc hcn nl hnl2 hi7 hl7 (fun a b q1 q2 q3 q4 q5 => ?_) (fun a b q1 q2 => ?_) ⟨V, H, M7, K7, N7⟩)
    · rw [F7 a b (by omega) (by omega) q4, F6 a b (by omega), f6 a b q1 q2 (by omega) q4, f2 a b q5 q1]
    · rw [Fl7 a b q1 q2, Fl5 a b q1 q2, Fl3 a b q1 q2]
theorem c100 {hi : Nat → Nat → Int32} {hl : Nat → Nat → Int64} {S : cf_S} (X : cf_XR S hi hl) {x : Int32} {T : Nat} {tm : Nat → Nat} (hT : T ≤ 400) (e5 : hi 84 5 = nI T) (htm : ∀ j, j < T → tm j < 7 ∧ hi 85 j = nI (tm j))
    (k0 : cf_cn (S 0 2) x = 0 → RI (-2) hi hl v)
    (k1 : ∀ c, c < S 0 2 → c + 1 = cf_cn (S 0 2) x → ∀ hi2, (∀ a b, ¬ a = 86 → ¬ a = 87 → hi2 a b = hi a b) → RI (cf_jr S c (cf_tmv T tm) T (max T (cf_set S) + 2) 0 (S 9 c) (S 12) 0 0) hi2 hl v) : rx_CI L t 100 [.ref 1, .int x] hi hl v RI := by
  have V := X.1.1
  have h6 := V.2.2.1
  refine w100_check (c59 V X.1.2.2.2.2.1 ?_)
  by_cases h0 : cf_cn (S 0 2) x = 0
  · exact Or.inl ⟨if_pos h0, c_retI (k0 h0)⟩
  · have hc := (cf_cn_x h6 (Nat.pos_of_ne_zero h0)).2
    exact Or.inr ⟨cf_cn (S 0 2) x - 1, by omega, if_neg h0, c101 X hc hT e5 htm (fun hi2 F => c_retI (k1 _ hc (by omega) hi2 F))⟩
end RXE
theorem cf_Et_tm {hi : Nat → Nat → Int32} (E : cf_Et hi) : ∃ T, ∃ tm : Nat → Nat, T ≤ 400 ∧ hi 84 5 = nI T ∧ hi 90 25 = nI T ∧ ∀ j, j < T → tm j < 7 ∧ hi 85 j = nI (tm j) ∧ hi 109 j = nI (tm j) := by
  obtain ⟨⟨T, h1, h2, h3, h4⟩, _⟩ := E
  refine ⟨T, fun j => if h : j < T then Classical.choose (h4 j h) else 0, h1, h2, h3, fun j hj => ?_⟩
  have e : (fun j => if h : j < T then Classical.choose (h4 j h) else 0) j = Classical.choose (h4 j hj) := dif_pos hj
  rw [e]
  exact Classical.choose_spec (h4 j hj)
theorem cf_pr_check {L : Nat} {t : List (Nat × Nat)} (x : Int32) : cf_pr L t 100 214 [.int x] := by
  intro S ls hi hl v R
  obtain ⟨I, A, Z, E⟩ := id R
  obtain ⟨T, tm, hT, e5, e25, htm⟩ := cf_Et_tm E.2.1
  refine c100 A.1 hT e5 (fun j hj => ⟨(htm j hj).1, (htm j hj).2.1⟩) (fun h0 => c214 Z.1 hT e25 (fun j hj => ⟨(htm j hj).1, (htm j hj).2.2⟩) (fun _ => ⟨rfl, S, ls, R⟩) (fun c _ _ q => absurd h0 (by omega))) (fun c hc hcn hi2 F => ?_)
  have Z2 := cf_rel_Z (hi2 := hi2) (hl2 := hl) R (fun a b q => F a b (by omega) (by omega)) (fun _ _ _ => rfl)
  refine c214 Z2 hT ((F _ _ (by omega) (by omega)).trans e25) (fun j hj => ⟨(htm j hj).1, (F _ _ (by omega) (by omega)).trans (htm j hj).2.2⟩) (fun q => by omega) (fun c' _ hc' q nl hnl hi3 hl3 F3 Fl3 Z3 => ⟨?_, S, ls, I, ?_, ⟨Z3, ?_⟩, ?_⟩)
  · have : c' = c := by omega
    subst this
    exact (cf_jr_fb I.1 I.2.1 hT (fun j hj => (htm j hj).1) hnl hc).symm
  · exact cf_A_ext A (fun a b q1 q2 => (F3 a b (by omega) (by omega) (by omega) (by omega) (by omega)).trans (F a b (by omega) (by omega))) (fun a b q1 q2 => Fl3 a b (by omega) (by omega))
  · rw [F3 _ _ (by omega) (by omega) (by omega) (by omega) (by omega), F _ _ (by omega) (by omega)]; exact Z.2
  · refine cf_E_ext E (fun a b q => ?_) (fun _ => rfl) rfl
    unfold cf_er at q
    rw [F3 a b (by omega) (by omega) (by omega) (by omega) (by omega), F a b (by omega) (by omega)]
