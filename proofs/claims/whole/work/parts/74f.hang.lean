/-! hang, take of both. -/
theorem cf_eqI {x y : Int32} : x = y ↔ x.toInt = y.toInt := Int32.toInt_inj.symm
def cf_hga (n m : Nat) (a0 a1 a2 : Int32) : Option Int32 := if ¬ (0 ≤ a1.toInt ∧ a1.toInt ≤ 2) then some (-2) else if ¬ (0 ≤ a0.toInt ∧ a0.toInt < 10) then some (-11) else if (a1.toInt = 1 ∧ ¬ (0 ≤ a2.toInt ∧ a2.toInt < n)) ∨ (a1.toInt = 2 ∧ ¬ (0 ≤ a2.toInt ∧ a2.toInt < m)) then some (-10) else none
theorem cf_hga2 {n m : Nat} {a0 a1 a2 : Int32} (h : ¬ (0 ≤ a1.toInt ∧ a1.toInt ≤ 2)) : cf_hga n m a0 a1 a2 = some (-2) := by unfold cf_hga; rw [if_pos h]
theorem cf_hga11 {n m : Nat} {a0 a1 a2 : Int32} (h : 0 ≤ a1.toInt ∧ a1.toInt ≤ 2) (h2 : ¬ (0 ≤ a0.toInt ∧ a0.toInt < 10)) : cf_hga n m a0 a1 a2 = some (-11) := by unfold cf_hga; rw [if_neg (fun q => q h), if_pos h2]
theorem cf_hga10 {n m : Nat} {a0 a1 a2 : Int32} (h : 0 ≤ a1.toInt ∧ a1.toInt ≤ 2) (h2 : 0 ≤ a0.toInt ∧ a0.toInt < 10) (h3 : (a1.toInt = 1 ∧ ¬ (0 ≤ a2.toInt ∧ a2.toInt < n)) ∨ (a1.toInt = 2 ∧ ¬ (0 ≤ a2.toInt ∧ a2.toInt < m))) : cf_hga n m a0 a1 a2 = some (-10) := by unfold cf_hga; rw [if_neg (fun q => q h), if_neg (fun q => q h2), if_pos h3]
theorem cf_hgan {n m : Nat} {a0 a1 a2 : Int32} (h : 0 ≤ a1.toInt ∧ a1.toInt ≤ 2) (h2 : 0 ≤ a0.toInt ∧ a0.toInt < 10) (h3 : ¬ ((a1.toInt = 1 ∧ ¬ (0 ≤ a2.toInt ∧ a2.toInt < n)) ∨ (a1.toInt = 2 ∧ ¬ (0 ≤ a2.toInt ∧ a2.toInt < m)))) : cf_hga n m a0 a1 a2 = none := by unfold cf_hga; rw [if_neg (fun q => q h), if_neg (fun q => q h2), if_neg h3]
theorem cf_hga_n {n m : Nat} {a0 a1 a2 : Int32} (h : cf_hga n m a0 a1 a2 = none) : (0 ≤ a1.toInt ∧ a1.toInt ≤ 2) ∧ (0 ≤ a0.toInt ∧ a0.toInt < 10) ∧ ¬ ((a1.toInt = 1 ∧ ¬ (0 ≤ a2.toInt ∧ a2.toInt < n)) ∨ (a1.toInt = 2 ∧ ¬ (0 ≤ a2.toInt ∧ a2.toInt < m))) := by
  unfold cf_hga at h
  by_cases q1 : 0 ≤ a1.toInt ∧ a1.toInt ≤ 2
  · rw [if_neg (fun q => q q1)] at h
    by_cases q2 : 0 ≤ a0.toInt ∧ a0.toInt < 10
    · rw [if_neg (fun q => q q2)] at h
      refine ⟨q1, q2, fun q3 => ?_⟩
      rw [if_pos q3] at h; cases h
    · rw [if_pos q2] at h; cases h
  · rw [if_pos q1] at h; cases h
section RXE
variable {L : Nat} {t : List (Nat × Nat)} {hi : Nat → Nat → Int32} {hl : Nat → Nat → Int64} {v : Nat → Nat → Option Nat}
variable {RI : Int32 → (Nat → Nat → Int32) → (Nat → Nat → Int64) → (Nat → Nat → Option Nat) → Prop}
theorem c144 {a0 a1 a2 : Int32} {j : Nat} (e : a0 = nI j) (hj : j < 10) (k : RI (hi 3 j) (rx_u (rx_u hi 3 j a1) 4 j a2) hl v) : rx_CI L t 144 [.ref 2, .int a0, .int a1, .int a2] hi hl v RI := w144_put ⟨j, e, hj, j, e, hj, j, e, hj, c_retI k⟩
theorem c142 {n m : Nat} (hn : n ≤ 6) (hm : m ≤ 12) (e1 : hi 13 3 = nI n) (e2 : hi 13 4 = nI m) {a0 a1 a2 : Int32} (kr : ∀ z, cf_hga n m a0 a1 a2 = some z → RI z hi hl v)
    (kg : cf_hga n m a0 a1 a2 = none → ∀ j, a0 = nI j → j < 10 → RI (hi 3 j) (rx_u (rx_u hi 3 j a1) 4 j a2) hl v) : rx_CI L t 142 [.ref 1, .int a0, .int a1, .int a2] hi hl v RI := by
  have h0 : ((0 : Int32)).toInt = 0 := rfl
  have h1 : ((1 : Int32)).toInt = 1 := rfl
  have h2 : ((2 : Int32)).toInt = 2 := rfl
  refine w142_hang ⟨fun g => c_retI (kr _ (cf_hga2 ?_)), fun g => ⟨fun g2 => ?_, fun g2 => c_retI (kr _ (cf_hga2 ?_))⟩⟩
  · rw [cf_lt] at g; omega
  · rw [cf_lt] at g
    rw [cf_le'] at g2
    have q1 : 0 ≤ a1.toInt ∧ a1.toInt ≤ 2 := by omega
    refine c143 (fun q2 => ⟨fun _ => c_retI (kr _ (cf_hga11 q1 q2)), fun q => absurd rfl q⟩) (fun j ej hj => ⟨fun q => absurd q (by decide), fun _ => ?_⟩)
    have q2 : 0 ≤ a0.toInt ∧ a0.toInt < 10 := by rw [ej, nI_toInt (by omega)]; omega
    refine ⟨fun g3 => ⟨fun g4 => ?_, fun g4 => ⟨fun g5 => c_retI (kr _ (cf_hga10 q1 q2 ?_)), fun g5 => ⟨fun g6 => ?_, fun g6 => c_retI (kr _ (cf_hga10 q1 q2 ?_))⟩⟩⟩, fun g3 => ⟨fun g4 => ?_, fun g4 => ⟨fun g5 => c_retI (kr _ (cf_hga10 q1 q2 ?_)), fun g5 => ⟨fun g6 => ?_, fun g6 => c_retI (kr _ (cf_hga10 q1 q2 ?_))⟩⟩⟩⟩
    all_goals rw [cf_eqI] at g3 g4
    · omega
    · rw [cf_lt] at g5; omega
    · rw [cf_lt] at g5
      rw [cf_lt, e1, nI_toInt (by omega)] at g6
      exact c144 ej hj (c_retI (kg (cf_hgan q1 q2 (by omega)) j ej hj))
    · rw [cf_lt, e1, nI_toInt (by omega)] at g6; omega
    · exact c144 ej hj (c_retI (kg (cf_hgan q1 q2 (by omega)) j ej hj))
    · rw [cf_lt] at g5; omega
    · rw [cf_lt] at g5
      rw [cf_lt, e2, nI_toInt (by omega)] at g6
      exact c144 ej hj (c_retI (kg (cf_hgan q1 q2 (by omega)) j ej hj))
    · rw [cf_lt, e2, nI_toInt (by omega)] at g6; omega
  · rw [cf_le'] at g2; omega
theorem cf_cn0 {n : Nat} {x : Int32} : 0 < cf_cn n x ↔ (0 ≤ x.toInt ∧ x.toInt < n) := by
  unfold cf_cn
  by_cases q : 0 ≤ x.toInt ∧ x.toInt < n
  · rw [if_pos q]; exact ⟨fun _ => q, fun _ => by omega⟩
  · rw [if_neg q]; exact ⟨fun z => by omega, fun z => absurd z q⟩
theorem c238 {S : cf_S} (V : cf_V S) (M : cf_M S hi) {a0 a1 a2 : Int32} (kr : ∀ z, cf_hga (S 0 2) (S 0 3) a0 a1 a2 = some z → RI z hi hl v)
    (kg : cf_hga (S 0 2) (S 0 3) a0 a1 a2 = none → ∀ j, a0 = nI j → j < 10 → RI (hi 110 j) (rx_u (rx_u hi 110 j a1) 111 j a2) hl v) : rx_CI L t 238 [.ref 90, .int a0, .int a1, .int a2] hi hl v RI := by
  have hn := V.2.2.1
  have hm := V.2.2.2.1
  have e2 := M.2.2.1
  have h0 : ((0 : Int32)).toInt = 0 := rfl
  have h1 : ((1 : Int32)).toInt = 1 := rfl
  have h2 : ((2 : Int32)).toInt = 2 := rfl
  have h9 : ((9 : Int32)).toInt = 9 := rfl
  refine w238_hang_r ⟨fun g => c_retI (kr _ (cf_hga2 ?_)), fun g => ⟨fun g2 => ?_, fun g2 => c_retI (kr _ (cf_hga2 ?_))⟩⟩
  · rw [cf_lt] at g; omega
  · rw [cf_lt] at g
    rw [cf_le'] at g2
    have q1 : 0 ≤ a1.toInt ∧ a1.toInt ≤ 2 := by omega
    refine ⟨fun g3 => c_retI (kr _ (cf_hga11 q1 ?_)), fun g3 => ⟨fun g4 => ?_, fun g4 => c_retI (kr _ (cf_hga11 q1 ?_))⟩⟩
    · rw [cf_lt] at g3; omega
    · rw [cf_lt] at g3
      rw [cf_le'] at g4
      have q2 : 0 ≤ a0.toInt ∧ a0.toInt < 10 := by omega
      obtain ⟨ej, _⟩ := cf_x q2.1
      have hj : a0.toInt.toNat < 10 := by omega
      generalize a0.toInt.toNat = j at *
      refine ⟨fun g5 => c161 V M ⟨fun g6 => c_retI (kr _ (cf_hga10 q1 q2 ?_)), fun g6 => ⟨fun g7 => ?_, fun g7 => ⟨j, ej, hj, j, ej, hj, j, ej, hj, c_retI (kg (cf_hgan q1 q2 ?_) j ej hj)⟩⟩⟩, fun g5 => ⟨fun g6 => ⟨fun g7 => c_retI (kr _ (cf_hga10 q1 q2 ?_)), fun g7 => ⟨fun g8 => ⟨j, ej, hj, j, ej, hj, j, ej, hj, c_retI (kg (cf_hgan q1 q2 ?_) j ej hj)⟩, fun g8 => c_retI (kr _ (cf_hga10 q1 q2 ?_))⟩⟩, fun g6 => ⟨j, ej, hj, j, ej, hj, j, ej, hj, c_retI (kg (cf_hgan q1 q2 ?_) j ej hj)⟩⟩⟩
      · have z := of_decide_eq_false (cf_B_eq g6)
        rw [cf_cn0] at z; rw [cf_eqI] at g5; omega
      · rw [cf_eqI] at g5 g7; omega
      · have z := of_decide_eq_true (cf_B_ne g6)
        rw [cf_cn0] at z; rw [cf_eqI] at g5; omega
      · rw [cf_eqI] at g6; rw [cf_lt] at g7; omega
      · rw [cf_eqI] at g6; rw [cf_lt] at g7; rw [cf_lt, e2, nI_toInt (by omega)] at g8; omega
      · rw [cf_eqI] at g6; rw [cf_lt, e2, nI_toInt (by omega)] at g8; omega
      · rw [cf_eqI] at g5 g6; omega
    · rw [cf_le'] at g4; omega
  · rw [cf_le'] at g2; omega
end RXE
theorem cf_pr_hang {L : Nat} {t : List (Nat × Nat)} (a0 a1 a2 : Int32) : cf_pr L t 142 238 [.int a0, .int a1, .int a2] := by
  intro S ls hi hl v R
  obtain ⟨I, A, Z, E⟩ := id R
  have V := I.1
  have C := A.1.1.2.2.2.2.1
  obtain ⟨E1, E2, E3, E4, E5, E6⟩ := E
  refine c142 V.2.2.1 V.2.2.2.1 C.1 C.2.1 (fun z q => c238 V Z.1.2.2.1 (fun z2 q2 => ⟨?_, S, ls, R⟩) (fun q2 => ?_)) (fun q j ej hj => c238 V ?_ (fun z2 q2 => ?_) (fun _ j' ej' hj' => ?_))
  · rw [q] at q2; cases q2; rfl
  · rw [q] at q2; cases q2
  · exact cf_M_ext Z.1.2.2.1 (fun a b q1 q2 q3 => by rw [cf_ru_ne (by omega), cf_ru_ne (by omega)])
  · rw [q] at q2; cases q2
  · rw [ej, nI_eq (by omega) (by omega)] at ej'
    subst ej'
    refine ⟨?_, cf_rel_E R (fun a b w => ?_) ⟨?_, ?_, fun i hi0 => ?_, ?_, ?_, E6⟩⟩
    · rw [cf_ru_ne (by omega), cf_ru_ne (by omega)]; exact (E3 j hj).1
    · unfold cf_er at w
      rw [cf_ru_ne (by omega), cf_ru_ne (by omega), cf_ru_ne (by omega), cf_ru_ne (by omega)]
    · rw [cf_ru_ne (by omega), cf_ru_ne (by omega), cf_ru_ne (by omega), cf_ru_ne (by omega), cf_ru_ne (by omega), cf_ru_ne (by omega), cf_ru_ne (by omega), cf_ru_ne (by omega)]; exact E1
    · refine cf_Et_ext E2 ?_ ?_ ?_ ?_ <;> (try intro b) <;> rw [cf_ru_ne (by omega), cf_ru_ne (by omega), cf_ru_ne (by omega), cf_ru_ne (by omega)]
    · by_cases e : i = j
      · subst e
        have f1 : rx_u (rx_u (rx_u (rx_u hi 3 i a1) 4 i a2) 110 i a1) 111 i a2 110 i = a1 := by rw [cf_ru_ne (by omega), cf_ru_eq]
        have f2 : rx_u (rx_u (rx_u (rx_u hi 3 i a1) 4 i a2) 110 i a1) 111 i a2 111 i = a2 := cf_ru_eq
        have f3 : rx_u (rx_u (rx_u (rx_u hi 3 i a1) 4 i a2) 110 i a1) 111 i a2 3 i = a1 := by rw [cf_ru_ne (by omega), cf_ru_ne (by omega), cf_ru_ne (by omega), cf_ru_eq]
        have f4 : rx_u (rx_u (rx_u (rx_u hi 3 i a1) 4 i a2) 110 i a1) 111 i a2 4 i = a2 := by rw [cf_ru_ne (by omega), cf_ru_ne (by omega), cf_ru_eq]
        rw [f1, f2, f3, f4]
        obtain ⟨g1, g2, g3⟩ := cf_hga_n q
        have h0 : ((0 : Int32)).toInt = 0 := rfl
        have h1 : ((1 : Int32)).toInt = 1 := rfl
        have h2 : ((2 : Int32)).toInt = 2 := rfl
        refine ⟨rfl, rfl, ?_⟩
        rw [cf_eqI, cf_eqI, cf_eqI, h0, h1, h2]
        have : a1.toInt = 0 ∨ a1.toInt = 1 ∨ a1.toInt = 2 := by omega
        rcases this with w | w | w
        · exact Or.inl w
        · exact Or.inr (Or.inl ⟨w, a2.toInt.toNat, by omega, (cf_x (x := a2) (by omega)).1⟩)
        · exact Or.inr (Or.inr ⟨w, a2.toInt.toNat, by omega, (cf_x (x := a2) (by omega)).1⟩)
      · have fr : ∀ a, rx_u (rx_u (rx_u (rx_u hi 3 j a1) 4 j a2) 110 j a1) 111 j a2 a i = hi a i := fun a => by rw [cf_ru_ne (by omega), cf_ru_ne (by omega), cf_ru_ne (by omega), cf_ru_ne (by omega)]
        rw [fr, fr, fr, fr]; exact E3 i hi0
    · refine cf_Em_ext E4 ?_ ?_ <;> (try intro b) <;> rw [cf_ru_ne (by omega), cf_ru_ne (by omega), cf_ru_ne (by omega), cf_ru_ne (by omega)]
    · refine cf_El_ext E5 ?_ ?_ ?_ ?_ ?_ (fun _ => rfl) <;> (try intro b) <;> rw [cf_ru_ne (by omega), cf_ru_ne (by omega), cf_ru_ne (by omega), cf_ru_ne (by omega)]
