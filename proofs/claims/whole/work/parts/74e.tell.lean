/-! tell, hang of both. -/
section RXE
variable {L : Nat} {t : List (Nat × Nat)} {hl : Nat → Nat → Int64} {v : Nat → Nat → Option Nat}
variable {RI : Int32 → (Nat → Nat → Int32) → (Nat → Nat → Int64) → (Nat → Nat → Option Nat) → Prop}
def cf_tg (T : Nat) (a0 a1 : Int32) : Prop := 0 ≤ a0.toInt ∧ a0.toInt ≤ 6 ∧ 1 ≤ a1.toInt ∧ a1.toInt + T ≤ 400
theorem cf_tg_n {T : Nat} {a0 a1 : Int32} (h : cf_tg T a0 a1) : ∃ m n, a0 = nI m ∧ a1 = nI n ∧ m < 7 ∧ 1 ≤ n ∧ T + n ≤ 400 := by
  obtain ⟨h1, h2, h3, h4⟩ := h
  exact ⟨_, _, (cf_x h1).1, (cf_x (x := a1) (by omega)).1, by omega, by omega, by omega⟩
theorem c97 {hi : Nat → Nat → Int32} {T : Nat} (hT : T ≤ 400) (e5 : hi 84 5 = nI T) {a0 a1 : Int32} (kr : ¬ cf_tg T a0 a1 → RI (-2) hi hl v)
    (kg : ∀ m n, a0 = nI m → a1 = nI n → m < 7 → 1 ≤ n → T + n ≤ 400 → ∀ hi2, (∀ a b, ¬ (a = 85 ∧ T ≤ b ∧ b < T + n) → ¬ (a = 84 ∧ b = 5) → hi2 a b = hi a b) → (∀ j, T ≤ j → j < T + n → hi2 85 j = nI m) → hi2 84 5 = nI (T + n) → RI (nI (T + n)) hi2 hl v) :
    rx_CI L t 97 [.ref 1, .int a0, .int a1] hi hl v RI := by
  have h0 : ((0 : Int32)).toInt = 0 := rfl
  have h1 : ((1 : Int32)).toInt = 1 := rfl
  have h6 : ((6 : Int32)).toInt = 6 := rfl
  have hs : ((400 : Int32) - hi 84 5).toInt = 400 - T := by
    rw [e5, show (400 : Int32) = nI 400 from rfl, cf_nsub (by omega), nI_toInt (by omega)]; omega
  refine w97_tell ⟨fun g => c_retI (kr ?_), fun g => ⟨fun g2 => c_retI (kr ?_), fun g2 => ⟨fun g3 => c_retI (kr ?_), fun g3 => ⟨fun g4 => ?_, fun g4 => c_retI (kr ?_)⟩⟩⟩⟩
  · rw [cf_lt] at g; unfold cf_tg; omega
  · rw [cf_lt] at g2; unfold cf_tg; omega
  · rw [cf_lt] at g3; unfold cf_tg; omega
  · rw [cf_lt] at g g2 g3
    rw [cf_le', hs] at g4
    obtain ⟨m, n, rfl, rfl, hm, hn, hTn⟩ := cf_tg_n (T := T) (a0 := a0) (a1 := a1) ⟨by omega, by omega, by omega, by omega⟩
    have hb : (Int32.toInt8 (nI m)).toInt32 = nI m := by
      have : ∀ i : Fin 7, (Int32.toInt8 (nI i.val)).toInt32 = nI i.val := by decide +kernel
      exact this ⟨m, hm⟩
    refine w98_add ?_
    rw [hb, e5, nI_add]
    refine c32t (by omega) hTn hm (fun hi2 F W => c_retI (c_retI ?_))
    rw [cf_ru_eq, F 84 5 (by omega), e5, nI_add]
    refine kg m n rfl rfl hm hn hTn _ (fun a b q1 q2 => ?_) (fun j q1 q2 => ?_) ?_
    · rw [cf_ru_ne q2]; exact F a b (by omega)
    · rw [cf_ru_ne (by omega)]; exact W j q1 q2
    · exact cf_ru_eq
  · rw [cf_le', hs] at g4; unfold cf_tg; omega
theorem c212 {hi0 : Nat → Nat → Int32} {T : Nat} (hT : T ≤ 400) (e5 : hi0 90 25 = nI T) {a0 a1 : Int32} (kr : ¬ cf_tg T a0 a1 → RI (-2) hi0 hl v)
    (kg : ∀ m n, a0 = nI m → a1 = nI n → m < 7 → 1 ≤ n → T + n ≤ 400 → ∀ hi2, (∀ a b, ¬ (a = 109 ∧ T ≤ b ∧ b < T + n) → ¬ (a = 90 ∧ b = 25) → hi2 a b = hi0 a b) → (∀ j, T ≤ j → j < T + n → hi2 109 j = nI m) → hi2 90 25 = nI (T + n) → RI (nI (T + n)) hi2 hl v) :
    rx_CI L t 212 [.ref 90, .int a0, .int a1] hi0 hl v RI := by
  have h0 : ((0 : Int32)).toInt = 0 := rfl
  have h1 : ((1 : Int32)).toInt = 1 := rfl
  have h6 : ((6 : Int32)).toInt = 6 := rfl
  have h4 : ((400 : Int32)).toInt = 400 := rfl
  refine w212_tell_r ⟨fun g => c_retI (kr ?_), fun g => ⟨fun g2 => c_retI (kr ?_), fun g2 => ⟨fun g3 => c_retI (kr ?_), fun g3 => ⟨fun g4 => c_retI (kr ?_), fun g4 => ?_⟩⟩⟩⟩
  · rw [cf_lt] at g; unfold cf_tg; omega
  · rw [cf_lt] at g2; unfold cf_tg; omega
  · rw [cf_lt] at g3; unfold cf_tg; omega
  · rw [cf_lt] at g4; unfold cf_tg; omega
  · rw [cf_lt] at g g2 g3 g4
    obtain ⟨ea, _⟩ := cf_x (x := a1) (by omega)
    generalize hn : a1.toInt.toNat = n at *
    have hsum : (hi0 90 25 + a1).toInt = T + n := by rw [e5, ea, nI_add, nI_toInt (by omega)]; omega
    refine ⟨fun g5 => ?_, fun g5 => c_retI (kr ?_)⟩
    · rw [cf_le', hsum] at g5
      obtain ⟨em, _⟩ := cf_x (x := a0) (by omega)
      generalize hm : a0.toInt.toNat = m at *
      have hm7 : m < 7 := by omega
      subst em ea
      have lp : ∀ d i, i + d = n → ∀ hi : Nat → Nat → Int32, (∀ a b, ¬ (a = 109 ∧ T ≤ b ∧ b < T + n) → ¬ (a = 90 ∧ b = 25) → hi a b = hi0 a b) → (∀ j, T ≤ j → j < T + i → hi 109 j = nI m) → hi 90 25 = nI (T + i) → rx_aw 212 39 [.ref 90, .int (nI m), .int (nI n), .int (nI i)] [] (rx_hp L t hi hl v) (fun r h2 => ∃ z : Int32, r = some (.int z) ∧ rx_ok2 L t h2 (RI z)) := by
        intro d
        induction d with
        | zero =>
          intro i hid hi F W e
          have : i = n := by omega
          subst this
          refine w212_tell_r_39 ⟨fun _ => c_retI ?_, fun g => absurd ?_ g⟩
          · rw [e]; exact kg m i rfl rfl hm7 (by omega) (by omega) hi F W e
          · rw [nI_leI (by omega) (by omega)]; omega
        | succ d ih =>
          intro i hid hi F W e
          refine w212_tell_r_39 ⟨fun g => ?_, fun g => ⟨T + i, e, by omega, ?_⟩⟩
          · rw [nI_leI (by omega) (by omega)] at g; omega
          · rw [show nI i + 1 = nI (i + 1) from nI_add i 1]
            refine ih (i + 1) (by omega) _ (fun a b q1 q2 => ?_) (fun j q1 q2 => ?_) ?_
            · rw [cf_ru_ne q2, cf_ru_ne (by omega)]; exact F a b q1 q2
            · rw [cf_ru_ne (by omega)]
              by_cases ej : j = T + i
              · rw [ej]; exact cf_ru_eq
              · rw [cf_ru_ne (by omega)]; exact W j q1 (by omega)
            · rw [cf_ru_eq, cf_ru_ne (by omega), e]; exact nI_add (T + i) 1
      exact lp n 0 (by omega) hi0 (fun _ _ _ _ => rfl) (fun j q1 q2 => by omega) e5
    · rw [cf_le', hsum] at g5; unfold cf_tg; omega
end RXE
theorem cf_pr_tell {L : Nat} {t : List (Nat × Nat)} (a0 a1 : Int32) : cf_pr L t 97 212 [.int a0, .int a1] := by
  intro S ls hi hl v R
  obtain ⟨E1, ⟨⟨T, t1, t2, t3, t4⟩, t5⟩, E3, E4, E5, E6⟩ := R.2.2.2
  refine c97 t1 t2 (fun q => c212 t1 t3 (fun _ => ⟨rfl, S, ls, R⟩) (fun m n e1 e2 h1 h2 h3 => absurd ?_ q)) (fun m n e1 e2 h1 h2 h3 hi2 F W e5 => c212 t1 ((F 90 25 (by omega) (by omega)).trans t3) (fun q => absurd ?_ q) (fun m' n' e1' e2' h1' h2' h3' hi3 F3 W3 e25 => ?_))
  · rw [e1, e2]; unfold cf_tg; rw [nI_toInt (by omega), nI_toInt (by omega)]; omega
  · rw [e1, e2]; unfold cf_tg; rw [nI_toInt (by omega), nI_toInt (by omega)]; omega
  · rw [e1, nI_eq (by omega) (by omega)] at e1'
    rw [e2, nI_eq (by omega) (by omega)] at e2'
    subst e1' e2'
    have G : ∀ a b, ¬ a = 85 → ¬ a = 109 → ¬ (a = 84 ∧ b = 5) → ¬ (a = 90 ∧ b = 25) → hi3 a b = hi a b := fun a b q1 q2 q3 q4 => (F3 a b (by omega) q4).trans (F a b (by omega) q3)
    refine ⟨rfl, cf_rel_E R (fun a b q => ?_) ⟨?_, ⟨⟨T + n, by omega, ?_, e25, fun j hj => ?_⟩, fun j hj => ?_⟩, ?_, ?_, ?_, E6⟩⟩
    · unfold cf_er at q; exact G a b (by omega) (by omega) (by omega) (by omega)
    · rw [G _ _ (by omega) (by omega) (by omega) (by omega), G _ _ (by omega) (by omega) (by omega) (by omega)]; exact E1
    · rw [F3 _ _ (by omega) (by omega)]; exact e5
    · rcases Nat.lt_or_ge j T with q | q
      · obtain ⟨x, x1, x2, x3⟩ := t4 j q
        exact ⟨x, x1, by rw [F3 _ _ (by omega) (by omega), F _ _ (by omega) (by omega)]; exact x2, by rw [F3 _ _ (by omega) (by omega), F _ _ (by omega) (by omega)]; exact x3⟩
      · exact ⟨m, h1, by rw [F3 _ _ (by omega) (by omega)]; exact W j q hj, W3 j q hj⟩
    · rw [F3 _ _ (by omega) (by omega)]
      by_cases q : T ≤ j ∧ j < T + n
      · rw [W j q.1 q.2]; exact cf_bt7 h1
      · rw [F _ _ (by omega) (by omega)]; exact t5 j hj
    · refine cf_Eh_ext E3 ?_ ?_ ?_ ?_ <;> intro b <;> exact G _ _ (by omega) (by omega) (by omega) (by omega)
    · refine cf_Em_ext E4 ?_ ?_ <;> intro b <;> exact G _ _ (by omega) (by omega) (by omega) (by omega)
    · refine cf_El_ext E5 ?_ ?_ ?_ ?_ ?_ (fun _ => rfl) <;> (try intro b) <;> exact G _ _ (by omega) (by omega) (by omega) (by omega)
