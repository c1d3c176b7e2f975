/-! Traffic.replay: all STANCES, stands, HOLDS and squares, tick by tick. -/
/-- what is known at tick j, the carts below i having gone on -/
def cf_I (S : cf_S) (T j i : Nat) (hi : Nat → Nat → Int32) (hl : Nat → Nat → Int64) : Prop := hi 13 5 = nI T
  ∧ (∀ c, c < S 0 2 → (∀ u, (u ≤ j ∨ (c < i ∧ u = j + 1)) → hi (rx_ct c + 3) u = nI (cf_st S u c) ∧ hl (rx_ct c + 4) u = cf_sd S u c) ∧ hi (rx_ct c) 12 = cf_B (cf_any (fun u => !cf_made S u c) (if c < i then j + 1 else j)))
  ∧ (∀ s, s < S 0 3 → ∀ u, u ≤ j → hi (rx_sf s + 1) u = nI (cf_sp S u s))
def cf_R (S : cf_S) (hi : Nat → Nat → Int32) (hl : Nat → Nat → Int64) : Prop := (hi 13 5 = nI (cf_set S) ∨ (S 0 2 = 0 ∧ S 0 3 = 0 ∧ hi 13 5 = 0))
  ∧ (∀ c, c < S 0 2 → (∀ u, u ≤ cf_set S → hi (rx_ct c + 3) u = nI (cf_st S u c) ∧ hl (rx_ct c + 4) u = cf_sd S u c ∧ hl (rx_ct c + 5) u = cf_hd S u c) ∧ hi (rx_ct c) 12 = cf_B (cf_any (fun u => !cf_made S u c) (cf_set S)))
  ∧ (∀ s, s < S 0 3 → ∀ u, u ≤ cf_set S → hi (rx_sf s + 1) u = nI (cf_sp S u s))
theorem cf_mx_le {f : Nat → Nat} {b : Nat} : ∀ {n : Nat}, (∀ i, i < n → f i ≤ b) → cf_mx f n ≤ b
  | 0, _ => Nat.zero_le _
  | n + 1, h => by
    have := cf_mx_le (n := n) (fun i hi => h i (by omega))
    have := h n (by omega)
    rw [cf_mx]; omega
theorem cf_le_mx {f : Nat → Nat} : ∀ {n i : Nat}, i < n → f i ≤ cf_mx f n
  | 0, i, h => by omega
  | n + 1, i, h => by
    rw [cf_mx]
    by_cases e : i = n
    · subst e; omega
    · have := cf_le_mx (f := f) (n := n) (i := i) (by omega); omega
theorem cf_set_lt {S : cf_S} (V : cf_V S) : cf_set S < 402 := by
  unfold cf_set
  have : cf_mx (S 4) (S 0 2) ≤ 400 := cf_mx_le (fun i hi => (V.2.2.2.2.2.2.1 i hi).2.2.2.1)
  omega
section RXE
variable {L : Nat} {t : List (Nat × Nat)} {v : Nat → Nat → Option Nat}
variable {RV : (Nat → Nat → Int32) → (Nat → Nat → Int64) → (Nat → Nat → Option Nat) → Prop}
theorem c41 {S : cf_S} {hi : Nat → Nat → Int32} {hl : Nat → Nat → Int64} (X : cf_X S hi hl) (k : ∀ hi2 hl2, cf_fr hi hi2 hl hl2 → cf_R S hi2 hl2 → RV hi2 hl2 v) : rx_CV L t 41 [.ref 13] hi hl v RV := by
  have V := X.1
  have h6 := V.2.2.1
  have h12 := V.2.2.2.1
  have hT := cf_set_lt V
  generalize hTT : cf_set S = T at *
  -- the last loop: HOLDS
  have loopE : ∀ d i, i + d = S 0 2 → ∀ (hi2 : Nat → Nat → Int32) (hl2 : Nat → Nat → Int64), cf_fr hi hi2 hl hl2 → cf_I S T T 0 hi2 hl2 → (∀ c, c < i → ∀ u, u ≤ T → hl2 (rx_ct c + 5) u = cf_hd S u c) →
      rx_aw 41 158 [.ref 13, .int (nI i), rx_no] [] (rx_hp L t hi2 hl2 v) (fun r h2 => r = none ∧ rx_ok2 L t h2 RV) := by
    intro d
    induction d with
    | zero =>
      intro i hi0 hi2 hl2 F I H
      have : i = S 0 2 := by omega
      subst this
      have X2 := cf_X_fr X F
      refine w41_replay_158 ⟨fun _ => c_retV (k hi2 hl2 F ?_), fun g => absurd ?_ g⟩
      · unfold cf_R
        rw [hTT]
        refine ⟨Or.inl I.1, fun c hc => ⟨fun u hu => ⟨((I.2.1 c hc).1 u (Or.inl hu)).1, ((I.2.1 c hc).1 u (Or.inl hu)).2, H c hc u hu⟩, ?_⟩, I.2.2⟩
        have := (I.2.1 c hc).2
        rwa [if_neg (by omega)] at this
      · rw [X2.2.2.2.2.1.1]; exact nI_le (Nat.le_refl _) (by omega)
    | succ d ih =>
      intro i hi0 hi2 hl2 F I H
      have X2 := cf_X_fr X F
      have hE : S 4 i + 1 ≤ T := by
        rw [← hTT]; unfold cf_set
        have := cf_le_mx (f := S 4) (n := S 0 2) (i := i) (by omega)
        omega
      refine w41_replay_158 ⟨fun g => ?_, fun _ => ⟨i, rfl, by omega, c52 X2 (by omega) I.1 hT hE (fun u hu => ((I.2.1 i (by omega)).1 u (Or.inl hu)).1) (fun u hu => ((I.2.1 i (by omega)).1 u (Or.inl hu)).2) ?_⟩⟩
      · rw [X2.2.2.2.2.1.1] at g; exact absurd g (nI_ge (by omega) (by omega))
      · intro hl3 f3 g3
        rw [nI_1]
        refine ih (i + 1) (by omega) hi2 hl3 (cf_fr_trans F ⟨fun _ _ _ => rfl, fun a b hab => f3 a b ?_⟩) ?_ ?_
        · intro e; subst e; exact hab (by simp only [cf_rwl, rx_ct]; omega)
        · refine ⟨I.1, fun c hc => ⟨fun u hu => ⟨((I.2.1 c hc).1 u hu).1, ?_⟩, (I.2.1 c hc).2⟩, I.2.2⟩
          rw [f3 _ _ (by simp only [rx_ct]; omega)]
          exact ((I.2.1 c hc).1 u hu).2
        · intro c hc u hu
          by_cases e : c = i
          · subst e; exact g3 u hu
          · rw [f3 _ _ (by simp only [rx_ct]; omega)]
            exact H c (by omega) u hu
  -- the ticks
  have loopD : ∀ d j, j + d = T → ∀ (hi2 : Nat → Nat → Int32) (hl2 : Nat → Nat → Int64), cf_fr hi hi2 hl hl2 → cf_I S T j 0 hi2 hl2 →
      rx_aw 41 108 [.ref 13, .int (nI j), rx_no] [] (rx_hp L t hi2 hl2 v) (fun r h2 => r = none ∧ rx_ok2 L t h2 RV) := by
    intro d
    induction d with
    | zero =>
      intro j hj hi2 hl2 F I
      have : j = T := by omega
      subst this
      refine w41_replay_108 ⟨fun _ => loopE (S 0 2) 0 (by omega) hi2 hl2 F I (fun c hc => by omega), fun g => absurd ?_ g⟩
      rw [I.1]; exact nI_le (Nat.le_refl _) (by omega)
    | succ d ih =>
      intro j hj hi2 hl2 F I
      refine w41_replay_108 ⟨fun g => ?_, fun _ => ?_⟩
      · rw [I.1] at g; exact absurd g (nI_ge (by omega) (by omega))
      have inner : ∀ e i, i + e = S 0 2 → ∀ (hi2 : Nat → Nat → Int32) (hl2 : Nat → Nat → Int64), cf_fr hi hi2 hl hl2 → cf_I S T j i hi2 hl2 →
          rx_aw 41 118 [.ref 13, .int (nI j), .int (nI i)] [] (rx_hp L t hi2 hl2 v) (fun r h2 => r = none ∧ rx_ok2 L t h2 RV) := by
        intro e
        induction e with
        | zero =>
          intro i hi0 hi2 hl2 F I
          have : i = S 0 2 := by omega
          subst this
          have X2 := cf_X_fr X F
          refine w41_replay_118 ⟨fun _ => ?_, fun g => absurd ?_ g⟩
          · rw [nI_1]
            refine c51 V X2.2.2.2.2.1 (by omega) (fun c hc => ((I.2.1 c hc).1 (j + 1) (Or.inr ⟨hc, rfl⟩)).1) (fun s hs => I.2.2 s hs j (Nat.le_refl _)) ?_
            intro hi3 f3 g3
            refine ih (j + 1) (by omega) hi3 hl2 (cf_fr_trans F ⟨fun a b hab => f3 a b (fun q => hab ?_), fun _ _ _ => rfl⟩) ?_
            · simp only [cf_rw]; omega
            · refine ⟨(f3 13 5 (by omega)).trans I.1, fun c hc => ⟨fun u hu => ?_, ?_⟩, fun s hs u hu => ?_⟩
              · rw [f3 _ _ (by simp only [rx_ct]; omega)]
                exact (I.2.1 c hc).1 u (by omega)
              · rw [f3 _ _ (by simp only [rx_ct]; omega), (I.2.1 c hc).2, if_pos hc, if_neg (by omega)]
              · by_cases hu2 : u = j + 1
                · subst hu2; exact g3 s hs
                · rw [f3 _ _ (by omega)]
                  exact I.2.2 s hs u (by omega)
          · rw [X2.2.2.2.2.1.1]; exact nI_le (Nat.le_refl _) (by omega)
        | succ e ih2 =>
          intro i hi0 hi2 hl2 F I
          have X2 := cf_X_fr X F
          have A : cf_at (S 0 2) (S 0 3) j (cf_st S j) (cf_sp S j) hi2 := by
            refine ⟨fun c hc => ⟨((I.2.1 c hc).1 j (by omega)).1, ?_⟩, fun s hs => ⟨I.2.2 s hs j (Nat.le_refl _), ?_⟩⟩
            · have := ((cf_wv V j).1 c hc).2
              omega
            · have := (cf_wv V j).2 s hs
              have := cf_V_wh V
              omega
          refine w41_replay_118 ⟨fun g => ?_, fun _ => ⟨i, rfl, by omega, c43 X2 (by omega) I.1 hT (by omega) A ?_⟩⟩
          · rw [X2.2.2.2.2.1.1] at g; exact absurd g (nI_ge (by omega) (by omega))
          · rw [nI_1]
            have fb : ∀ a b, ¬ (a = rx_ct i ∧ b = 12) → (bif cf_made S j i then hi2 else rx_u hi2 (rx_ct i) 12 1) a b = hi2 a b := by
              intro a b hab
              cases cf_made S j i with
              | true => rfl
              | false => exact cf_ru_ne hab
            have fb2 : (bif cf_made S j i then hi2 else rx_u hi2 (rx_ct i) 12 1) (rx_ct i) 12 = cf_B (cf_any (fun u => !cf_made S u i) (j + 1)) := by
              have := (I.2.1 i (by omega)).2
              rw [if_neg (by omega)] at this
              rw [cf_any]
              cases cf_made S j i with
              | true => rw [cond_true, this, Bool.not_true, Bool.or_false]
              | false => rw [cond_false, cf_ru_eq, Bool.not_false, Bool.or_true]; rfl
            refine ih2 (i + 1) (by omega) _ _ (cf_fr_trans F ⟨fun a b hab => ?_, fun a b hab => ?_⟩) ?_
            · rw [cf_ru_ne (fun q => hab (by rw [q.1, q.2]; unfold cf_rw rx_ct; omega)), fb _ _ (fun q => hab (by rw [q.1, q.2]; unfold cf_rw rx_ct; omega))]
            · exact cf_ru_ne (fun q => hab (by rw [q.1]; simp only [cf_rwl, rx_ct]; omega))
            · refine ⟨?_, fun c hc => ⟨fun u hu => ?_, ?_⟩, fun s hs u hu => ?_⟩
              · rw [cf_ru_ne (by simp only [rx_ct]; omega), fb _ _ (by simp only [rx_ct]; omega)]; exact I.1
              · by_cases hcu : c = i ∧ u = j + 1
                · rw [hcu.1, hcu.2, cf_ru_eq, cf_ru_eq]; exact ⟨rfl, rfl⟩
                · rw [cf_ru_ne (by simp only [rx_ct]; omega), cf_ru_ne (by simp only [rx_ct]; omega), fb _ _ (by simp only [rx_ct]; omega)]
                  exact (I.2.1 c hc).1 u (by omega)
              · rw [cf_ru_ne (by simp only [rx_ct]; omega)]
                by_cases hci : c = i
                · subst hci
                  rw [fb2, if_pos (by omega)]
                · rw [fb _ _ (by simp only [rx_ct]; omega), (I.2.1 c hc).2]
                  by_cases h : c < i
                  · rw [if_pos h, if_pos (by omega)]
                  · rw [if_neg h, if_neg (by omega)]
              · rw [cf_ru_ne (by simp only [rx_ct, rx_sf]; omega), fb _ _ (by simp only [rx_ct, rx_sf]; omega)]
                exact I.2.2 s hs u hu
      exact inner (S 0 2) 0 (by omega) hi2 hl2 F I
  -- the SHELVES at tick 0
  have loopB : ∀ d i, i + d = S 0 3 → ∀ (hi2 : Nat → Nat → Int32) (hl2 : Nat → Nat → Int64), cf_fr hi hi2 hl hl2 → hi2 13 5 = nI T → (∀ c, c < S 0 2 → hi2 (rx_ct c + 3) 0 = nI (S 9 c) ∧ hl2 (rx_ct c + 4) 0 = cf_sd S 0 c ∧ hi2 (rx_ct c) 12 = 0) → (∀ s, s < i → hi2 (rx_sf s + 1) 0 = nI (S 12 s)) →
      rx_aw 41 72 [.ref 13, .int (nI i), rx_no] [] (rx_hp L t hi2 hl2 v) (fun r h2 => r = none ∧ rx_ok2 L t h2 RV) := by
    intro d
    induction d with
    | zero =>
      intro i hi0 hi2 hl2 F e5 G H
      have : i = S 0 3 := by omega
      subst this
      have X2 := cf_X_fr X F
      refine w41_replay_72 ⟨fun _ => loopD T 0 (by omega) hi2 hl2 F ?_, fun g => absurd ?_ g⟩
      · refine ⟨e5, fun c hc => ⟨fun u hu => ?_, ?_⟩, fun s hs u hu => ?_⟩
        · have : u = 0 := by omega
          subst this
          exact ⟨(G c hc).1, (G c hc).2.1⟩
        · rw [if_neg (by omega)]; exact (G c hc).2.2
        · have : u = 0 := by omega
          subst this
          exact H s hs
      · rw [X2.2.2.2.2.1.2.1]; exact nI_le (Nat.le_refl _) (by omega)
    | succ d ih =>
      intro i hi0 hi2 hl2 F e5 G H
      have X2 := cf_X_fr X F
      refine w41_replay_72 ⟨fun g => ?_, fun _ => ⟨i, rfl, by omega, i, rfl, by omega, 0, rfl, by omega, ?_⟩⟩
      · rw [X2.2.2.2.2.1.2.1] at g; exact absurd g (nI_ge (by omega) (by omega))
      · rw [nI_1]
        refine ih (i + 1) (by omega) _ hl2 (cf_fr_trans F (cf_fr_i (by simp only [cf_rw, rx_sf]; omega))) ?_ (fun c hc => ?_) (fun s hs => ?_)
        · rw [cf_ru_ne (by simp only [rx_sf]; omega)]; exact e5
        · rw [cf_ru_ne (by simp only [rx_sf, rx_ct]; omega), cf_ru_ne (by simp only [rx_sf, rx_ct]; omega)]; exact G c hc
        · by_cases e : s = i
          · subst e; rw [cf_ru_eq]; exact X2.2.2.2.2.1.2.2.2 s (by omega)
          · rw [cf_ru_ne (by simp only [rx_sf]; omega)]; exact H s (by omega)
  -- the carts at tick 0
  have loopA : ∀ d i, i + d = S 0 2 → ∀ (hi2 : Nat → Nat → Int32) (hl2 : Nat → Nat → Int64), cf_fr hi hi2 hl hl2 → hi2 13 5 = nI T → (∀ c, c < i → hi2 (rx_ct c + 3) 0 = nI (S 9 c) ∧ hl2 (rx_ct c + 4) 0 = cf_sd S 0 c ∧ hi2 (rx_ct c) 12 = 0) →
      rx_aw 41 13 [.ref 13, .int (nI i), rx_no] [] (rx_hp L t hi2 hl2 v) (fun r h2 => r = none ∧ rx_ok2 L t h2 RV) := by
    intro d
    induction d with
    | zero =>
      intro i hi0 hi2 hl2 F e5 G
      have : i = S 0 2 := by omega
      subst this
      have X2 := cf_X_fr X F
      refine w41_replay_13 ⟨fun _ => loopB (S 0 3) 0 (by omega) hi2 hl2 F e5 G (fun s hs => by omega), fun g => absurd ?_ g⟩
      rw [X2.2.2.2.2.1.1]; exact nI_le (Nat.le_refl _) (by omega)
    | succ d ih =>
      intro i hi0 hi2 hl2 F e5 G
      have X2 := cf_X_fr X F
      refine w41_replay_13 ⟨fun g => ?_, fun _ => ⟨i, rfl, by omega, 0, rfl, by omega, ?_⟩⟩
      · rw [X2.2.2.2.2.1.1] at g; exact absurd g (nI_ge (by omega) (by omega))
      · have hC := X2.2.2.2.2.1.2.2.1 i (by omega)
        have hv := V.2.2.2.2.2.2.1 i (by omega)
        have F3 : cf_fr hi2 (rx_u (rx_u hi2 (rx_ct i) 12 0) (rx_ct i + 3) 0 (nI (S 9 i))) hl2 hl2 := cf_fr_trans (cf_fr_i (by unfold cf_rw rx_ct; omega)) (cf_fr_i (by unfold cf_rw rx_ct; omega))
        have X3 := cf_X_fr X2 F3
        have hC3 := X3.2.2.2.2.1.2.2.1 i (by omega)
        rw [cf_ru_ne (show ¬ (rx_ct i = rx_ct i ∧ 6 = 12) by omega), hC.2.1, hC3.1, hC3.2.1, nI_1]
        refine c42 X3.2.1 X3.2.2.1 hv.1 hv.2.1.1 ⟨0, rfl, by omega, ?_⟩
        refine ih (i + 1) (by omega) _ _ (cf_fr_trans F (cf_fr_trans F3 (cf_fr_l (by simp only [cf_rwl, rx_ct]; omega)))) ?_ (fun c hc => ?_)
        · rw [cf_ru_ne (by simp only [rx_ct]; omega), cf_ru_ne (by simp only [rx_ct]; omega)]; exact e5
        · by_cases e : c = i
          · subst e
            rw [cf_ru_eq, cf_ru_eq, cf_ru_ne (by omega), cf_ru_eq]
            exact ⟨rfl, rfl, rfl⟩
          · rw [cf_ru_ne (by simp only [rx_ct]; omega), cf_ru_ne (by simp only [rx_ct]; omega), cf_ru_ne (by simp only [rx_ct]; omega), cf_ru_ne (by simp only [rx_ct]; omega), cf_ru_ne (by simp only [rx_ct]; omega)]
            exact G c (by omega)
  refine w41_replay (c36n V X.2.2.2.2.1 ?_)
  rw [nI_1]
  have hTe : cf_mx (S 4) (S 0 2) + 1 = T := hTT
  rw [hTe]
  exact loopA (S 0 2) 0 (by omega) _ hl (cf_fr_i (by unfold cf_rw; omega)) cf_ru_eq (fun c hc => by omega)
end RXE
