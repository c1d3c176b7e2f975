section RXE
variable {L : Nat} {t : List (Nat × Nat)} {v : Nat → Nat → Option Nat}
variable {RV : (Nat → Nat → Int32) → (Nat → Nat → Int64) → (Nat → Nat → Option Nat) → Prop}
/-- what stands at tick j once the carts have gone and the SHELVES below i are carried over -/
theorem c51 {S : cf_S} {hi : Nat → Nat → Int32} {hl : Nat → Nat → Int64} (V : cf_V S) (C : cf_C S hi) {j : Nat} (hj : j + 1 < 402) (A1 : ∀ c, c < S 0 2 → hi (rx_ct c + 3) (j + 1) = nI (cf_st S (j + 1) c)) (A2 : ∀ s, s < S 0 3 → hi (rx_sf s + 1) j = nI (cf_sp S j s))
    (k : ∀ hi2, (∀ a b, ¬ (52 ≤ a ∧ a < 76 ∧ (a - 52) % 2 = 1 ∧ b = j + 1) → hi2 a b = hi a b) → (∀ s, s < S 0 3 → hi2 (rx_sf s + 1) (j + 1) = nI (cf_sp S (j + 1) s)) → RV hi2 hl v) : rx_CV L t 51 [.ref 13, .int (nI (j + 1))] hi hl v RV := by
  have h6 := V.2.2.1
  have h12 := V.2.2.2.1
  have hjm : (nI (j + 1) - 1 : Int32) = nI j := nI_pred j
  have hw := cf_wv V
  -- the second loop
  have loop2 : ∀ d i, i + d = S 0 2 → ∀ hi2 : Nat → Nat → Int32, (∀ a b, ¬ (52 ≤ a ∧ a < 76 ∧ (a - 52) % 2 = 1 ∧ b = j + 1) → hi2 a b = hi a b) → (∀ s, s < S 0 3 → hi2 (rx_sf s + 1) (j + 1) = nI (cf_car (cf_st S (j + 1)) s (cf_sp S j s) i)) →
      rx_aw 51 42 [.ref 13, .int (nI (j + 1)), .int (nI i), rx_no] [] (rx_hp L t hi2 hl v) (fun r h2 => r = none ∧ rx_ok2 L t h2 RV) := by
    intro d
    induction d with
    | zero =>
      intro i hi0 hi2 f q
      have : i = S 0 2 := by omega
      subst this
      have e3 : hi2 13 3 = nI (S 0 2) := (f 13 3 (by omega)).trans C.1
      refine w51_bringShelves_42 ⟨fun _ => c_retV (k hi2 f q), fun g => absurd ?_ g⟩
      rw [e3]; exact nI_le (Nat.le_refl _) (by omega)
    | succ d ih =>
      intro i hi0 hi2 f q
      have e3 : hi2 13 3 = nI (S 0 2) := (f 13 3 (by omega)).trans C.1
      have e4 : hi2 13 4 = nI (S 0 3) := (f 13 4 (by omega)).trans C.2.1
      have est : hi2 (rx_ct i + 3) (j + 1) = nI (cf_st S (j + 1) i) := (f _ _ (by simp only [rx_ct]; omega)).trans (A1 i (by omega))
      have hst := ((hw (j + 1)).1 i (by omega))
      have hmod : cf_st S (j + 1) i % 64 < 64 := by omega
      refine w51_bringShelves_42 ⟨fun g => ?_, fun _ => ⟨i, rfl, by omega, j + 1, rfl, by omega, ?_⟩⟩
      · rw [e3] at g; exact absurd g (nI_ge (by omega) (by omega))
      rw [est, nI_1]
      have skip : (∀ s, s < S 0 3 → ¬ cf_st S (j + 1) i / 256 = s + 1) → rx_aw 51 42 [.ref 13, .int (nI (j + 1)), .int (nI (i + 1)), rx_no] [] (rx_hp L t hi2 hl v) (fun r h2 => r = none ∧ rx_ok2 L t h2 RV) := by
        intro hne
        refine ih (i + 1) (by omega) hi2 f (fun s hs => ?_)
        rw [cf_car, if_neg (hne s hs)]; exact q s hs
      refine c48 (by omega) ⟨fun g => skip ?_, fun g => ⟨fun g2 => skip ?_, fun g2 => ?_⟩⟩
      · rw [cf_oneg (by omega)] at g; intro s hs; omega
      · rw [cf_oneg (by omega)] at g
        obtain ⟨p, hp⟩ : ∃ p, cf_st S (j + 1) i / 256 = p + 1 := ⟨cf_st S (j + 1) i / 256 - 1, by omega⟩
        rw [hp, cf_oS, e4, nI_leI (by omega) (by omega)] at g2
        intro s hs; omega
      · rw [cf_oneg (by omega)] at g
        obtain ⟨p, hp⟩ : ∃ p, cf_st S (j + 1) i / 256 = p + 1 := ⟨cf_st S (j + 1) i / 256 - 1, by omega⟩
        rw [hp, cf_oS, e4, nI_leI (by omega) (by omega)] at g2
        refine ⟨p, by rw [hp, cf_oS], by omega, i, rfl, by omega, j + 1, rfl, by omega, ?_⟩
        rw [est]
        refine c8 ⟨j + 1, rfl, by omega, ?_⟩
        refine ih (i + 1) (by omega) _ (fun a b hab => ?_) (fun s hs => ?_)
        · rw [cf_ru_ne (by simp only [rx_sf]; omega)]; exact f a b hab
        · rw [cf_car]
          by_cases hsp : s = p
          · subst hsp
            rw [cf_ru_eq, if_pos hp]
          · rw [cf_ru_ne (by simp only [rx_sf]; omega), if_neg (by omega)]
            exact q s hs
  refine w51_bringShelves ?_
  have loop1 : ∀ d i, i + d = S 0 3 → ∀ hi2 : Nat → Nat → Int32, (∀ a b, ¬ (52 ≤ a ∧ a < 76 ∧ (a - 52) % 2 = 1 ∧ b = j + 1) → hi2 a b = hi a b) → (∀ s, s < i → hi2 (rx_sf s + 1) (j + 1) = nI (cf_sp S j s)) →
      rx_aw 51 2 [.ref 13, .int (nI (j + 1)), .int (nI i), rx_no] [] (rx_hp L t hi2 hl v) (fun r h2 => r = none ∧ rx_ok2 L t h2 RV) := by
    intro d
    induction d with
    | zero =>
      intro i hi0 hi2 f q
      have : i = S 0 3 := by omega
      subst this
      have e4 : hi2 13 4 = nI (S 0 3) := (f 13 4 (by omega)).trans C.2.1
      refine w51_bringShelves_2 ⟨fun _ => loop2 (S 0 2) 0 (by omega) hi2 f q, fun g => absurd ?_ g⟩
      rw [e4]; exact nI_le (Nat.le_refl _) (by omega)
    | succ d ih =>
      intro i hi0 hi2 f q
      have e4 : hi2 13 4 = nI (S 0 3) := (f 13 4 (by omega)).trans C.2.1
      refine w51_bringShelves_2 ⟨fun g => ?_, fun _ => ⟨i, rfl, by omega, i, rfl, by omega, j, hjm, by omega, j + 1, rfl, by omega, ?_⟩⟩
      · rw [e4] at g; exact absurd g (nI_ge (by omega) (by omega))
      · rw [nI_1]
        refine ih (i + 1) (by omega) _ (fun a b hab => ?_) (fun s hs => ?_)
        · rw [cf_ru_ne (by simp only [rx_sf]; omega)]; exact f a b hab
        · by_cases hsi : s = i
          · subst hsi
            rw [cf_ru_eq, f _ _ (by simp only [rx_sf]; omega)]; exact A2 s (by omega)
          · rw [cf_ru_ne (by simp only [rx_sf]; omega)]; exact q s (by omega)
  exact loop1 (S 0 3) 0 (by omega) hi (fun _ _ _ => rfl) (fun s hs => by omega)
end RXE
section RXE
variable {L : Nat} {t : List (Nat × Nat)} {v : Nat → Nat → Option Nat}
variable {RV : (Nat → Nat → Int32) → (Nat → Nat → Int64) → (Nat → Nat → Option Nat) → Prop}
theorem cf_td_0 {S : cf_S} {j c : Nat} (h : S 4 c ≤ j) : cf_td S j c = 0 := by
  unfold cf_td cf_tq cf_mt
  rw [if_neg (by omega)]
  cases cf_two (S 3 c) <;> rfl
theorem cf_td_1 {S : cf_S} {j c : Nat} (h : cf_two (S 3 c) = false) : cf_td S j c = 0 := by
  unfold cf_td cf_tq; rw [h]; rfl
theorem cf_or0 (x : Int64) : x ||| 0 = x := by apply cf_ext; intro q _; rw [cf_hor, cf_h0, Bool.or_false]
theorem cf_orc (x y : Int64) : x ||| y = y ||| x := by apply cf_ext; intro q _; rw [cf_hor, cf_hor, Bool.or_comm]
theorem cf_ora (x y z : Int64) : x ||| y ||| z = x ||| (y ||| z) := by apply cf_ext; intro q _; simp only [cf_hor, Bool.or_assoc]
theorem c52 {S : cf_S} {hi : Nat → Nat → Int32} {hl : Nat → Nat → Int64} (X : cf_X S hi hl) {T c : Nat} (hc : c < S 0 2) (hT : hi 13 5 = nI T) (hb : T < 402) (hE : S 4 c + 1 ≤ T) (A1 : ∀ j, j ≤ T → hi (rx_ct c + 3) j = nI (cf_st S j c)) (A2 : ∀ j, j ≤ T → hl (rx_ct c + 4) j = cf_sd S j c)
    (k : ∀ hl2, (∀ a b, ¬ a = rx_ct c + 5 → hl2 a b = hl a b) → (∀ j, j ≤ T → hl2 (rx_ct c + 5) j = cf_hd S j c) → RV hi hl2 v) : rx_CV L t 52 [.ref 13, .ref (rx_ct c)] hi hl v RV := by
  obtain ⟨V, K1, K2, K3, C, G, M, B⟩ := X
  have h6 := V.2.2.1
  have hkd := (V.2.2.2.2.2.2.1 c hc).1
  have h4 := (V.2.2.2.2.2.2.1 c hc).2.2.2.1
  have hC := C.2.2.1 c hc
  have hwh := cf_V_wh V
  have k2 : ((2 : Int32) ≤ hi (rx_ct c) 5) ↔ cf_two (S 3 c) = true := by
    rw [hC.1, show (2 : Int32) = nI 2 from rfl, nI_leI (by decide) (by omega)]
    unfold cf_two; rw [decide_eq_true_iff]
  have hcp : ∀ a b, ¬ a = rx_ct c + 5 → (rx_row hl (rx_ct c + 5) (va_cpy (hl (rx_ct c + 4)) (hl (rx_ct c + 5)) 0 0 (T + 1))) a b = hl a b := by
    intro a b h
    unfold rx_row; rw [if_neg h]
  have hcq : ∀ j, j ≤ T → (rx_row hl (rx_ct c + 5) (va_cpy (hl (rx_ct c + 4)) (hl (rx_ct c + 5)) 0 0 (T + 1))) (rx_ct c + 5) j = cf_sd S j c := by
    intro j hj
    unfold rx_row va_cpy
    rw [if_pos rfl]
    show (if 0 ≤ j ∧ j < 0 + (T + 1) then hl (rx_ct c + 4) (0 + (j - 0)) else _) = _
    rw [if_pos (by omega), show 0 + (j - 0) = j by omega]
    exact A2 j hj
  refine w52_findHolds (by omega) ⟨0, 0, T + 1, rfl, rfl, by rw [hT, nI_1], by omega, by omega, fun q => ?_, fun q => ?_⟩
  · rw [k2] at q
    have loop : ∀ d i, i + d = S 4 c → ∀ hl2 : Nat → Nat → Int64, (∀ a b, ¬ a = rx_ct c + 5 → hl2 a b = hl a b) → (∀ j, j ≤ T → hl2 (rx_ct c + 5) j = cf_sd S j c ||| (if j < i then cf_td S j c else 0) ||| (if 0 < j ∧ j - 1 < i then cf_td S (j - 1) c else 0)) →
        rx_aw 52 30 [.ref 13, .ref (rx_ct c), .int (nI i), rx_no, rx_no] [] (rx_hp L t hi hl2 v) (fun r h2 => r = none ∧ rx_ok2 L t h2 RV) := by
      intro d
      induction d with
      | zero =>
        intro i hi0 hl2 f g
        have : i = S 4 c := by omega
        subst this
        refine w52_findHolds_30 (by omega) ⟨fun _ => c_retV (k hl2 f (fun j hj => ?_)), fun g => absurd ?_ g⟩
        · rw [g j hj]
          unfold cf_hd
          have e1 : (if j < S 4 c then cf_td S j c else 0) = cf_td S j c := by
            by_cases h : j < S 4 c
            · rw [if_pos h]
            · rw [if_neg h, cf_td_0 (by omega)]
          have e2 : (if 0 < j ∧ j - 1 < S 4 c then cf_td S (j - 1) c else 0) = (if j = 0 then 0 else cf_td S (j - 1) c) := by
            by_cases h : j = 0
            · rw [if_pos h, if_neg (by omega)]
            · rw [if_neg h]
              by_cases h' : j - 1 < S 4 c
              · rw [if_pos (by omega)]
              · rw [if_neg (by omega), cf_td_0 (by omega)]
          rw [e1, e2]
        · rw [hC.2.2.1]; exact nI_le (Nat.le_refl _) (by omega)
      | succ d ih =>
        intro i hi0 hl2 f g
        have hst := ((cf_wv V i).1 c hc)
        have hw := hC.2.2.2.2.2.2.2 i (by omega)
        have hmv := (V.2.2.2.2.2.2.1 c hc).2.2.2.2.2.2.2.2 i (by omega)
        refine w52_findHolds_30 (by omega) ⟨fun g => ?_, fun _ => ⟨i, rfl, by omega, i, rfl, by omega, ?_⟩⟩
        · rw [hC.2.2.1] at g; exact absurd g (nI_ge (by omega) (by omega))
        · rw [hC.1, A1 i (by omega), hw]
          have hK2' : cf_K2 (S 0 0) (S 0 1) hi hl2 := cf_K2_eq K2 (fun _ => rfl) (fun b => f 11 b (by simp only [rx_ct]; omega)) (fun b => f 12 b (by simp only [rx_ct]; omega))
          refine c53 hK2' hkd hst.1.1 (by omega) ⟨i, rfl, by omega, i, rfl, by omega, i + 1, nI_1 i, by omega, i + 1, nI_1 i, by omega, ?_⟩
          rw [nI_1]
          have etd : cf_tq (S 0 0) (S 0 1) (S 3 c) (cf_st S i c) (S (20 + c) i) = cf_td S i c := by
            unfold cf_td cf_mt; rw [if_pos (by omega)]
          rw [etd]
          refine ih (i + 1) (by omega) _ (fun a b hab => ?_) (fun j hj => ?_)
          · rw [cf_ru_ne (fun e => hab e.1), cf_ru_ne (fun e => hab e.1)]; exact f a b hab
          · by_cases h1 : j = i + 1
            · subst h1
              rw [cf_ru_eq, cf_ru_ne (by omega), g (i + 1) hj, if_neg (by omega), if_neg (by omega), if_neg (by omega), if_pos (by omega), show i + 1 - 1 = i by omega]
              simp only [cf_or0]
            · rw [cf_ru_ne (by omega)]
              by_cases h2 : j = i
              · subst h2
                have e1 : (if j < j then cf_td S j c else 0) = 0 := if_neg (by omega)
                have e2 : (if j < j + 1 then cf_td S j c else 0) = cf_td S j c := if_pos (by omega)
                have e3 : (if 0 < j ∧ j - 1 < j + 1 then cf_td S (j - 1) c else 0) = (if 0 < j ∧ j - 1 < j then cf_td S (j - 1) c else 0) := by
                  by_cases h3 : 0 < j
                  · rw [if_pos (by omega), if_pos (by omega)]
                  · rw [if_neg (by omega), if_neg (by omega)]
                rw [cf_ru_eq, g j hj, e1, e2, e3, cf_or0, cf_ora, cf_ora, cf_orc (cf_td S j c)]
              · rw [cf_ru_ne (by omega), g j hj]
                congr 1
                · congr 1
                  by_cases h3 : j < i
                  · rw [if_pos h3, if_pos (by omega)]
                  · rw [if_neg h3, if_neg (by omega)]
                · by_cases h3 : 0 < j ∧ j - 1 < i
                  · rw [if_pos h3, if_pos (by omega)]
                  · rw [if_neg h3, if_neg (by omega)]
    refine loop (S 4 c) 0 (by omega) _ hcp (fun j hj => ?_)
    rw [hcq j hj, if_neg (by omega), if_neg (by omega), cf_or0, cf_or0]
  · rw [k2, Bool.not_eq_true] at q
    refine c_retV (k _ hcp (fun j hj => ?_))
    rw [hcq j hj]
    unfold cf_hd
    rw [cf_td_1 q, cf_td_1 q]
    by_cases h : j = 0
    · rw [if_pos h, cf_or0, cf_or0]
    · rw [if_neg h, cf_or0, cf_or0]
end RXE
