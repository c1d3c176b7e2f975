/-! hush, tell, hang, take of both. -/
/-- only the small state has changed -/
theorem cf_rel_E {t : List (Nat × Nat)} {S : cf_S} {ls : Nat} {hi hi2 : Nat → Nat → Int32} {hl : Nat → Nat → Int64} {v v2 : Nat → Nat → Option Nat} (R : cf_rel t S ls hi hl v) (F : ∀ a b, ((7 ≤ a ∧ a ≤ 76) ∨ (90 ≤ a ∧ a ≤ 108 ∧ ¬ cf_er a b)) → hi2 a b = hi a b) (E2 : cf_E S t hi2 v2) : cf_Rel t hi2 hl v2 := by
  obtain ⟨I, A, ⟨Z, e48⟩, E⟩ := R
  unfold cf_er at F
  exact ⟨S, ls, I, cf_A_ext A (fun a b q1 q2 => F a b (by omega)) (fun _ _ _ _ => rfl), ⟨cf_RM_ext Z (fun b q => F 90 b (by unfold cf_rf at q; omega)) (fun a b q1 q2 => F a b (by omega)) (fun _ _ _ _ => rfl), (F 90 48 (by omega)).trans e48⟩, E2⟩
theorem cf_pr_hush {L : Nat} {t : List (Nat × Nat)} : cf_pr L t 99 213 [] := by
  intro S ls hi hl v R
  obtain ⟨E1, ⟨⟨T, t1, t2, t3, t4⟩, t5⟩, E3, E4, E5, E6⟩ := R.2.2.2
  refine w99_hush (c_retI (w213_hush_r (c_retI ⟨?_, cf_rel_E R (fun a b q => ?_) ⟨?_, ⟨⟨0, by omega, ?_, ?_, fun j hj => by omega⟩, fun j hj => ?_⟩, ?_, ?_, ?_, E6⟩⟩)))
  · rw [cf_ru_ne (by omega), t2, t3]
  · unfold cf_er at q
    rw [cf_ru_ne (by omega), cf_ru_ne (by omega)]
  · rw [cf_ru_ne (by omega), cf_ru_ne (by omega), cf_ru_ne (by omega), cf_ru_ne (by omega)]; exact E1
  · rw [cf_ru_ne (by omega), cf_ru_eq]; rfl
  · rw [cf_ru_eq]; rfl
  · rw [cf_ru_ne (by omega), cf_ru_ne (by omega)]; exact t5 j hj
  · refine cf_Eh_ext E3 ?_ ?_ ?_ ?_ <;> intro b <;> rw [cf_ru_ne (by omega), cf_ru_ne (by omega)]
  · refine cf_Em_ext E4 ?_ ?_ <;> intro b <;> rw [cf_ru_ne (by omega), cf_ru_ne (by omega)]
  · refine cf_El_ext E5 ?_ ?_ ?_ ?_ ?_ (fun _ => rfl) <;> (try intro b) <;> rw [cf_ru_ne (by omega), cf_ru_ne (by omega)]
section RXE
variable {L : Nat} {t : List (Nat × Nat)} {hl : Nat → Nat → Int64} {v : Nat → Nat → Option Nat}
variable {RI : Int32 → (Nat → Nat → Int32) → (Nat → Nat → Int64) → (Nat → Nat → Option Nat) → Prop}
variable {RV : (Nat → Nat → Int32) → (Nat → Nat → Int64) → (Nat → Nat → Option Nat) → Prop}
theorem c143 {hi : Nat → Nat → Int32} {x : Int32} (k0 : ¬ (0 ≤ x.toInt ∧ x.toInt < 10) → RI 0 hi hl v) (k1 : ∀ j, x = nI j → j < 10 → RI 1 hi hl v) : rx_CI L t 143 [.ref 2, .int x] hi hl v RI := by
  refine w143_hasHook ⟨fun g => c_retI (k0 ?_), fun g => ⟨fun g2 => c_retI (k0 ?_), fun g2 => ?_⟩⟩
  · rw [cf_lt] at g; have : ((0 : Int32)).toInt = 0 := rfl; omega
  · rw [cf_le'] at g2; have : ((10 : Int32)).toInt = 10 := rfl; omega
  · rw [cf_lt] at g
    rw [cf_le'] at g2
    have h0 : ((0 : Int32)).toInt = 0 := rfl
    have h1 : ((10 : Int32)).toInt = 10 := rfl
    obtain ⟨e, _⟩ := cf_x (x := x) (by omega)
    exact c_retI (k1 _ e (by omega))
/-- Arrays.fill on the TOLD row -/
theorem c32t {hi0 : Nat → Nat → Int32} {a b m : Nat} (hab : a ≤ b) (hb : b ≤ 400) (hm : m < 7)
    (k : ∀ hi2, (∀ i j, ¬ (i = 85 ∧ a ≤ j ∧ j < b) → hi2 i j = hi0 i j) → (∀ j, a ≤ j → j < b → hi2 85 j = nI m) → RV hi2 hl v) :
    rx_CV L t 32 [.ref 85, .int (nI a), .int (nI b), .int (nI m)] hi0 hl v RV := by
  have hnar : vp_nar .byte (nI m) = nI m := by
    have : ∀ i : Fin 7, vp_nar .byte (nI i.val) = nI i.val := by decide +kernel
    exact this ⟨m, hm⟩
  have lp : ∀ d i, i + d = b → a ≤ i → ∀ hi : Nat → Nat → Int32, (∀ x y, ¬ (x = 85 ∧ a ≤ y ∧ y < i) → hi x y = hi0 x y) → (∀ j, a ≤ j → j < i → hi 85 j = nI m) → rx_aw 32 10 [.ref 85, .int (nI a), .int (nI b), .int (nI m), .int (nI i)] [] (rx_hp L t hi hl v) (fun r h2 => r = none ∧ rx_ok2 L t h2 RV) := by
    intro d
    induction d with
    | zero =>
      intro i hid hai hi F V
      refine w32_fill_at85_10 ⟨fun g => c_retV (k hi (fun x y q => F x y (by omega)) (fun j q1 q2 => V j q1 (by omega))), fun g => absurd ?_ g⟩
      rw [nI_leI (by omega) (by omega)]; omega
    | succ d ih =>
      intro i hid hai hi F V
      refine w32_fill_at85_10 ⟨fun g => ?_, fun g => ⟨i, rfl, by omega, ?_⟩⟩
      · rw [nI_leI (by omega) (by omega)] at g; omega
      · rw [hnar, show nI i + 1 = nI (i + 1) from nI_add i 1]
        refine ih (i + 1) (by omega) (by omega) _ (fun x y q => ?_) (fun j q1 q2 => ?_)
        · rw [cf_ru_ne (by omega)]; exact F x y (by omega)
        · by_cases e : j = i
          · subst e; exact cf_ru_eq
          · rw [cf_ru_ne (by omega)]; exact V j q1 (by omega)
  have hc : ((400 : Int32)) = nI 400 := rfl
  refine w32_fill_at85 (w33_rangeCheck ⟨fun _ => ⟨fun _ => ⟨fun _ => c_retV (lp (b - a) a (by omega) (Nat.le_refl _) hi0 (fun _ _ _ => rfl) (fun j q1 q2 => by omega)), fun g => g ?_⟩, fun g => g ?_⟩, fun g => g ?_⟩)
  · rw [hc, nI_leI (by omega) (by omega)]; omega
  · rw [show (0 : Int32) = nI 0 from rfl, nI_leI (by omega) (by omega)]; omega
  · rw [nI_leI (by omega) (by omega)]; omega
end RXE
