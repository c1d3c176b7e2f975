/-! While no cart moves. -/
theorem cf_stat {S : cf_S} (H : cf_H0 S) (h4 : ∀ c, c < S 0 2 → S 4 c = 0) : ∀ u, (∀ c, c < S 0 2 → cf_st S u c = S 9 c) ∧ (∀ s, s < S 0 3 → cf_sp S u s = S 12 s)
  | 0 => ⟨fun _ _ => rfl, fun _ _ => rfl⟩
  | u + 1 => by
    obtain ⟨h1, h2⟩ := cf_stat H h4 u
    have g : ∀ c, c < S 0 2 → cf_st S (u + 1) c = S 9 c := fun c hc => by
      rw [← h1 c hc]; exact cf_st_E (by rw [h4 c hc]; omega)
    refine ⟨g, fun s hs => ?_⟩
    have e1 : cf_sp S (u + 1) s = cf_car (cf_st S (u + 1)) s (cf_sp S u s) (S 0 2) := rfl
    rw [e1, h2 s hs]
    refine cf_car_0 (fun c hc q => ?_)
    rw [g c hc] at q ⊢
    exact H c s hc hs q
/-- a cart that is in nobody's way -/
def cf_ok0 (S : cf_S) (c : Nat) : Prop := (cf_sd S 0 c &&& cf_bar S) = 0 ∧ ((S 3 c = 1 ∧ S 9 c / 256 = 0) ∨ (cf_sd S 0 c &&& cf_sq S 0 (S 9 c / 256)) = 0) ∧ ∀ o, o < S 0 2 → ¬ o = c → (cf_sd S 0 c &&& cf_sd S 0 o) = 0
theorem cf_sd_stat {S : cf_S} (H : cf_H0 S) (h4 : ∀ c, c < S 0 2 → S 4 c = 0) (u : Nat) {c : Nat} (hc : c < S 0 2) : cf_sd S u c = cf_sd S 0 c ∧ cf_hd S u c = cf_sd S 0 c := by
  have e : cf_sd S u c = cf_sd S 0 c := by
    unfold cf_sd
    rw [(cf_stat H h4 u).1 c hc]; rfl
  refine ⟨e, ?_⟩
  unfold cf_hd
  rw [cf_td_0 (by rw [h4 c hc]; omega), cf_td_0 (by rw [h4 c hc]; omega), e, cf_or0]
  split <;> rw [cf_or0]
theorem cf_un_eq2 {f g : Nat → Int64} : ∀ {n : Nat}, (∀ i, i < n → f i = g i) → cf_un f n = cf_un g n
  | 0, _ => rfl
  | n + 1, h => by rw [cf_un, cf_un, cf_un_eq2 (n := n) (fun i hi => h i (by omega)), h n (by omega)]
theorem cf_bad_stat {S : cf_S} (H : cf_H0 S) (h4 : ∀ c, c < S 0 2 → S 4 c = 0) {c : Nat} (hc : c < S 0 2) (u : Nat) : cf_bad S c u = false ↔ cf_ok0 S c := by
  obtain ⟨hs, hh⟩ := cf_sd_stat H h4 u hc
  have est := (cf_stat H h4 u).1 c hc
  have esq : cf_sqg (S 0 3) (cf_sp S) u (S 9 c / 256) = cf_sq S 0 (S 9 c / 256) := by
    unfold cf_sqg cf_sq
    exact cf_un_eq2 (fun s hs => by rw [(cf_stat H h4 u).2 s hs]; rfl)
  unfold cf_bad
  rw [Bool.or_eq_false_iff]
  unfold cf_fit
  rw [hh, est, esq]
  have key : cf_mta (S 0 2) (cf_sd S) (cf_hd S) c u = false ↔ ∀ o, o < S 0 2 → ¬ o = c → (cf_sd S 0 c &&& cf_sd S 0 o) = 0 := by
    unfold cf_mta
    constructor
    · intro h o ho hne
      apply Classical.byContradiction
      intro z
      rw [cf_not_true] at h
      apply h
      refine cf_any_true ho ?_
      unfold cf_mtg
      rw [hh, (cf_sd_stat H h4 u ho).2, decide_eq_false hne, decide_eq_true z]; rfl
    · intro h
      refine cf_any_false (fun o ho => ?_)
      by_cases e : o = c
      · rw [decide_eq_true e]; rfl
      · have z := h o ho e
        unfold cf_mtg
        rw [hh, hs, (cf_sd_stat H h4 u ho).2, (cf_sd_stat H h4 u ho).1, (cf_sd_stat H h4 (u - 1) hc).1, (cf_sd_stat H h4 (u - 1) ho).1]
        unfold cf_swap
        rw [z, decide_eq_false (show ¬ ¬ (0 : Int64) = 0 from fun q => q rfl), Bool.false_or, Bool.false_and, Bool.false_and, Bool.and_false, Bool.and_false]
  rw [key]
  unfold cf_ok0
  constructor
  · rintro ⟨h1, h2⟩
    have h1' : (decide ((cf_sd S 0 c &&& cf_bar S) = 0) && (decide (S 3 c = 1 ∧ S 9 c / 256 = 0) || decide ((cf_sd S 0 c &&& cf_sq S 0 (S 9 c / 256)) = 0))) = true := by
      revert h1
      generalize (decide ((cf_sd S 0 c &&& cf_bar S) = 0) && (decide (S 3 c = 1 ∧ S 9 c / 256 = 0) || decide ((cf_sd S 0 c &&& cf_sq S 0 (S 9 c / 256)) = 0))) = b
      cases b <;> decide
    rw [Bool.and_eq_true, Bool.or_eq_true, decide_eq_true_iff, decide_eq_true_iff, decide_eq_true_iff] at h1'
    exact ⟨h1'.1, h1'.2, h2⟩
  · rintro ⟨h1, h2, h3⟩
    refine ⟨?_, h3⟩
    rw [decide_eq_true h1]
    rcases h2 with h2 | h2
    · rw [decide_eq_true h2]; rfl
    · rw [decide_eq_true h2, Bool.or_true]; rfl
theorem cf_Ir_stat {S : cf_S} {ls : Nat} (V : cf_V S) (G1 : ∀ s s', s < S 0 3 → s' < S 0 3 → S 12 s = S 12 s' → s = s') (H : cf_H0 S) (G3 : ∀ c, c < S 0 2 → (¬ cf_own S c = 0 → S 3 c = 1) ∧ (¬ S 9 c / 256 = 0 → ¬ S 6 c = 0 → S 9 c / 256 = S 6 c)) (G4 : ∀ c c', c < S 0 2 → c' < S 0 2 → ¬ c = c' → ¬ cf_own S c = 0 → ¬ cf_own S c = cf_own S c') (h4 : ∀ c, c < S 0 2 → S 4 c = 0) (ok : ∀ c, c < S 0 2 → cf_ok0 S c) (hls : ls ≤ 400) (E3 : ∀ c, c < S 0 2 → S 3 c = 3 → S 5 c = 0 ∧ S 8 c = 0) (E4 : ∀ c, c < S 0 2 → ¬ S 6 c = 0 → ¬ S 5 c = 0) : cf_Ir ls S := by
  refine ⟨V, ⟨G1, H, G3, G4, fun c hc u hu => ?_, fun o c u ho hc hne hu => ?_⟩, fun c hc _ q => ?_, fun c hc _ => ?_, fun c hc u _ => (cf_bad_stat H h4 hc u).mpr (ok c hc), hls, E3, E4⟩
  · have := h4 c hc; omega
  · have := h4 o ho; omega
  · have := h4 c hc; omega
  · have := h4 c hc; omega
theorem cf_Ir_ok0 {S : cf_S} {ls : Nat} (I : cf_Ir ls S) (h4 : ∀ c, c < S 0 2 → S 4 c = 0) {c : Nat} (hc : c < S 0 2) : cf_ok0 S c := (cf_bad_stat I.2.1.2.1 h4 hc 0).mp (I.2.2.2.2.1 c hc 0 (by omega))
theorem cf_bar_eq {S S' : cf_S} (e0 : S' 0 0 = S 0 0) (e1 : S' 0 1 = S 0 1) (e2 : S' 1 = S 1) (e3 : S' 2 = S 2) : cf_bar S' = cf_bar S := by
  unfold cf_bar cf_isb
  rw [e0, e1, e2, e3]
theorem cf_has_bar {S : cf_S} (V : cf_V S) {q : Nat} (hq : q < S 0 0 * S 0 1) : cf_has (cf_bar S) q = cf_isb S q := by
  have hwh := cf_V_wh V
  unfold cf_bar
  rw [cf_has_un]
  cases e : cf_isb S q with
  | true => exact cf_any_true hq (by rw [e, cond_true, cf_hbt, decide_eq_true (by omega), decide_eq_true rfl]; rfl)
  | false =>
    refine cf_any_false (fun i hi => ?_)
    by_cases z : i = q
    · subst z; rw [e]; exact cf_h0 _
    · cases cf_isb S i with
      | true => rw [cond_true, cf_hbt, decide_eq_false z, Bool.and_false]
      | false => exact cf_h0 _
theorem cf_E_mono {S S2 : cf_S} {t : List (Nat × Nat)} {hi : Nat → Nat → Int32} {v : Nat → Nat → Option Nat} (E : cf_E S t hi v) (e0 : S2 0 0 = S 0 0) (e1 : S2 0 1 = S 0 1) (h2 : S 0 2 ≤ S2 0 2) (h3 : S 0 3 ≤ S2 0 3) (e2 : S2 2 = S 2) : cf_E S2 t hi v := by
  obtain ⟨E1, E2, E3, E4, E5, E6⟩ := E
  unfold cf_E
  rw [e0, e1, e2]
  refine ⟨E1, E2, fun j hj => ?_, E4, ?_, E6⟩
  · obtain ⟨g1, g2, g3⟩ := E3 j hj
    refine ⟨g1, g2, ?_⟩
    rcases g3 with q | ⟨q, c, hc, ec⟩ | ⟨q, c, hc, ec⟩
    · exact Or.inl q
    · exact Or.inr (Or.inl ⟨q, c, by omega, ec⟩)
    · exact Or.inr (Or.inr ⟨q, c, by omega, ec⟩)
  · rcases E5 with q | ⟨s, k, hs, hk, g1, g2, g3, g4, g5⟩
    · exact Or.inl q
    · refine Or.inr ⟨s, k, hs, hk, g1, g2, g3, g4, fun j hj => ?_⟩
      rcases g5 j hj with q | ⟨c, hc, ec⟩
      · exact Or.inl q
      · exact Or.inr ⟨c, by omega, ec⟩
