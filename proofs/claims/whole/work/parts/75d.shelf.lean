/-! shelf of both. -/
theorem cf_ab {x : Int64} {q : Nat} (hq : q < 64) : (x &&& cf_bt q) = 0 ↔ cf_has x q = false := by
  rw [cf_dj, cf_not_true]
  constructor
  · intro h z
    exact h q z (by rw [cf_hbt, decide_eq_true hq, decide_eq_true rfl]; rfl)
  · intro h p hp z
    rw [cf_hbt, Bool.and_eq_true, decide_eq_true_iff, decide_eq_true_iff] at z
    rw [← z.2] at hp; exact h hp
/-- a SHELF more -/
def cf_as (S : cf_S) (q : Nat) : cf_S := cf_up (cf_up S 12 (S 0 3) q) 0 3 (S 0 3 + 1)
theorem cf_as_r {S : cf_S} {q a b : Nat} (h0 : ¬ (a = 0 ∧ b = 3)) (h1 : ¬ (a = 12 ∧ b = S 0 3)) : cf_as S q a b = S a b := by
  unfold cf_as cf_up
  rw [if_neg h0, if_neg h1]
theorem cf_as_3 {S : cf_S} {q : Nat} : cf_as S q 0 3 = S 0 3 + 1 := cf_up_e
theorem cf_as_12 {S : cf_S} {q : Nat} : cf_as S q 12 (S 0 3) = q := by
  unfold cf_as; rw [cf_up_r (by omega), cf_up_e]
def cf_shz (S : cf_S) (n : Nat) : Prop := n = 0 ∨ 12 ≤ S 0 3 ∨ 0 < cf_mx (S 4) (S 0 2) ∨ cf_has (cf_bar S ||| cf_sq S 0 0 ||| cf_un (cf_sd S 0) (S 0 2)) (n - 1) = true ∨ ¬ S 1 (n - 1) = 2
theorem cf_num_lt {S : cf_S} (V : cf_V S) {a0 a1 : Int32} {q : Nat} (h : cf_num (S 0 0) (S 0 1) a0 a1 = q + 1) : q < S 0 0 * S 0 1 := by
  unfold cf_num at h
  split at h
  · have : (a1.toInt.toNat + 1) * S 0 0 ≤ S 0 1 * S 0 0 := Nat.mul_le_mul_right _ (by omega)
    rw [Nat.succ_mul] at this
    rw [Nat.mul_comm (S 0 0)]
    omega
  · omega
theorem cf_num_le {S : cf_S} (V : cf_V S) {a0 a1 : Int32} : cf_num (S 0 0) (S 0 1) a0 a1 ≤ 64 := by
  rcases e : cf_num (S 0 0) (S 0 1) a0 a1 with _ | q
  · omega
  · have := cf_num_lt V e
    have := cf_V_wh V
    omega
theorem cf_V_as {S : cf_S} (V : cf_V S) {q : Nat} (hq : q < S 0 0 * S 0 1) (hm : S 0 3 < 12) : cf_V (cf_as S q) := by
  have r : ∀ a b, ¬ (a = 0 ∧ b = 3) → ¬ a = 12 → cf_as S q a b = S a b := fun a b h h2 => cf_as_r h (fun z => h2 z.1)
  unfold cf_V
  rw [r 0 0 (by omega) (by omega), r 0 1 (by omega) (by omega), r 0 2 (by omega) (by omega), cf_as_3]
  refine ⟨V.1, V.2.1, V.2.2.1, by omega, fun p => ?_, fun y => ?_, fun c hc => ?_, fun s hs => ?_⟩
  · rw [r _ _ (by omega) (by omega)]; exact V.2.2.2.2.1 p
  · rw [r _ _ (by omega) (by omega)]; exact V.2.2.2.2.2.1 y
  · rw [r 3 _ (by omega) (by omega), r 9 _ (by omega) (by omega), r 4 _ (by omega) (by omega), r 5 _ (by omega) (by omega), r 6 _ (by omega) (by omega), r 7 _ (by omega) (by omega), r 8 _ (by omega) (by omega)]
    obtain ⟨h1, h2, h3, h4, h5, h6, h7, h8, h9⟩ := V.2.2.2.2.2.2.1 c hc
    exact ⟨h1, h2, by omega, h4, h5, by omega, h7, h8, fun u hu => by rw [r _ _ (by omega) (by omega)]; exact h9 u hu⟩
  · by_cases e : s = S 0 3
    · subst e; rw [cf_as_12]; exact hq
    · rw [cf_as_r (by omega) (fun z => e z.2)]; exact V.2.2.2.2.2.2.2 s (by omega)
theorem cf_mx0 {f : Nat → Nat} {n : Nat} (h : cf_mx f n = 0) {c : Nat} (hc : c < n) : f c = 0 := by
  have := cf_le_mx (f := f) hc
  omega
theorem cf_H0_as {S : cf_S} (V : cf_V S) (H : cf_H0 S) (q : Nat) : cf_H0 (cf_as S q) := by
  intro c s hc hs e
  rw [cf_as_r (by omega) (by omega)] at hc e
  rw [cf_as_3] at hs
  have := (V.2.2.2.2.2.2.1 c hc).2.2.1
  have hs' : s < S 0 3 := by omega
  rw [cf_as_r (by omega) (fun z => by omega), cf_as_r (by omega) (by omega)]
  exact H c s hc hs' e
theorem cf_Ir_as {S : cf_S} {ls n : Nat} (I : cf_Ir ls S) (hz : ¬ cf_shz S n) (hn : n ≤ S 0 0 * S 0 1) : cf_Ir ls (cf_as S (n - 1)) := by
  obtain ⟨V, G, E1, E2, Bd, hls, E3, E4⟩ := id I
  unfold cf_shz at hz
  have h4 : ∀ c, c < S 0 2 → S 4 c = 0 := fun c hc => cf_mx0 (by omega) hc
  have r : ∀ a b, ¬ (a = 0 ∧ b = 3) → ¬ a = 12 → cf_as S (n - 1) a b = S a b := fun a b h h2 => cf_as_r h (fun z => h2 z.1)
  have hhas : cf_has (cf_bar S ||| cf_sq S 0 0 ||| cf_un (cf_sd S 0) (S 0 2)) (n - 1) = false := by rw [cf_not_true]; intro z; exact hz (Or.inr (Or.inr (Or.inr (Or.inl z))))
  rw [cf_hor, cf_hor, Bool.or_eq_false_iff, Bool.or_eq_false_iff] at hhas
  have nsh : ∀ s, s < S 0 3 → ¬ S 12 s = n - 1 := by
    intro s hs e
    have h1 := hhas.1.2
    unfold cf_sq at h1
    rw [cf_has_un, cf_not_true] at h1
    apply h1
    refine cf_any_true hs ?_
    have hwh := cf_V_wh V
    have := V.2.2.2.2.2.2.2 s hs
    rw [if_neg (by omega), cf_hbt]
    show (decide (S 12 s < 64) && decide (S 12 s = n - 1)) = true
    rw [decide_eq_true (by omega), decide_eq_true e]; rfl
  have nst : ∀ c, c < S 0 2 → cf_has (cf_sd S 0 c) (n - 1) = false := by
    intro c hc
    rw [cf_not_true]
    intro z
    have h1 := hhas.2
    rw [cf_has_un, cf_not_true] at h1
    exact h1 (cf_any_true hc z)
  have es : ∀ c, cf_sd (cf_as S (n - 1)) 0 c = cf_sd S 0 c := by
    intro c
    show cf_std _ _ _ (cf_as S (n - 1) 9 c) = cf_std _ _ _ (S 9 c)
    rw [r 0 0 (by omega) (by omega), r 0 1 (by omega) (by omega), r 3 c (by omega) (by omega), r 9 c (by omega) (by omega)]
  have eb : cf_bar (cf_as S (n - 1)) = cf_bar S := cf_bar_eq (r 0 0 (by omega) (by omega)) (r 0 1 (by omega) (by omega)) (funext fun b => r 1 b (by omega) (by omega)) (funext fun b => r 2 b (by omega) (by omega))
  refine cf_Ir_stat (cf_V_as V (by omega) (by omega)) (fun s s' hs hs' e => ?_) (cf_H0_as V G.2.1 _) (fun c hc => ?_) (fun c c' hc hc' hne => ?_) (fun c hc => ?_) (fun c hc => ?_) hls (fun c hc => ?_) (fun c hc => ?_)
  · rw [cf_as_3] at hs hs'
    by_cases q1 : s = S 0 3
    · by_cases q2 : s' = S 0 3
      · omega
      · rw [q1, cf_as_12, cf_as_r (by omega) (fun z => q2 z.2)] at e
        exact absurd e.symm (nsh s' (by omega))
    · by_cases q2 : s' = S 0 3
      · rw [q2, cf_as_12, cf_as_r (by omega) (fun z => q1 z.2)] at e
        exact absurd e (nsh s (by omega))
      · rw [cf_as_r (by omega) (fun z => q1 z.2), cf_as_r (by omega) (fun z => q2 z.2)] at e
        exact G.1 s s' (by omega) (by omega) e
  all_goals rw [r 0 2 (by omega) (by omega)] at hc
  · unfold cf_own
    rw [r 9 c (by omega) (by omega), r 6 c (by omega) (by omega), r 3 c (by omega) (by omega)]
    exact G.2.2.1 c hc
  · rw [r 0 2 (by omega) (by omega)] at hc'
    unfold cf_own
    rw [r 9 c (by omega) (by omega), r 6 c (by omega) (by omega), r 9 c' (by omega) (by omega), r 6 c' (by omega) (by omega)]
    exact G.2.2.2.1 c c' hc hc' hne
  · rw [r 4 c (by omega) (by omega)]; exact h4 c hc
  · obtain ⟨o1, o2, o3⟩ := cf_Ir_ok0 I h4 hc
    unfold cf_ok0
    rw [es, eb, r 3 c (by omega) (by omega), r 9 c (by omega) (by omega), r 0 2 (by omega) (by omega)]
    refine ⟨o1, ?_, fun o ho hne => by rw [es]; exact o3 o ho hne⟩
    rcases o2 with o2 | o2
    · exact Or.inl o2
    · refine Or.inr ?_
      have ld := (V.2.2.2.2.2.2.1 c hc).2.2.1
      have eq : cf_sq (cf_as S (n - 1)) 0 (S 9 c / 256) = cf_sq S 0 (S 9 c / 256) ||| cf_bt (n - 1) := by
        unfold cf_sq
        rw [cf_as_3, cf_un, if_neg (by omega)]
        show _ ||| cf_bt (cf_as S (n - 1) 12 (S 0 3)) = _
        rw [cf_as_12]
        congr 1
        refine cf_un_eq2 (fun s hs => ?_)
        show (if s + 1 = S 9 c / 256 then 0 else cf_bt (cf_as S (n - 1) 12 s)) = if s + 1 = S 9 c / 256 then 0 else cf_bt (S 12 s)
        rw [cf_as_r (by omega) (by omega)]
      rw [eq, cf_dj]
      intro p hp z
      rw [cf_hor, Bool.or_eq_true] at z
      rcases z with z | z
      · exact cf_dj.mp o2 p hp z
      · rw [cf_hbt, Bool.and_eq_true, decide_eq_true_iff, decide_eq_true_iff] at z
        rw [← z.2, nst c hc] at hp; cases hp
  · rw [r 3 c (by omega) (by omega), r 5 c (by omega) (by omega), r 8 c (by omega) (by omega)]; exact E3 c hc
  · rw [r 6 c (by omega) (by omega), r 5 c (by omega) (by omega)]; exact E4 c hc
section RXE
variable {L : Nat} {t : List (Nat × Nat)} {hi : Nat → Nat → Int32} {hl : Nat → Nat → Int64} {v : Nat → Nat → Option Nat}
variable {RI : Int32 → (Nat → Nat → Int32) → (Nat → Nat → Int64) → (Nat → Nat → Option Nat) → Prop}
theorem cf_X_as {S : cf_S} (X : cf_X S hi hl) {q : Nat} (hq : q < S 0 0 * S 0 1) (hm : S 0 3 < 12) : cf_X (cf_as S q) (rx_u (rx_u hi (rx_sf (S 0 3)) 1 (nI q)) 13 4 (nI (S 0 3 + 1))) hl := by
  have r : ∀ a b, ¬ (a = 0 ∧ b = 3) → ¬ a = 12 → cf_as S q a b = S a b := fun a b h h2 => cf_as_r h (fun z => h2 z.1)
  have u : ∀ a b, ¬ (a = rx_sf (S 0 3) ∧ b = 1) → ¬ (a = 13 ∧ b = 4) → rx_u (rx_u hi (rx_sf (S 0 3)) 1 (nI q)) 13 4 (nI (S 0 3 + 1)) a b = hi a b := fun a b h1 h2 => by rw [cf_ru_ne h2, cf_ru_ne h1]
  have V' := cf_V_as X.1 hq hm
  obtain ⟨V, K1, K2, K3, C, G1, G2, B⟩ := X
  have h6 := V.2.2.1
  unfold cf_X
  rw [r 0 0 (by omega) (by omega), r 0 1 (by omega) (by omega)]
  refine ⟨V', ?_, cf_K2_eq K2 (fun b => u _ _ (by unfold rx_sf; omega) (by omega)) (fun _ => rfl) (fun _ => rfl), K3, ⟨?_, ?_, fun c hc => ?_, fun s hs => ?_⟩, fun p hp => ?_, fun p hp => ?_, ?_⟩
  · obtain ⟨b1, b2, b3, b4, b5, b6⟩ := K1
    exact ⟨b1, b2, b3, b4, (u _ _ (by unfold rx_sf; omega) (by omega)).trans b5, (u _ _ (by unfold rx_sf; omega) (by omega)).trans b6⟩
  · rw [u _ _ (by unfold rx_sf; omega) (by omega), r 0 2 (by omega) (by omega)]; exact C.1
  · rw [cf_as_3]; exact cf_ru_eq
  · rw [r 0 2 (by omega) (by omega)] at hc
    have f : ∀ b, rx_u (rx_u hi (rx_sf (S 0 3)) 1 (nI q)) 13 4 (nI (S 0 3 + 1)) (rx_ct c) b = hi (rx_ct c) b := fun b => u _ _ (by unfold rx_sf rx_ct; omega) (by unfold rx_ct; omega)
    have f2 : ∀ b, rx_u (rx_u hi (rx_sf (S 0 3)) 1 (nI q)) 13 4 (nI (S 0 3 + 1)) (rx_ct c + 1) b = hi (rx_ct c + 1) b := fun b => u _ _ (by unfold rx_sf rx_ct; omega) (by unfold rx_ct; omega)
    simp only [f, f2]
    rw [r 3 _ (by omega) (by omega), r 9 _ (by omega) (by omega), r 4 _ (by omega) (by omega), r 5 _ (by omega) (by omega), r 6 _ (by omega) (by omega), r 7 _ (by omega) (by omega), r 8 _ (by omega) (by omega)]
    obtain ⟨d1, d2, d3, d4, d5, d6, d7, d8⟩ := C.2.2.1 c hc
    exact ⟨d1, d2, d3, d4, d5, d6, d7, fun j hj => by rw [r _ _ (by omega) (by omega)]; exact d8 j hj⟩
  · rw [cf_as_3] at hs
    by_cases e : s = S 0 3
    · subst e; rw [cf_as_12, cf_ru_ne (by unfold rx_sf; omega)]; exact cf_ru_eq
    · rw [cf_as_r (by omega) (fun z => e z.2), u _ _ (by unfold rx_sf; omega) (by unfold rx_sf; omega)]; exact C.2.2.2 s (by omega)
  · rw [u _ _ (by unfold rx_sf; omega) (by omega), r _ _ (by omega) (by omega)]; exact G1 p hp
  · rw [u _ _ (by unfold rx_sf; omega) (by omega), r _ _ (by omega) (by omega)]; exact G2 p hp
  · rw [B]; exact (cf_bar_eq (r 0 0 (by omega) (by omega)) (r 0 1 (by omega) (by omega)) (funext fun b => r 1 b (by omega) (by omega)) (funext fun b => r 2 b (by omega) (by omega))).symm
theorem c34 {S : cf_S} {ls : Nat} (A : cf_A S ls hi hl) {a0 a1 : Int32} (kr : cf_shz S (cf_num (S 0 0) (S 0 1) a0 a1) → RI (-2) hi hl v) (kg : ¬ cf_shz S (cf_num (S 0 0) (S 0 1) a0 a1) → ∀ hi2 hl2, (∀ a b, (a < 13 ∨ 76 ≤ a) → hi2 a b = hi a b) → (∀ a b, 76 ≤ a → hl2 a b = hl a b) → cf_A (cf_as S (cf_num (S 0 0) (S 0 1) a0 a1 - 1)) ls hi2 hl2 → RI (nI (S 0 3)) hi2 hl2 v) : rx_CI L t 34 [.ref 1, .int a0, .int a1] hi hl v RI := by
  have X := A.1
  have V := X.1.1
  have K1 := X.1.2.1
  have C := X.1.2.2.2.2.1
  have hwh := cf_V_wh V
  have h12 := V.2.2.2.1
  have hn := cf_num_le V (a0 := a0) (a1 := a1)
  have hlt : ∀ q, cf_num (S 0 0) (S 0 1) a0 a1 = q + 1 → q < S 0 0 * S 0 1 := fun q e => cf_num_lt V e
  refine w34_shelf (c26 K1 ?_)
  generalize cf_num (S 0 0) (S 0 1) a0 a1 = n at *
  unfold cf_shz at kr kg
  refine ⟨fun g => c_retI (kr (Or.inl ?_)), fun g => ⟨fun g2 => c_retI (kr ?_), fun g2 => c35 V C ⟨fun g3 => ?_, fun g3 => c_retI (kr (Or.inr (Or.inr (Or.inl (of_decide_eq_true (cf_B_ne g3))))))⟩⟩⟩
  · rw [cf_oneg (by omega)] at g; exact g
  · rw [C.2.1, show (12 : Int32) = nI 12 from rfl, cf_nle (by omega) (by omega)] at g2; omega
  rw [cf_oneg (by omega)] at g
  rw [C.2.1, show (12 : Int32) = nI 12 from rfl, cf_nle (by omega) (by omega)] at g2
  have hmx := of_decide_eq_false (cf_B_eq g3)
  have en : n = n - 1 + 1 := by omega
  have hq := hlt (n - 1) en
  generalize n - 1 = q at *
  subst en
  rw [cf_oS]
  refine c9 (by omega) (c37 (j := 0) (x := 0) X (by omega) (by omega) (c39 X ⟨fun g4 => ⟨q, rfl, by omega, fun g5 => ?_, fun g5 => c_retI (kr (Or.inr (Or.inr (Or.inr (Or.inr ?_)))))⟩, fun g4 => c_retI (kr (Or.inr (Or.inr (Or.inr (Or.inl ?_)))))⟩))
  · rw [X.1.2.2.2.2.2.1 q (by omega), show (2 : Int32) = nI 2 from rfl, nI_eq (by have := V.2.2.2.2.1 q; omega) (by omega)] at g5
    rw [cf_cmp0, cf_ab (by omega), X.1.2.2.2.2.2.2.2] at g4
    have hz : ¬ (q + 1 = 0 ∨ 12 ≤ S 0 3 ∨ 0 < cf_mx (S 4) (S 0 2) ∨ cf_has (cf_bar S ||| cf_sq S 0 0 ||| cf_un (cf_sd S 0) (S 0 2)) q = true ∨ ¬ S 1 q = 2) := by
      rintro (z | z | z | z | z)
      · omega
      · omega
      · omega
      · rw [g4] at z; cases z
      · exact z g5
    refine w40_addShelf ⟨S 0 3, C.2.1, by omega, ?_⟩
    have e4 : (rx_u hi (rx_sf (S 0 3)) 1 (nI q)) 13 4 + 1 = nI (S 0 3 + 1) := by rw [cf_ru_ne (by unfold rx_sf; omega), C.2.1]; exact nI_add _ 1
    rw [e4]
    have X' := cf_X_as X.1 hq (by omega)
    refine c41 X' (fun hi2 hl2 F Rr => ?_)
    have X2 : cf_X (cf_as S q) hi2 hl2 := cf_X_fr X' F
    have f0 : ∀ a b, (a < 13 ∨ 76 ≤ a) → hi2 a b = hi a b := fun a b z => by
      rw [F.1 a b (by unfold cf_rw; omega), cf_ru_ne (by omega), cf_ru_ne (by unfold rx_sf; omega)]
    have k2 := kg hz hi2 hl2 f0 (fun a b z => F.2 a b (by unfold cf_rwl; omega)) ⟨⟨X2, Rr⟩, cf_bts_fC (fun c hc j hj => ?_) (cf_fr_fC F), ?_⟩
    · refine c_retI (c_retIe k2 ?_)
      rw [X2.2.2.2.2.1.2.1, cf_as_3, show (1 : Int32) = nI 1 from rfl, cf_nsub (by omega)]; rfl
    · rw [cf_ru_ne (by unfold rx_ct; omega), cf_ru_ne (by unfold rx_ct rx_sf; omega), cf_ru_ne (by unfold rx_ct; omega), cf_ru_ne (by unfold rx_ct rx_sf; omega)]
      exact A.2.1 c hc j hj
    · rw [f0 76 3 (by omega)]; exact A.2.2
  · rw [X.1.2.2.2.2.2.1 q (by omega), show (2 : Int32) = nI 2 from rfl, nI_eq (by have := V.2.2.2.2.1 q; omega) (by omega)] at g5
    exact g5
  · rw [cf_cmp0, cf_ab (by omega), X.1.2.2.2.2.2.2.2] at g4
    rw [cf_not_true] at g4
    exact Classical.not_not.mp g4
end RXE
