/-! CartFloorModel.remember, stop. -/
theorem cf_M_ext {S : cf_S} {hi hi2 : Nat → Nat → Int32} (M : cf_M S hi) (F : ∀ a b, 90 ≤ a → a < 109 → ¬ (a = 90 ∧ 22 ≤ b) → hi2 a b = hi a b) : cf_M S hi2 := by
  obtain ⟨⟨a1, a2, a3, a4, a5, a6, a7⟩, b, c, d, e, f, g⟩ := M
  refine ⟨⟨a1, a2, a3, a4, (F 90 0 (by omega) (by omega) (by omega)).trans a5, (F 90 1 (by omega) (by omega) (by omega)).trans a6, (F 90 2 (by omega) (by omega) (by omega)).trans a7⟩, (F 90 6 (by omega) (by omega) (by omega)).trans b, (F 90 21 (by omega) (by omega) (by omega)).trans c, fun q hq => (F 91 q (by omega) (by omega) (by omega)).trans (d q hq), fun q hq => (F 92 q (by omega) (by omega) (by omega)).trans (e q hq), fun i hi0 => ?_, fun s hs => (F 107 s (by omega) (by omega) (by omega)).trans (g s hs)⟩
  obtain ⟨f1, f2, f3, f4, f5, f6, f7, f8, f9, f10⟩ := f i hi0
  exact ⟨(F 93 i (by omega) (by omega) (by omega)).trans f1, (F 94 i (by omega) (by omega) (by omega)).trans f2, (F 96 i (by omega) (by omega) (by omega)).trans f3, fun q => ⟨(F 97 i (by omega) (by omega) (by omega)).trans (f4 q).1, (F 98 i (by omega) (by omega) (by omega)).trans (f4 q).2⟩, (F 99 i (by omega) (by omega) (by omega)).trans f5, (F 100 i (by omega) (by omega) (by omega)).trans f6, fun j hj => (F 95 _ (by omega) (by omega) (by omega)).trans (f7 j hj), (F 101 _ (by omega) (by omega) (by omega)).trans f8, (F 102 _ (by omega) (by omega) (by omega)).trans f9, (F 103 _ (by omega) (by omega) (by omega)).trans f10⟩
theorem cf_M_fte {S : cf_S} {hi : Nat → Nat → Int32} (M : cf_M S hi) (c x : Nat) : cf_M (cf_fte S c x) (rx_u hi 100 c (nI x)) := by
  have r : ∀ a b, ¬ a = 8 → cf_fte S c x a b = S a b := fun a b h => by unfold cf_fte; rw [if_neg (fun q => h q.1)]
  have u : ∀ a b, ¬ a = 100 → rx_u hi 100 c (nI x) a b = hi a b := fun a b q => cf_ru_ne (by omega)
  obtain ⟨⟨a1, a2, a3, a4, a5, a6, a7⟩, b, d, e, g, h, k⟩ := M
  unfold cf_M
  simp only [r 0 _ (by omega), r 1 _ (by omega), r 2 _ (by omega), r 3 _ (by omega), r 4 _ (by omega), r 9 _ (by omega), r 5 _ (by omega), r 6 _ (by omega), r 7 _ (by omega), r 12 _ (by omega)]
  refine ⟨⟨a1, a2, a3, a4, (u _ _ (by omega)).trans a5, (u _ _ (by omega)).trans a6, (u _ _ (by omega)).trans a7⟩, (u _ _ (by omega)).trans b, (u _ _ (by omega)).trans d, fun q hq => (u _ _ (by omega)).trans (e q hq), fun q hq => (u _ _ (by omega)).trans (g q hq), fun i hi0 => ?_, fun s hs => (u _ _ (by omega)).trans (k s hs)⟩
  obtain ⟨f1, f2, f3, f4, f5, f6, f7, f8, f9, f10⟩ := h i hi0
  refine ⟨(u _ _ (by omega)).trans f1, (u _ _ (by omega)).trans f2, (u _ _ (by omega)).trans f3, fun q => ⟨(u _ _ (by omega)).trans (f4 q).1, (u _ _ (by omega)).trans (f4 q).2⟩, (u _ _ (by omega)).trans f5, ?_, fun j hj => by rw [u _ _ (by omega), r _ _ (by omega)]; exact f7 j hj, (u _ _ (by omega)).trans f8, (u _ _ (by omega)).trans f9, (u _ _ (by omega)).trans f10⟩
  unfold cf_fte
  by_cases q : i = c
  · subst q; rw [cf_ru_eq, if_pos ⟨rfl, rfl⟩]
  · rw [cf_ru_ne (by omega), if_neg (by omega)]; exact f6
theorem cf_M_cut {S : cf_S} {hi : Nat → Nat → Int32} (M : cf_M S hi) {c k : Nat} (hk : k ≤ S 4 c) : cf_M (cf_cut S c k) (rx_u hi 94 c (nI k)) := by
  obtain ⟨n, mv, e⟩ := cf_cut_lg hk
  rw [e] at M
  have := cf_M_back M
  rw [cf_cut_4] at this
  exact this
/-- what is remembered -/
def cf_kpr (S : cf_S) (n : Nat) (hi : Nat → Nat → Int32) : Prop := ∀ c, c < n → c < S 0 2 → hi 121 c = nI (S 4 c) ∧ hi 122 c = nI (S 8 c) ∧ hi 124 c = nI (S 7 c)
def cf_kpw (S : cf_S) (n : Nat) (hi : Nat → Nat → Int32) : Prop := ∀ c, c < S 0 2 → ∀ u, u < S 4 c → 400 * c + u < n → hi 123 (400 * c + u) = nI (S (20 + c) u)
section RXE
variable {L : Nat} {t : List (Nat × Nat)} {hi : Nat → Nat → Int32} {hl : Nat → Nat → Int64} {v : Nat → Nat → Option Nat}
variable {RI : Int32 → (Nat → Nat → Int32) → (Nat → Nat → Int64) → (Nat → Nat → Option Nat) → Prop}
variable {RV : (Nat → Nat → Int32) → (Nat → Nat → Int64) → (Nat → Nat → Option Nat) → Prop}
theorem cv_wrap {j : Nat} {as : List Value} (h : rx_CV L t j as hi hl v RV) : rx_CV L t j as hi hl v (fun hi2 hl2 v2 => (none : Option Value) = none ∧ rx_ok2 L t (rx_hp L t hi2 hl2 v2) RV) :=
  rx_aw.mono h (fun r h2 ⟨e, hi2, hl2, v2, e2, q⟩ => ⟨e, hi2, hl2, v2, e2, rfl, hi2, hl2, v2, rfl, q⟩)
theorem cf_nar7 {x : Nat} (h : x ≤ 1) : vp_nar .boolean (nI x) = nI x := by
  have : x = 0 ∨ x = 1 := by omega
  rcases this with q | q <;> rw [q] <;> rfl
theorem c200f {S : cf_S} (V : cf_V S) (M : cf_M S hi) (k : ∀ hi2, (∀ a b, ¬ (121 ≤ a ∧ a ≤ 124) → hi2 a b = hi a b) → cf_kpr S 6 hi2 → cf_kpw S 2400 hi2 → rx_CV L t 191 [.ref 90] hi2 hl v RV) : rx_CV L t 200 [.ref 90, .int 0] hi hl v RV := by
  have h6 := V.2.2.1
  have l95 : ∀ d i, i + d = 2400 → ∀ hi2 : Nat → Nat → Int32, (∀ a b, ¬ (121 ≤ a ∧ a ≤ 124) → hi2 a b = hi a b) → cf_kpr S 6 hi2 → cf_kpw S i hi2 → rx_aw 200 95 [.ref 90, .int 0, .int (nI i)] [] (rx_hp L t hi2 hl v) (fun r h2 => r = none ∧ rx_ok2 L t h2 RV) := by
    intro d
    induction d with
    | zero =>
      intro i hi0 hi2 F K W
      have : i = 2400 := by omega
      subst this
      exact w200_remember_r_95 ⟨fun _ => cv_wrap (k hi2 F K W), fun g => absurd (by decide) g⟩
    | succ d ih =>
      intro i hi0 hi2 F K W
      refine w200_remember_r_95 ⟨fun g => ?_, fun _ => ⟨fun _ => ⟨i, rfl, by omega, i, rfl, by omega, ?_⟩, fun g => absurd rfl g⟩⟩
      · rw [show (2400 : Int32) = nI 2400 from rfl] at g; exact absurd g (nI_ge (by omega) (by decide))
      · rw [nI_1]
        refine ih (i + 1) (by omega) _ (fun a b q => by rw [cf_ru_ne (by omega)]; exact F a b q) (fun c h1 h2 => ?_) (fun c hc u hu hlt => ?_)
        · rw [cf_ru_ne (by omega), cf_ru_ne (by omega), cf_ru_ne (by omega)]; exact K c h1 h2
        · by_cases e : 400 * c + u = i
          · rw [e, cf_ru_eq, ← e, F 95 _ (by omega)]
            exact (M.2.2.2.2.2.1 c hc).2.2.2.2.2.2.1 u hu
          · rw [cf_ru_ne (by omega)]; exact W c hc u hu (by omega)
  have l2 : ∀ d i, i + d = 6 → ∀ hi2 : Nat → Nat → Int32, (∀ a b, ¬ (121 ≤ a ∧ a ≤ 124) → hi2 a b = hi a b) → cf_kpr S i hi2 → rx_aw 200 2 [.ref 90, .int 0, .int (nI i)] [] (rx_hp L t hi2 hl v) (fun r h2 => r = none ∧ rx_ok2 L t h2 RV) := by
    intro d
    induction d with
    | zero =>
      intro i hi0 hi2 F K
      have : i = 6 := by omega
      subst this
      exact w200_remember_r_2 ⟨fun _ => l95 2400 0 (by omega) hi2 F K (fun c _ u _ h => by omega), fun g => absurd (by decide) g⟩
    | succ d ih =>
      intro i hi0 hi2 F K
      refine w200_remember_r_2 ⟨fun g => ?_, fun _ => ⟨fun _ => ⟨i, rfl, by omega, i, rfl, by omega, i, rfl, by omega, i, rfl, by omega, i, rfl, by omega, i, rfl, by omega, ?_⟩, fun g => absurd rfl g⟩⟩
      · rw [show (6 : Int32) = nI 6 from rfl] at g; exact absurd g (nI_ge (by omega) (by decide))
      · rw [nI_1, cf_ru_ne (show ¬ (100 = 121 ∧ i = i) by omega), cf_ru_ne (show ¬ (99 = 122 ∧ i = i) by omega), cf_ru_ne (show ¬ (99 = 121 ∧ i = i) by omega)]
        refine ih (i + 1) (by omega) _ (fun a b q => by rw [cf_ru_ne (by omega), cf_ru_ne (by omega), cf_ru_ne (by omega)]; exact F a b q) (fun c h1 h2 => ?_)
        by_cases e : c = i
        · subst e
          have hC := M.2.2.2.2.2.1 c h2
          have h7 := (V.2.2.2.2.2.2.1 c h2).2.2.2.2.2.2.1
          rw [cf_ru_ne (by omega), cf_ru_ne (by omega), cf_ru_eq, cf_ru_ne (by omega), cf_ru_eq, cf_ru_eq, F 94 c (by omega), F 100 c (by omega), F 99 c (by omega), hC.2.1, hC.2.2.2.2.2.1, hC.2.2.2.2.1, cf_nar7 h7]
          exact ⟨rfl, rfl, rfl⟩
        · rw [cf_ru_ne (by omega), cf_ru_ne (by omega), cf_ru_ne (by omega), cf_ru_ne (by omega), cf_ru_ne (by omega), cf_ru_ne (by omega), cf_ru_ne (by omega), cf_ru_ne (by omega), cf_ru_ne (by omega)]
          exact K c (by omega) h2
  exact w200_remember_r (l2 6 0 (by omega) hi (fun _ _ _ => rfl) (fun c h => by omega))
theorem c200t {S S2 : cf_S} (V : cf_V S) (M2 : cf_M S2 hi) (hr : ∀ a b, ¬ a = 4 → ¬ a = 7 → ¬ a = 8 → a < 20 → S2 a b = S a b) (K : cf_kpr S 6 hi) (W : cf_kpw S 2400 hi) (k : ∀ hi2, (∀ a b, ¬ (a = 94 ∨ a = 95 ∨ a = 99 ∨ a = 100) → hi2 a b = hi a b) → cf_M S hi2 → rx_CV L t 191 [.ref 90] hi2 hl v RV) : rx_CV L t 200 [.ref 90, .int 1] hi hl v RV := by
  have h6 := V.2.2.1
  have e0 : ∀ b, S2 0 b = S 0 b := fun b => hr 0 b (by omega) (by omega) (by omega) (by omega)
  have l95 : ∀ d i, i + d = 2400 → ∀ hi2 : Nat → Nat → Int32, (∀ a b, ¬ (a = 94 ∨ a = 95 ∨ a = 99 ∨ a = 100) → hi2 a b = hi a b) → (∀ c, c < S 0 2 → hi2 94 c = nI (S 4 c) ∧ hi2 100 c = nI (S 8 c) ∧ hi2 99 c = nI (S 7 c)) → (∀ c, c < S 0 2 → ∀ u, u < S 4 c → 400 * c + u < i → hi2 95 (400 * c + u) = nI (S (20 + c) u)) → rx_aw 200 95 [.ref 90, .int 1, .int (nI i)] [] (rx_hp L t hi2 hl v) (fun r h2 => r = none ∧ rx_ok2 L t h2 RV) := by
    intro d
    induction d with
    | zero =>
      intro i hi0 hi2 F G Y
      have : i = 2400 := by omega
      subst this
      refine w200_remember_r_95 ⟨fun _ => cv_wrap (k hi2 F ?_), fun g => absurd (by decide) g⟩
      obtain ⟨⟨a1, a2, a3, a4, a5, a6, a7⟩, b, d, e, g, h, kk⟩ := M2
      simp only [e0] at a1 a2 a3 a4 a5 a6 a7 b d h kk
      refine ⟨⟨a1, a2, a3, a4, (F _ _ (by omega)).trans a5, (F _ _ (by omega)).trans a6, (F _ _ (by omega)).trans a7⟩, (F _ _ (by omega)).trans b, (F _ _ (by omega)).trans d, fun q hq => by rw [← hr 1 q (by omega) (by omega) (by omega) (by omega)]; exact (F _ _ (by omega)).trans (e q hq), fun q hq => by rw [← hr 2 q (by omega) (by omega) (by omega) (by omega)]; exact (F _ _ (by omega)).trans (g q hq), fun o ho => ?_, fun s hs => by rw [← hr 12 s (by omega) (by omega) (by omega) (by omega)]; exact (F _ _ (by omega)).trans (kk s hs)⟩
      obtain ⟨f1, f2, f3, f4, f5, f6, f7, f8, f9, f10⟩ := h o ho
      rw [hr 3 o (by omega) (by omega) (by omega) (by omega)] at f1
      rw [hr 5 o (by omega) (by omega) (by omega) (by omega)] at f3 f4
      rw [hr 6 o (by omega) (by omega) (by omega) (by omega)] at f4
      rw [hr 9 o (by omega) (by omega) (by omega) (by omega)] at f8 f9 f10
      obtain ⟨g1, g2, g3⟩ := G o ho
      have h400 := (V.2.2.2.2.2.2.1 o ho).2.2.2.1
      exact ⟨(F _ _ (by omega)).trans f1, g1, (F _ _ (by omega)).trans f3, fun q => ⟨(F _ _ (by omega)).trans (f4 q).1, (F _ _ (by omega)).trans (f4 q).2⟩, g3, g2, fun j hj => Y o ho j hj (by omega), (F _ _ (by omega)).trans f8, (F _ _ (by omega)).trans f9, (F _ _ (by omega)).trans f10⟩
    | succ d ih =>
      intro i hi0 hi2 F G Y
      refine w200_remember_r_95 ⟨fun g => ?_, fun _ => ⟨fun g => absurd g (by decide), fun _ => ⟨i, rfl, by omega, i, rfl, by omega, ?_⟩⟩⟩
      · rw [show (2400 : Int32) = nI 2400 from rfl] at g; exact absurd g (nI_ge (by omega) (by decide))
      · rw [nI_1]
        refine ih (i + 1) (by omega) _ (fun a b q => by rw [cf_ru_ne (by omega)]; exact F a b q) (fun c hc => ?_) (fun c hc u hu hlt => ?_)
        · rw [cf_ru_ne (by omega), cf_ru_ne (by omega), cf_ru_ne (by omega)]; exact G c hc
        · by_cases e : 400 * c + u = i
          · rw [e, cf_ru_eq, ← e, F 123 _ (by omega)]
            have h400 := (V.2.2.2.2.2.2.1 c hc).2.2.2.1
            exact W c hc u hu (by omega)
          · rw [cf_ru_ne (by omega)]; exact Y c hc u hu (by omega)
  have l2 : ∀ d i, i + d = 6 → ∀ hi2 : Nat → Nat → Int32, (∀ a b, ¬ (a = 94 ∨ a = 95 ∨ a = 99 ∨ a = 100) → hi2 a b = hi a b) → (∀ c, c < i → c < S 0 2 → hi2 94 c = nI (S 4 c) ∧ hi2 100 c = nI (S 8 c) ∧ hi2 99 c = nI (S 7 c)) → rx_aw 200 2 [.ref 90, .int 1, .int (nI i)] [] (rx_hp L t hi2 hl v) (fun r h2 => r = none ∧ rx_ok2 L t h2 RV) := by
    intro d
    induction d with
    | zero =>
      intro i hi0 hi2 F G
      have : i = 6 := by omega
      subst this
      exact w200_remember_r_2 ⟨fun _ => l95 2400 0 (by omega) hi2 F (fun c hc => G c (by omega) hc) (fun c _ u _ h => by omega), fun g => absurd (by decide) g⟩
    | succ d ih =>
      intro i hi0 hi2 F G
      refine w200_remember_r_2 ⟨fun g => ?_, fun _ => ⟨fun g => absurd g (by decide), fun _ => ⟨i, rfl, by omega, i, rfl, by omega, i, rfl, by omega, i, rfl, by omega, i, rfl, by omega, i, rfl, by omega, ?_⟩⟩⟩
      · rw [show (6 : Int32) = nI 6 from rfl] at g; exact absurd g (nI_ge (by omega) (by decide))
      · rw [nI_1, cf_ru_ne (show ¬ (122 = 94 ∧ i = i) by omega), cf_ru_ne (show ¬ (124 = 100 ∧ i = i) by omega), cf_ru_ne (show ¬ (124 = 94 ∧ i = i) by omega)]
        refine ih (i + 1) (by omega) _ (fun a b q => by rw [cf_ru_ne (by omega), cf_ru_ne (by omega), cf_ru_ne (by omega)]; exact F a b q) (fun c h1 h2 => ?_)
        by_cases e : c = i
        · subst e
          obtain ⟨k1, k2, k3⟩ := K c (by omega) h2
          have h7 := (V.2.2.2.2.2.2.1 c h2).2.2.2.2.2.2.1
          rw [cf_ru_ne (by omega), cf_ru_ne (by omega), cf_ru_eq, cf_ru_ne (by omega), cf_ru_eq, cf_ru_eq, F 121 c (by omega), F 122 c (by omega), F 124 c (by omega), k1, k2, k3, cf_nar7 h7]
          exact ⟨rfl, rfl, rfl⟩
        · rw [cf_ru_ne (by omega), cf_ru_ne (by omega), cf_ru_ne (by omega), cf_ru_ne (by omega), cf_ru_ne (by omega), cf_ru_ne (by omega), cf_ru_ne (by omega), cf_ru_ne (by omega), cf_ru_ne (by omega)]
          exact G c (by omega) h2
  exact w200_remember_r (l2 6 0 (by omega) hi (fun _ _ _ => rfl) (fun c h => by omega))
end RXE
