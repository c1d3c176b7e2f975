/-! CartFloorModel.work: the reference's world. -/
/-- all STANCES and squares of SHELVES as the reference finds them; ck, nl: the cart that is checked, and what it can't lift -/
def cf_v (S : cf_S) (ck nl : Nat) : Nat → (Nat → Nat) × (Nat → Nat)
  | 0 => (S 9, fun s => cf_car (S 9) s (S 12 s) (S 0 2))
  | t + 1 => (fun c => (cf_nr S ck nl (cf_v S ck nl t).1 (cf_v S ck nl t).2 t c).getD ((cf_v S ck nl t).1 c), fun s => cf_car (fun c => (cf_nr S ck nl (cf_v S ck nl t).1 (cf_v S ck nl t).2 t c).getD ((cf_v S ck nl t).1 c)) s ((cf_v S ck nl t).2 s) (S 0 2))
def cf_vt (S : cf_S) (ck nl t c : Nat) : Nat := (cf_v S ck nl t).1 c
def cf_vp (S : cf_S) (ck nl t s : Nat) : Nat := (cf_v S ck nl t).2 s
def cf_vm (S : cf_S) (ck nl t c : Nat) : Bool := (cf_nr S ck nl (cf_v S ck nl t).1 (cf_v S ck nl t).2 t c).isSome
def cf_vd (S : cf_S) (ck nl t c : Nat) : Int64 := cf_std (S 0 0) (S 0 1) (cf_two (S 3 c)) (cf_vt S ck nl t c)
def cf_vq (S : cf_S) (ck nl t c : Nat) : Int64 := cf_tq (S 0 0) (S 0 1) (S 3 c) (cf_vt S ck nl t c) (cf_mt S c t)
def cf_vh (S : cf_S) (ck nl t c : Nat) : Int64 := cf_vd S ck nl t c ||| cf_vq S ck nl t c ||| (if t = 0 then 0 else cf_vq S ck nl (t - 1) c)
theorem cf_vv {S : cf_S} (V : cf_V S) (ck nl : Nat) : ∀ t, (∀ c, c < S 0 2 → cf_vs (S 0 0) (S 0 1) (cf_two (S 3 c)) (cf_vt S ck nl t c) ∧ cf_vt S ck nl t c / 256 ≤ S 0 3) ∧ (∀ s, s < S 0 3 → cf_vp S ck nl t s < S 0 0 * S 0 1)
  | 0 => ⟨fun c hc => ⟨(V.2.2.2.2.2.2.1 c hc).2.1, (V.2.2.2.2.2.2.1 c hc).2.2.1⟩, fun s hs => cf_car_lt (V.2.2.2.2.2.2.2 s hs) (S 0 2) (fun c hc => (V.2.2.2.2.2.2.1 c hc).2.1.1)⟩
  | t + 1 => by
    obtain ⟨h1, h2⟩ := cf_vv V ck nl t
    have g : ∀ c, c < S 0 2 → cf_vs (S 0 0) (S 0 1) (cf_two (S 3 c)) (cf_vt S ck nl (t + 1) c) ∧ cf_vt S ck nl (t + 1) c / 256 ≤ S 0 3 := by
      intro c hc
      show cf_vs (S 0 0) (S 0 1) (cf_two (S 3 c)) ((cf_nr S ck nl (cf_v S ck nl t).1 (cf_v S ck nl t).2 t c).getD ((cf_v S ck nl t).1 c)) ∧ ((cf_nr S ck nl (cf_v S ck nl t).1 (cf_v S ck nl t).2 t c).getD ((cf_v S ck nl t).1 c)) / 256 ≤ S 0 3
      cases hn : cf_nr S ck nl (cf_v S ck nl t).1 (cf_v S ck nl t).2 t c with
      | none => exact h1 c hc
      | some r =>
        refine cf_aft_vs (cf_V_wh V) (h1 c hc).1 (cf_mt_lt V hc t) (h1 c hc).2 ?_ hn
        cases cf_al ck nl c _
        · exact Nat.zero_le _
        · exact cf_ff_le _ _
    exact ⟨g, fun s hs => cf_car_lt (h2 s hs) (S 0 2) (fun c hc => (g c hc).1.1)⟩
/-- only what work() writes has changed -/
def cf_fw (hi hi2 : Nat → Nat → Int32) : Prop := ∀ a b, ¬ (a = 90 ∧ (b = 33 ∨ b = 34)) → ¬ (101 ≤ a ∧ a ≤ 104) → ¬ a = 108 → hi2 a b = hi a b
def cf_fwl (hl hl2 : Nat → Nat → Int64) : Prop := ∀ a b, ¬ a = 105 → ¬ a = 106 → hl2 a b = hl a b
/-- what the reference knows at tick j, the carts below i having gone on, the SHELVES below tick p being placed -/
def cf_J (S : cf_S) (ck nl j i p : Nat) (hi : Nat → Nat → Int32) : Prop :=
  (∀ c, c < S 0 2 → (∀ u, u < 402 → (u ≤ j ∨ (c < i ∧ u = j + 1)) → hi 101 (402 * c + u) = nI (cf_vt S ck nl u c % 64) ∧ hi 102 (402 * c + u) = nI (cf_vt S ck nl u c / 64 % 4) ∧ hi 103 (402 * c + u) = oI (cf_vt S ck nl u c / 256))
    ∧ (∀ u, u < 401 → (u < j ∨ (c < i ∧ u = j)) → hi 104 (402 * c + u) = cf_B (cf_vm S ck nl u c)))
  ∧ (∀ s, s < S 0 3 → ∀ u, u < p → hi 108 (402 * s + u) = nI (cf_vp S ck nl u s))
/-- what work() leaves -/
def cf_N (S : cf_S) (ck nl : Nat) (hi : Nat → Nat → Int32) (hl : Nat → Nat → Int64) : Prop :=
  (∀ c, c < S 0 2 → (∀ u, u < 402 → hi 101 (402 * c + u) = nI (cf_vt S ck nl u c % 64) ∧ hi 102 (402 * c + u) = nI (cf_vt S ck nl u c / 64 % 4) ∧ hi 103 (402 * c + u) = oI (cf_vt S ck nl u c / 256) ∧ hl 105 (402 * c + u) = cf_vd S ck nl u c ∧ hl 106 (402 * c + u) = cf_vh S ck nl u c)
    ∧ (∀ u, u < 401 → hi 104 (402 * c + u) = cf_B (cf_vm S ck nl u c)))
  ∧ (∀ s, s < S 0 3 → ∀ u, u < 402 → hi 108 (402 * s + u) = nI (cf_vp S ck nl u s))
theorem cf_M_fw {S : cf_S} {ck nl j i p : Nat} {hi hi2 : Nat → Nat → Int32} (V : cf_V S) (M : cf_M S hi) (F : cf_fw hi hi2) (J : cf_J S ck nl j i p hi2) : cf_M S hi2 := by
  have h6 := V.2.2.1
  have h12 := V.2.2.2.1
  obtain ⟨⟨a1, a2, a3, a4, a5, a6, a7⟩, b, c, d, e, f, g⟩ := M
  refine ⟨⟨a1, a2, a3, a4, (F 90 0 (by omega) (by omega) (by omega)).trans a5, (F 90 1 (by omega) (by omega) (by omega)).trans a6, (F 90 2 (by omega) (by omega) (by omega)).trans a7⟩, (F 90 6 (by omega) (by omega) (by omega)).trans b, (F 90 21 (by omega) (by omega) (by omega)).trans c, fun q hq => (F 91 q (by omega) (by omega) (by omega)).trans (d q hq), fun q hq => (F 92 q (by omega) (by omega) (by omega)).trans (e q hq), fun i hi0 => ?_, fun s hs => (F 107 s (by omega) (by omega) (by omega)).trans (g s hs)⟩
  obtain ⟨f1, f2, f3, f4, f5, f6, f7, f8⟩ := f i hi0
  have hJ := (J.1 i hi0).1 0 (by decide) (Or.inl (Nat.zero_le _))
  refine ⟨(F 93 i (by omega) (by omega) (by omega)).trans f1, (F 94 i (by omega) (by omega) (by omega)).trans f2, (F 96 i (by omega) (by omega) (by omega)).trans f3, fun q => ⟨(F 97 i (by omega) (by omega) (by omega)).trans (f4 q).1, (F 98 i (by omega) (by omega) (by omega)).trans (f4 q).2⟩, (F 99 i (by omega) (by omega) (by omega)).trans f5, (F 100 i (by omega) (by omega) (by omega)).trans f6, fun j hj => (F 95 _ (by omega) (by omega) (by omega)).trans (f7 j hj), hJ.1, hJ.2.1, hJ.2.2⟩
section RXE
variable {L : Nat} {t : List (Nat × Nat)} {v : Nat → Nat → Option Nat}
variable {RV : (Nat → Nat → Int32) → (Nat → Nat → Int64) → (Nat → Nat → Option Nat) → Prop}
theorem c191 {S : cf_S} {hi : Nat → Nat → Int32} {hl : Nat → Nat → Int64} (V : cf_V S) (M : cf_M S hi) {ck nl : Nat} (hck : hi 90 35 = oI ck) (hck2 : ck ≤ 6) (hnl : hi 90 36 = nI nl) (hnl2 : nl < 2 ^ 20)
    (k : ∀ hi2 hl2, cf_fw hi hi2 → cf_fwl hl hl2 → cf_M S hi2 → cf_N S ck nl hi2 hl2 → RV hi2 hl2 v) : rx_CV L t 191 [.ref 90] hi hl v RV := by
  have h6 := V.2.2.1
  have h12 := V.2.2.2.1
  have hwh := cf_V_wh V
  -- HOLDS and stands
  have loopE : ∀ d i, i + d = S 0 2 → ∀ (hi2 : Nat → Nat → Int32) (hl2 : Nat → Nat → Int64), cf_fw hi hi2 → cf_fwl hl hl2 → cf_J S ck nl 402 0 402 hi2 → (∀ c, c < i → ∀ u, u < 402 → hl2 105 (402 * c + u) = cf_vd S ck nl u c ∧ hl2 106 (402 * c + u) = cf_vh S ck nl u c) →
      rx_aw 191 53 [.ref 90, .int (nI i), rx_no, rx_no] [] (rx_hp L t hi2 hl2 v) (fun r h2 => r = none ∧ rx_ok2 L t h2 RV) := by
    intro d
    induction d with
    | zero =>
      intro i hi0 hi2 hl2 F Fl J H
      have : i = S 0 2 := by omega
      subst this
      have M2 := cf_M_fw V M F J
      refine w191_work_r_53 ⟨fun _ => c_retV (k hi2 hl2 F Fl M2 ⟨fun c hc => ⟨fun u hu => ?_, fun u hu => (J.1 c hc).2 u hu (by omega)⟩, J.2⟩), fun g => absurd ?_ g⟩
      · obtain ⟨j1, j2, j3⟩ := (J.1 c hc).1 u hu (by omega)
        exact ⟨j1, j2, j3, (H c hc u hu).1, (H c hc u hu).2⟩
      · rw [M2.2.1]; exact nI_le (Nat.le_refl _) (by omega)
    | succ d ih =>
      intro i hi0 hi2 hl2 F Fl J H
      have M2 := cf_M_fw V M F J
      have hkd := (V.2.2.2.2.2.2.1 i (by omega)).1
      refine w191_work_r_53 ⟨fun g => ?_, fun _ => ?_⟩
      · rw [M2.2.1] at g; exact absurd g (nI_ge (by omega) (by omega))
      -- HOLDS of cart i
      have l114 : ∀ e j, j + e = 402 → ∀ hl3 : Nat → Nat → Int64, cf_fwl hl hl3 → (∀ c, c < i → ∀ u, u < 402 → hl3 105 (402 * c + u) = cf_vd S ck nl u c ∧ hl3 106 (402 * c + u) = cf_vh S ck nl u c) → (∀ u, u < 402 → hl3 105 (402 * i + u) = cf_vd S ck nl u i) → (∀ u, u < j → hl3 106 (402 * i + u) = cf_vh S ck nl u i) →
          rx_aw 191 114 [.ref 90, .int (nI i), .int (nI j), rx_no] [] (rx_hp L t hi2 hl3 v) (fun r h2 => r = none ∧ rx_ok2 L t h2 RV) := by
        intro e
        induction e with
        | zero =>
          intro j hj hl3 Fl3 H3 G3 K3
          have : j = 402 := by omega
          subst this
          refine w191_work_r_114 ⟨fun _ => ?_, fun g => absurd (by decide) g⟩
          rw [nI_1]
          refine ih (i + 1) (by omega) hi2 hl3 F Fl3 J (fun c hc u hu => ?_)
          by_cases e : c = i
          · subst e; exact ⟨G3 u hu, K3 u hu⟩
          · exact H3 c (by omega) u hu
        | succ e ih3 =>
          intro j hj hl3 Fl3 H3 G3 K3
          obtain ⟨j1, j2, j3⟩ := (J.1 i (by omega)).1 j (by omega) (by omega)
          have hv := (cf_vv V ck nl j).1 i (by omega)
          have store : ∀ x : Int64, x = cf_vh S ck nl j i → rx_aw 191 114 [.ref 90, .int (nI i), .int (nI (j + 1)), rx_no] [] (rx_hp L t hi2 (rx_u hl3 106 (402 * i + j) x) v) (fun r h2 => r = none ∧ rx_ok2 L t h2 RV) := by
            intro x hx
            refine ih3 (j + 1) (by omega) _ (fun a b q1 q2 => ?_) (fun c hc u hu => ?_) (fun u hu => ?_) (fun u hu => ?_)
            · rw [cf_ru_ne (by omega)]; exact Fl3 a b q1 q2
            · rw [cf_ru_ne (by omega), cf_ru_ne (by omega)]; exact H3 c hc u hu
            · rw [cf_ru_ne (by omega)]; exact G3 u hu
            · by_cases e : u = j
              · subst e; rw [cf_ru_eq]; exact hx
              · rw [cf_ru_ne (by omega)]; exact K3 u (by omega)
          refine w191_work_r_114 ⟨fun g => ?_, fun _ => ⟨402 * i + j, cf_402, by omega, c196 (st := cf_vt S ck nl j) (sp := cf_vp S ck nl j) V M2 (by omega) (by omega) j1 j2 hv.1 (fun q => (J.1 i (by omega)).2 j q (by omega)) ⟨fun g => ⟨402 * i + j, cf_402, by omega, ?_⟩, fun g => ?_⟩⟩⟩
          · rw [show (402 : Int32) = nI 402 from rfl] at g; exact absurd g (nI_ge (by omega) (by omega))
          · rw [show (0 : Int32) = nI 0 from rfl, nI_eq (by omega) (by decide)] at g
            rw [nI_1, G3 j (by omega)]
            refine store _ ?_
            unfold cf_vh
            rw [if_pos g]; rfl
          · rw [show (0 : Int32) = nI 0 from rfl, nI_eq (by omega) (by decide)] at g
            obtain ⟨p1, p2, p3⟩ := (J.1 i (by omega)).1 (j - 1) (by omega) (by omega)
            have hv1 := (cf_vv V ck nl (j - 1)).1 i (by omega)
            rw [show (1 : Int32) = nI 1 from rfl, cf_nsub (show 1 ≤ j by omega)]
            refine c196 (st := cf_vt S ck nl (j - 1)) (sp := cf_vp S ck nl (j - 1)) V M2 (by omega) (by omega) p1 p2 hv1.1 (fun q => (J.1 i (by omega)).2 (j - 1) q (by omega)) ⟨402 * i + j, cf_402, by omega, ?_⟩
            rw [nI_add, G3 j (by omega)]
            refine store _ ?_
            unfold cf_vh
            rw [if_neg g]; rfl
      -- stands of cart i
      have l63 : ∀ e j, j + e = 402 → ∀ hl3 : Nat → Nat → Int64, cf_fwl hl hl3 → (∀ c, c < i → ∀ u, u < 402 → hl3 105 (402 * c + u) = cf_vd S ck nl u c ∧ hl3 106 (402 * c + u) = cf_vh S ck nl u c) → (∀ u, u < j → hl3 105 (402 * i + u) = cf_vd S ck nl u i) →
          rx_aw 191 63 [.ref 90, .int (nI i), .int (nI j), rx_no] [] (rx_hp L t hi2 hl3 v) (fun r h2 => r = none ∧ rx_ok2 L t h2 RV) := by
        intro e
        induction e with
        | zero =>
          intro j hj hl3 Fl3 H3 G3
          have : j = 402 := by omega
          subst this
          exact w191_work_r_63 ⟨fun _ => l114 402 0 (by omega) hl3 Fl3 H3 G3 (fun u hu => by omega), fun g => absurd (by decide) g⟩
        | succ e ih3 =>
          intro j hj hl3 Fl3 H3 G3
          obtain ⟨j1, j2, j3⟩ := (J.1 i (by omega)).1 j (by omega) (by omega)
          have hv := (cf_vv V ck nl j).1 i (by omega)
          refine w191_work_r_63 ⟨fun g => ?_, fun _ => ⟨i, rfl, by omega, 402 * i + j, cf_402, by omega, 402 * i + j, cf_402, by omega, ?_⟩⟩
          · rw [show (402 : Int32) = nI 402 from rfl] at g; exact absurd g (nI_ge (by omega) (by omega))
          · rw [(M2.2.2.2.2.2.1 i (by omega)).1, j1, j2, nI_1]
            refine c179 M2.1 hkd hv.1.1 (by omega) ⟨402 * i + j, cf_402, by omega, ?_⟩
            refine ih3 (j + 1) (by omega) _ (fun a b q1 q2 => ?_) (fun c hc u hu => ?_) (fun u hu => ?_)
            · rw [cf_ru_ne (by omega)]; exact Fl3 a b q1 q2
            · rw [cf_ru_ne (by omega), cf_ru_ne (by omega)]; exact H3 c hc u hu
            · by_cases e : u = j
              · subst e
                rw [cf_ru_eq, show cf_vt S ck nl u i % 64 + 64 * (cf_vt S ck nl u i / 64 % 4) = cf_vt S ck nl u i % 256 by omega, cf_std_m]; rfl
              · rw [cf_ru_ne (by omega)]; exact G3 u (by omega)
      exact l63 402 0 (by omega) hl2 Fl H (fun u hu => by omega)
  -- the ticks
  have loopD : ∀ d j, j + d = 402 → ∀ hi2 : Nat → Nat → Int32, cf_fw hi hi2 → cf_J S ck nl j 0 j hi2 →
      rx_aw 191 2 [.ref 90, .int (nI j), rx_no, rx_no] [] (rx_hp L t hi2 hl v) (fun r h2 => r = none ∧ rx_ok2 L t h2 RV) := by
    intro d
    induction d with
    | zero =>
      intro j hj hi2 F J
      have : j = 402 := by omega
      subst this
      exact w191_work_r_2 ⟨fun _ => loopE (S 0 2) 0 (by omega) hi2 hl F (fun _ _ _ _ => rfl) J (fun c hc => by omega), fun g => absurd (by decide) g⟩
    | succ d ih =>
      intro j hj hi2 F J
      have M2 := cf_M_fw V M F J
      have inner : ∀ e i, i + e = S 0 2 → ∀ hi2 : Nat → Nat → Int32, cf_fw hi hi2 → cf_J S ck nl j i (j + 1) hi2 →
          rx_aw 191 16 [.ref 90, .int (nI j), .int (nI i), rx_no] [] (rx_hp L t hi2 hl v) (fun r h2 => r = none ∧ rx_ok2 L t h2 RV) := by
        intro e
        induction e with
        | zero =>
          intro i hi0 hi2 F J
          have M2 := cf_M_fw V M F J
          have : i = S 0 2 := by omega
          subst this
          refine w191_work_r_16 ⟨fun _ => ?_, fun g => absurd ?_ g⟩
          · rw [nI_1]
            refine ih (j + 1) (by omega) hi2 F ⟨fun c hc => ⟨fun u hu h => (J.1 c hc).1 u hu (by omega), fun u hu h => (J.1 c hc).2 u hu (by omega)⟩, J.2⟩
          · rw [M2.2.1]; exact nI_le (Nat.le_refl _) (by omega)
        | succ e ih2 =>
          intro i hi0 hi2 F J
          have M2 := cf_M_fw V M F J
          refine w191_work_r_16 ⟨fun g => ?_, fun _ => ⟨fun g => ?_, fun g => ?_⟩⟩
          · rw [M2.2.1] at g; exact absurd g (nI_ge (by omega) (by omega))
          · rw [nI_1, show (402 : Int32) = nI 402 from rfl, nI_leI (by decide) (by omega)] at g
            rw [nI_1]
            refine ih (j + 1) (by omega) hi2 F ⟨fun c hc => ⟨fun u hu h => (J.1 c hc).1 u hu (by omega), fun u hu h => (J.1 c hc).2 u hu (by omega)⟩, J.2⟩
          · rw [nI_1, show (402 : Int32) = nI 402 from rfl, nI_leI (by decide) (by omega)] at g
            have A : cf_atR (S 0 2) (S 0 3) j (cf_vt S ck nl j) (cf_vp S ck nl j) hi2 := by
              refine ⟨fun c hc => ?_, fun s hs => ⟨J.2 s hs j (by omega), ?_⟩⟩
              · obtain ⟨j1, j2, j3⟩ := (J.1 c hc).1 j (by omega) (by omega)
                have := ((cf_vv V ck nl j).1 c hc).2
                exact ⟨j1, j2, j3, by omega⟩
              · have := (cf_vv V ck nl j).2 s hs
                omega
            have hv := (cf_vv V ck nl j).1 i (by omega)
            refine c193 V M2 ((F 90 35 (by omega) (by omega) (by omega)).trans hck) hck2 ((F 90 36 (by omega) (by omega) (by omega)).trans hnl) hnl2 (by omega) (by omega) A hv.1 hv.2 ?_
            intro hi3 F3 g1 g2 g3 g4
            rw [nI_1]
            refine ih2 (i + 1) (by omega) hi3 (fun a b q1 q2 q3 => (F3 a b q1 (by omega) (by omega)).trans (F a b q1 q2 q3)) ⟨fun c hc => ⟨fun u hu h => ?_, fun u hu h => ?_⟩, fun s hs u hu => ?_⟩
            · by_cases e : c = i ∧ u = j + 1
              · rw [e.1, e.2]; exact ⟨g2, g3, g4⟩
              · rw [F3 _ _ (by omega) (by omega) (by omega), F3 _ _ (by omega) (by omega) (by omega), F3 _ _ (by omega) (by omega) (by omega)]
                exact (J.1 c hc).1 u hu (by omega)
            · by_cases e : c = i ∧ u = j
              · rw [e.1, e.2]; exact g1
              · rw [F3 _ _ (by omega) (by omega) (by omega)]
                exact (J.1 c hc).2 u hu (by omega)
            · rw [F3 _ _ (by omega) (by omega) (by omega)]; exact J.2 s hs u hu
      refine w191_work_r_2 ⟨fun g => ?_, fun _ => ?_⟩
      · rw [show (402 : Int32) = nI 402 from rfl, nI_leI (by decide) (by omega)] at g; omega
      · refine c192 (st := cf_vt S ck nl j) (d := fun s => if j = 0 then S 12 s else cf_vp S ck nl (j - 1) s) M2.2.1 h6 M2.2.2.1 h12 (by omega) (fun c hc => ?_) (fun h0 s hs => ?_) (fun h0 s hs => ?_) ?_
        · obtain ⟨j1, j2, j3⟩ := (J.1 c hc).1 j (by omega) (by omega)
          have := ((cf_vv V ck nl j).1 c hc).2
          exact ⟨j1, j3, by omega⟩
        · show _ = nI (if j = 0 then S 12 s else _)
          rw [if_pos h0]; exact M2.2.2.2.2.2.2 s hs
        · show _ = nI (if j = 0 then S 12 s else _)
          rw [if_neg (by omega)]; exact J.2 s hs (j - 1) (by omega)
        · intro hi3 F3 G3
          refine inner (S 0 2) 0 (by omega) hi3 (fun a b q1 q2 q3 => (F3 a b (by omega)).trans (F a b q1 q2 q3)) ⟨fun c hc => ⟨fun u hu h => ?_, fun u hu h => ?_⟩, fun s hs u hu => ?_⟩
          · rw [F3 _ _ (by omega), F3 _ _ (by omega), F3 _ _ (by omega)]; exact (J.1 c hc).1 u hu (by omega)
          · rw [F3 _ _ (by omega)]; exact (J.1 c hc).2 u hu (by omega)
          · by_cases e : u = j
            · subst e
              rw [G3 s hs]
              congr 1
              by_cases h0 : u = 0
              · subst h0; rfl
              · obtain ⟨p, rfl⟩ : ∃ p, u = p + 1 := ⟨u - 1, by omega⟩
                show cf_car _ s (if p + 1 = 0 then S 12 s else cf_vp S ck nl (p + 1 - 1) s) (S 0 2) = _
                rw [if_neg (by omega), show p + 1 - 1 = p by omega]; rfl
            · rw [F3 _ _ (fun q => by obtain ⟨_, s2, hs2, q⟩ := q; omega)]; exact J.2 s hs u (by omega)
  refine w191_work_r (loopD 402 0 (by omega) hi (fun _ _ _ _ _ => rfl) ⟨fun c hc => ⟨fun u hu h => ?_, fun u hu h => by omega⟩, fun s hs u hu => by omega⟩)
  have : u = 0 := by omega
  subst this
  exact (M.2.2.2.2.2.1 c hc).2.2.2.2.2.2.2
end RXE
