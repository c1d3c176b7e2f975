/-! Search.findFaced, advance, turned, advanceLong. -/
/-- a layer in the class's rows -/
def cf_LY (hl : Nat → Nat → Int64) (u : Nat) (ly : Nat → Bool) : Prop := ∀ d, d < 4 → ∀ q, q < 64 → cf_has (hl 80 (4 * u + d)) q = ly (q + 64 * d)
/-- the next one -/
def cf_LN (S : cf_S) (c l u : Nat) (ly : Nat → Bool) (hl : Nat → Nat → Int64) : Prop := ∀ d, d < 4 → ∀ q, q < 64 → (cf_has (hl 80 (4 * (u + 1) + d)) q = true ↔ ∃ s m, ly s = true ∧ m < 5 ∧ cf_may S (cf_gT S (cf_sp S) (cf_hd S) c l) (cf_sd S) c u s m = some (q + 64 * d))
def cf_lyv (S : cf_S) (c l u : Nat) (ly : Nat → Bool) : Prop := ∀ s, ly s = true → cf_vs (S 0 0) (S 0 1) (cf_two (S 3 c)) s ∧ s < 256 ∧ (cf_std (S 0 0) (S 0 1) (cf_two (S 3 c)) s &&& cf_gT S (cf_sp S) (cf_hd S) c l u) = 0
theorem cf_std_in {w h : Nat} {two : Bool} {s : Nat} (hwh : w * h ≤ 64) (hs : cf_vs w h two s) : cf_in w h (cf_std w h two s) := by
  intro p hp
  cases two with
  | false => rw [cf_std1.mp hp]; exact hs.1
  | true =>
    cases e : cf_step w h (s % 64) (cf_opp (s / 64 % 4)) with
    | none => exact absurd e (hs.2 rfl)
    | some b =>
      rcases (cf_std2 hwh hs.1 e).mp hp with q | q
      · rw [q]; exact hs.1
      · rw [q]; exact cf_step_lt hs.1 e
theorem cf_shf_has {w h : Nat} (hwh : w * h ≤ 64) {x : Int64} {d q : Nat} (hd : d < 4) : cf_has (cf_shf w h x d) q = true ↔ q < w * h ∧ ∃ p, cf_step w h q (cf_opp d) = some p ∧ cf_has x p = true := by
  unfold cf_shf
  rw [cf_has_of, Bool.and_eq_true, Bool.and_eq_true, decide_eq_true_iff, decide_eq_true_iff]
  constructor
  · rintro ⟨h1, h2, h3⟩
    cases e : cf_step w h q (cf_opp d) with
    | none => rw [e] at h3; cases h3
    | some p => rw [e] at h3; exact ⟨h2, p, rfl, h3⟩
  · rintro ⟨h1, p, h2, h3⟩
    refine ⟨by omega, h1, ?_⟩
    rw [h2]; exact h3
theorem cf_shf_from {w h : Nat} (hwh : w * h ≤ 64) {x : Int64} {d q : Nat} (hd : d < 4) (hx : cf_in w h x) : cf_has (cf_shf w h x d) q = true ↔ ∃ p, p < w * h ∧ cf_step w h p d = some q ∧ cf_has x p = true := by
  rw [cf_shf_has hwh hd]
  constructor
  · rintro ⟨h1, p, h2, h3⟩
    have := cf_step_inv (cf_opp_lt d) h1 h2
    rw [cf_opp_opp hd] at this
    exact ⟨p, hx p h3, this, h3⟩
  · rintro ⟨p, h1, h2, h3⟩
    exact ⟨cf_step_lt h1 h2, p, cf_step_inv hd h1 h2, h3⟩
theorem cf_x2 {d : Nat} (h : d < 4) : nI d ^^^ (2 : Int32) = nI (cf_opp d) := by
  rcases cf_dd4 h with rfl | rfl | rfl | rfl <;> rfl
theorem cf_4i {u d : Nat} : (4 : Int32) * nI u + nI d = nI (4 * u + d) := by
  rw [show (4 : Int32) = nI 4 from rfl, cf_nmul, nI_add]
section RXE
variable {L : Nat} {t : List (Nat × Nat)} {hi : Nat → Nat → Int32} {hl : Nat → Nat → Int64} {v : Nat → Nat → Option Nat}
variable {RI : Int32 → (Nat → Nat → Int32) → (Nat → Nat → Int64) → (Nat → Nat → Option Nat) → Prop}
variable {RL : Int64 → (Nat → Nat → Int32) → (Nat → Nat → Int64) → (Nat → Nat → Option Nat) → Prop}
variable {RV : (Nat → Nat → Int32) → (Nat → Nat → Int64) → (Nat → Nat → Option Nat) → Prop}
theorem c75 {x : Int64} (k : ∀ hl2, (∀ a b, ¬ a = 83 → hl2 a b = hl a b) → (∀ d, d < 4 → hl2 83 d = x) → RV hi hl2 v) : rx_CV L t 75 [.ref 83, .long x] hi hl v RV := by
  have loop : ∀ d i, i + d = 4 → ∀ hl2 : Nat → Nat → Int64, (∀ a b, ¬ a = 83 → hl2 a b = hl a b) → (∀ d, d < i → hl2 83 d = x) → rx_aw 75 6 [.ref 83, .long x, rx_no, .int (nI i), .int 4] [] (rx_hp L t hi hl2 v) (fun r h2 => r = none ∧ rx_ok2 L t h2 RV) := by
    intro d
    induction d with
    | zero =>
      intro i hi0 hl2 F G
      have : i = 4 := by omega
      subst this
      exact w75_fill_at83_6 ⟨fun _ => c_retV (k hl2 F G), fun g => absurd (by decide) g⟩
    | succ d ih =>
      intro i hi0 hl2 F G
      refine w75_fill_at83_6 ⟨fun g => ?_, fun _ => ⟨i, rfl, by omega, ?_⟩⟩
      · rw [show (4 : Int32) = nI 4 from rfl] at g; exact absurd g (nI_ge (by omega) (by decide))
      · rw [nI_1]
        refine ih (i + 1) (by omega) _ (fun a b q => by rw [cf_ru_ne (by omega)]; exact F a b q) (fun d hd => ?_)
        by_cases e : d = i
        · subst e; exact cf_ru_eq
        · rw [cf_ru_ne (by omega)]; exact G d (by omega)
  exact w75_fill_at83 (loop 4 0 (by omega) hl (fun _ _ _ => rfl) (fun d hd => by omega))
theorem c74 {S : cf_S} {c l f tg wt : Nat} {last : Bool} (X : cf_CX S c l f tg wt last hi hl v) (hc : c < S 0 2) (hf : f ≤ 400) {u : Nat} (hu : f ≤ u) (hu2 : u ≤ 400)
    (k : ∀ hl2, (∀ a b, ¬ a = 83 → hl2 a b = hl a b) → (∀ d, d < 4 → ∀ q, q < 64 → cf_has (hl2 83 d) q = cf_fcd S c f u d q) → RV hi hl2 v) : rx_CV L t 74 [.ref 77, .int (nI u)] hi hl v RV := by
  obtain ⟨⟨X1, R⟩, hv, _, _, _, h9, _⟩ := X
  have V := X1.1
  have h6 := V.2.2.1
  have hwh := cf_V_wh V
  have K1 := X1.2.1
  have K3 := X1.2.2.2.1
  have C := X1.2.2.2.2.1
  have hclm := cf_clm_b V (c := c) (show f ≤ 401 by omega)
  refine w74_findFaced (c75 (fun hl1 F1 G1 => ?_))
  by_cases hcl : u < cf_clm S c f
  · have hset : u + 1 ≤ cf_set S := by
      have h1 : cf_mxo S c ≤ cf_mx (S 4) (S 0 2) := by
        refine cf_mx_le (fun o ho => ?_)
        split
        · exact Nat.zero_le _
        · exact cf_le_mx ho
      unfold cf_clm at hcl
      unfold cf_set; omega
    -- what is known of the others
    have sdr : ∀ o, o < S 0 2 → ∀ hl2 : Nat → Nat → Int64, (∀ a b, ¬ a = 83 → hl2 a b = hl a b) → hl2 (rx_ct o + 4) u = cf_sd S u o ∧ hl2 (rx_ct o + 4) (u + 1) = cf_sd S (u + 1) o := by
      intro o ho hl2 F2
      exact ⟨(F2 _ _ (by unfold rx_ct; omega)).trans ((R.2.1 o ho).1 u (by omega)).2.1, (F2 _ _ (by unfold rx_ct; omega)).trans ((R.2.1 o ho).1 (u + 1) hset).2.1⟩
    have body : ∀ (x d q : Nat), cf_fcd S c f u d q = cf_any (fun o => !decide (o = c) && (cf_has (cf_sd S (u + 1) o) q && !cf_has (cf_sd S u o) q) && (match cf_step (S 0 0) (S 0 1) q d with
        | none => false
        | some p => cf_has (cf_sd S u o) p && !cf_has (cf_sd S (u + 1) o) p)) (S 0 2) := by
      intro o d q
      unfold cf_fcd
      rw [decide_eq_true hcl, Bool.true_and]
      rfl
    have loop : ∀ d i, i + d = S 0 2 → ∀ hl2 : Nat → Nat → Int64, (∀ a b, ¬ a = 83 → hl2 a b = hl a b) → (∀ e, e < 4 → ∀ q, q < 64 → cf_has (hl2 83 e) q = cf_any (fun o => !decide (o = c) && (cf_has (cf_sd S (u + 1) o) q && !cf_has (cf_sd S u o) q) && (match cf_step (S 0 0) (S 0 1) q e with
        | none => false
        | some p => cf_has (cf_sd S u o) p && !cf_has (cf_sd S (u + 1) o) p)) i) →
        rx_aw 74 10 [.ref 77, .int (nI u), .int (nI i), rx_no, rx_no, rx_no, rx_no, rx_no, rx_no] [] (rx_hp L t hi hl2 v) (fun r h2 => r = none ∧ rx_ok2 L t h2 RV) := by
      intro d
      induction d with
      | zero =>
        intro i hi0 hl2 F G
        have : i = S 0 2 := by omega
        subst this
        refine w74_findFaced_10 ⟨fun _ => c_retV (k hl2 F (fun e he q hq => ?_)), fun g => absurd ?_ g⟩
        · rw [G e he q hq, body 0 e q]
        · rw [C.1]; exact nI_le (Nat.le_refl _) (by omega)
      | succ d ih =>
        intro i hi0 hl2 F G
        obtain ⟨s1, s2⟩ := sdr i (by omega) hl2 F
        have hvi := (cf_wv V u).1 i (by omega)
        have skip : (∀ e, e < 4 → ∀ q, q < 64 → (!decide (i = c) && (cf_has (cf_sd S (u + 1) i) q && !cf_has (cf_sd S u i) q) && (match cf_step (S 0 0) (S 0 1) q e with
            | none => false
            | some p => cf_has (cf_sd S u i) p && !cf_has (cf_sd S (u + 1) i) p)) = false) → rx_aw 74 10 [.ref 77, .int (nI u), .int (nI i + 1), rx_no, rx_no, rx_no, rx_no, rx_no, rx_no] [] (rx_hp L t hi hl2 v) (fun r h2 => r = none ∧ rx_ok2 L t h2 RV) := by
          intro hz
          rw [nI_1]
          refine ih (i + 1) (by omega) hl2 F (fun e he q hq => ?_)
          rw [cf_any, G e he q hq, hz e he q hq, Bool.or_false]
        refine w74_findFaced_10 ⟨fun g => ?_, fun _ => ⟨fun g => ?_, fun _ => ⟨i, rfl, by omega, u, rfl, by omega, u + 1, nI_1 u, by omega, Or.inr ⟨c, by omega, hv, fun g => skip ?_, fun g => ⟨fun g2 => skip ?_, fun g2 => ⟨u + 1, nI_1 u, by omega, u, rfl, by omega, ?_⟩⟩⟩⟩⟩⟩
        · rw [C.1] at g; exact absurd g (nI_ge (by omega) (by omega))
        · rw [h9] at g; exact absurd g (nI_ge hcl (by omega))
        · rw [cf_ct_inj] at g
          intro e he q hq
          rw [decide_eq_true g]; rfl
        · rw [cf_cmp0, s1, s2, cf_he0] at g2
          intro e he q hq
          cases es : cf_step (S 0 0) (S 0 1) q e with
          | none => rw [Bool.and_false]
          | some p =>
            dsimp only
            have : (cf_has (cf_sd S u i) p && !cf_has (cf_sd S (u + 1) i) p) = false := by
              by_cases hp : p < 64
              · have := g2 p hp
                rw [cf_hand, cf_hnot, decide_eq_true hp, Bool.true_and] at this
                exact this
              · rw [cf_hbig (x := cf_sd S u i) (by omega)]; rfl
            rw [this, Bool.and_false]
        · rw [cf_ct_inj] at g
          rw [s1, s2]
          have hin : cf_in (S 0 0) (S 0 1) (cf_sd S u i &&& (cf_sd S (u + 1) i ^^^ -1)) := cf_in_and (cf_std_in hwh hvi.1)
          have inner : ∀ d2 e, e + d2 = 4 → ∀ hl3 : Nat → Nat → Int64, (∀ a b, ¬ a = 83 → hl3 a b = hl a b) → (∀ e2, e2 < 4 → ∀ q, q < 64 → cf_has (hl3 83 e2) q = cf_any (fun o => !decide (o = c) && (cf_has (cf_sd S (u + 1) o) q && !cf_has (cf_sd S u o) q) && (match cf_step (S 0 0) (S 0 1) q e2 with
              | none => false
              | some p => cf_has (cf_sd S u o) p && !cf_has (cf_sd S (u + 1) o) p)) (if e2 < e then i + 1 else i)) →
              rx_aw 74 99 [.ref 77, .int (nI u), .int (nI i), .ref (rx_ct i), .long (cf_sd S u i &&& (cf_sd S (u + 1) i ^^^ -1)), rx_no, .long (cf_sd S (u + 1) i &&& (cf_sd S u i ^^^ -1)), rx_no, .int (nI e)] [] (rx_hp L t hi hl3 v) (fun r h2 => r = none ∧ rx_ok2 L t h2 RV) := by
            intro d2
            induction d2 with
            | zero =>
              intro e he hl3 F3 G3
              have : e = 4 := by omega
              subst this
              refine w74_findFaced_99 (by omega) ⟨fun _ => ?_, fun g => absurd (by decide) g⟩
              rw [nI_1]
              refine ih (i + 1) (by omega) hl3 F3 (fun e2 he2 q hq => ?_)
              have := G3 e2 he2 q hq
              rwa [if_pos he2] at this
            | succ d2 ih2 =>
              intro e he hl3 F3 G3
              refine w74_findFaced_99 (by omega) ⟨fun g => ?_, fun _ => ⟨e, rfl, by omega, ?_⟩⟩
              · rw [show (4 : Int32) = nI 4 from rfl] at g; exact absurd g (nI_ge (by omega) (by decide))
              · rw [cf_x2 (by omega)]
                have K3' : cf_K3 (S 0 0) (S 0 1) hl3 := by
                  intro q hq
                  rw [F3 7 2 (by omega), F3 7 3 (by omega), F3 7 4 (by omega)]; exact K3 q hq
                refine c12 K1 K3' hin (cf_opp_lt e) ⟨e, rfl, by omega, ?_⟩
                rw [nI_1]
                refine ih2 (e + 1) (by omega) _ (fun a b q => by rw [cf_ru_ne (by omega)]; exact F3 a b q) (fun e2 he2 q hq => ?_)
                by_cases ee : e2 = e
                · subst ee
                  rw [cf_ru_eq, if_pos (by omega), cf_hor, G3 e2 he2 q hq, if_neg (by omega), cf_any, decide_eq_false g]
                  congr 1
                  rw [cf_hand, cf_hand, cf_hnot, decide_eq_true hq, Bool.true_and, Bool.not_false, Bool.true_and]
                  cases hA : (cf_has (cf_sd S (u + 1) i) q && !cf_has (cf_sd S u i) q) with
                  | false => rw [Bool.false_and, Bool.false_and]
                  | true =>
                    rw [Bool.true_and, Bool.true_and]
                    rw [Bool.and_eq_true] at hA
                    have hqp : q < S 0 0 * S 0 1 := cf_std_in hwh ((cf_wv V (u + 1)).1 i (by omega)).1 q hA.1
                    apply Bool.eq_iff_iff.mpr
                    rw [cf_shf_has hwh (cf_opp_lt e2), cf_opp_opp he2]
                    constructor
                    · rintro ⟨_, p, h1, h2⟩
                      rw [h1]
                      dsimp only
                      rw [cf_hand, cf_hnot] at h2
                      simp only [Bool.and_eq_true] at h2 ⊢
                      exact ⟨h2.1, h2.2.2⟩
                    · intro h1
                      cases es : cf_step (S 0 0) (S 0 1) q e2 with
                      | none => rw [es] at h1; cases h1
                      | some p =>
                        rw [es] at h1
                        dsimp only at h1
                        rw [Bool.and_eq_true] at h1
                        have hp := cf_std_in hwh hvi.1 p h1.1
                        refine ⟨hqp, p, rfl, ?_⟩
                        rw [cf_hand, cf_hnot, h1.1, h1.2, decide_eq_true (show p < 64 by omega)]; rfl
                · rw [cf_ru_ne (by omega), G3 e2 he2 q hq]
                  by_cases h : e2 < e
                  · rw [if_pos h, if_pos (by omega)]
                  · rw [if_neg h, if_neg (by omega)]
          exact inner 4 0 (by omega) hl2 F (fun e2 he2 q hq => by rw [if_neg (by omega)]; exact G e2 he2 q hq)
    refine loop (S 0 2) 0 (by omega) hl1 F1 (fun e he q hq => ?_)
    rw [G1 e he, cf_h0]; rfl
  · have fin : rx_ok2 L t (rx_hp L t hi hl1 v) RV := by
      refine ⟨hi, hl1, v, rfl, k hl1 F1 (fun e he q hq => ?_)⟩
      unfold cf_fcd
      rw [G1 e he, cf_h0, decide_eq_false hcl]; rfl
    refine w74_findFaced_10 ⟨fun _ => ⟨rfl, fin⟩, fun _ => ⟨fun _ => ⟨rfl, fin⟩, fun g => absurd ?_ g⟩⟩
    rw [h9]; exact nI_le (by omega) (by omega)
/-- a layer's states lie on the floor -/
theorem cf_LY_in {S : cf_S} {c l u : Nat} {ly : Nat → Bool} (hv : cf_lyv S c l u ly) (Y : cf_LY hl u ly) {d : Nat} (hd : d < 4) : cf_in (S 0 0) (S 0 1) (hl 80 (4 * u + d)) := by
  intro p hp
  by_cases h : p < 64
  · rw [Y d hd p h] at hp
    have := (hv _ hp).1.1
    rwa [(cf_cod h hd).1] at this
  · rw [cf_hbig (by omega)] at hp; cases hp
theorem c73 {S : cf_S} {c l f tg wt : Nat} {last : Bool} (X : cf_CX S c l f tg wt last hi hl v) (hc : c < S 0 2) (hE : S 4 c ≤ f) (hf : f ≤ 400) {u : Nat} (hu : f ≤ u) (hu2 : u < 400) (h2 : cf_two (S 3 c) = false) {ly : Nat → Bool} (hv : cf_lyv S c l u ly) (Y : cf_LY hl u ly)
    (k : ∀ hl2, (∀ a b, ¬ a = 83 → ¬ (a = 80 ∧ 4 * (u + 1) ≤ b ∧ b < 4 * (u + 1) + 4) → hl2 a b = hl a b) → cf_LN S c l u ly hl2 → RV hi hl2 v) : rx_CV L t 73 [.ref 77, .int (nI u)] hi hl v RV := by
  have V := X.1.1.1
  have hwh := cf_V_wh V
  refine w73_advance (c74 X hc hf hu (by omega) (fun hl1 F1 G1 => ?_))
  have X1 : cf_CX S c l f tg wt last hi hl1 v := cf_CX_fx X ⟨fun _ _ _ => rfl, fun a b q => F1 a b (by omega)⟩
  have K1 := X1.1.1.2.1
  rw [nI_1]
  refine c71 X1 (by omega) hE (by omega) (by omega) ?_
  have Y1 : cf_LY hl1 u ly := fun d hd q hq => by rw [F1 80 _ (by omega)]; exact Y d hd q hq
  have e0 : (4 : Int32) * nI u = nI (4 * u) := by rw [show (4 : Int32) = nI 4 from rfl, cf_nmul]
  refine ⟨4 * u, e0, by omega, 4 * u + 1, cf_4i (d := 1), by omega, 4 * u + 2, cf_4i (d := 2), by omega, 4 * u + 3, cf_4i (d := 3), by omega, ?_⟩
  rw [e0]
  generalize hany : hl1 80 (4 * u) ||| hl1 80 (4 * u + 1) ||| hl1 80 (4 * u + 2) ||| hl1 80 (4 * u + 3) = any
  have hin : cf_in (S 0 0) (S 0 1) any := by
    rw [← hany]
    exact cf_in_or (cf_in_or (cf_in_or (cf_LY_in (d := 0) hv Y1 (by decide)) (cf_LY_in (d := 1) hv Y1 (by decide))) (cf_LY_in (d := 2) hv Y1 (by decide))) (cf_LY_in (d := 3) hv Y1 (by decide))
  have hanyh : ∀ p, p < 64 → (cf_has any p = true ↔ ∃ e, e < 4 ∧ ly (p + 64 * e) = true) := by
    intro p hp
    have y0 := Y1 0 (by decide) p hp
    have y1 := Y1 1 (by decide) p hp
    have y2 := Y1 2 (by decide) p hp
    have y3 := Y1 3 (by decide) p hp
    rw [Nat.add_zero] at y0
    rw [← hany, cf_hor, cf_hor, cf_hor, y0, y1, y2, y3, Bool.or_eq_true, Bool.or_eq_true, Bool.or_eq_true]
    constructor
    · rintro (((h | h) | h) | h)
      · exact ⟨0, by decide, h⟩
      · exact ⟨1, by decide, h⟩
      · exact ⟨2, by decide, h⟩
      · exact ⟨3, by decide, h⟩
    · rintro ⟨e, he, h⟩
      rcases cf_dd4 he with rfl | rfl | rfl | rfl
      · exact Or.inl (Or.inl (Or.inl h))
      · exact Or.inl (Or.inl (Or.inr h))
      · exact Or.inl (Or.inr h)
      · exact Or.inr h
  have loop : ∀ d i, i + d = 4 → ∀ hl2 : Nat → Nat → Int64, (∀ a b, ¬ (a = 80 ∧ 4 * (u + 1) ≤ b ∧ b < 4 * (u + 1) + 4) → hl2 a b = hl1 a b) → (∀ e, e < i → ∀ q, q < 64 → (cf_has (hl2 80 (4 * (u + 1) + e)) q = true ↔ ∃ s m, ly s = true ∧ m < 5 ∧ cf_may S (cf_gT S (cf_sp S) (cf_hd S) c l) (cf_sd S) c u s m = some (q + 64 * e))) →
      rx_aw 73 64 [.ref 77, .int (nI u), .long (cf_blk S c l (u + 1) ^^^ -1), rx_no, .int (nI (4 * u)), .long any, rx_no, .int (nI i)] [] (rx_hp L t hi hl2 v) (fun r h2 => r = none ∧ rx_ok2 L t h2 RV) := by
    intro d
    induction d with
    | zero =>
      intro i hi0 hl2 F G
      have : i = 4 := by omega
      subst this
      refine w73_advance_64 ⟨fun _ => c_retV (k hl2 (fun a b q1 q2 => (F a b q2).trans (F1 a b q1)) G), fun g => absurd (by decide) g⟩
    | succ d ih =>
      intro i hi0 hl2 F G
      refine w73_advance_64 ⟨fun g => ?_, fun _ => ⟨4 * u + i, nI_add _ _, by omega, i, rfl, by omega, ?_⟩⟩
      · rw [show (4 : Int32) = nI 4 from rfl] at g; exact absurd g (nI_ge (by omega) (by decide))
      · have K3' : cf_K3 (S 0 0) (S 0 1) hl2 := by
          intro q hq
          rw [F 7 2 (by omega), F 7 3 (by omega), F 7 4 (by omega)]; exact X1.1.1.2.2.2.1 q hq
        refine c12 K1 K3' (cf_in_and hin) (by omega) ⟨4 * (u + 1) + i, ?_, by omega, ?_⟩
        · rw [show (4 : Int32) = nI 4 from rfl, nI_add, nI_add]; congr 1
        · rw [nI_1]
          refine ih (i + 1) (by omega) _ (fun a b q => by rw [cf_ru_ne (by omega)]; exact F a b q) (fun e he q hq => ?_)
          by_cases ee : e = i
          · subst ee
            rw [cf_ru_eq, F 80 (4 * u + e) (by omega), F 83 e (by omega), cf_hand, cf_hor, cf_hnot, decide_eq_true hq, Bool.true_and, Y1 e (by omega) q hq, cf_adv1 V hE h2 hv hq (by omega), Bool.and_eq_true, Bool.or_eq_true, Bool.not_eq_true']
            constructor
            · rintro ⟨h1, h3⟩
              refine ⟨h3, ?_⟩
              rcases h1 with h1 | h1
              · exact Or.inl h1
              · right
                rw [cf_shf_from hwh (by omega) (cf_in_and hin)] at h1
                obtain ⟨p, hp, es, hx⟩ := h1
                rw [cf_hand, cf_hnot, Bool.and_eq_true, Bool.and_eq_true, Bool.not_eq_true'] at hx
                have hp64 : p < 64 := by omega
                obtain ⟨e2, he2, hs⟩ := (hanyh p hp64).mp hx.1
                refine ⟨p + 64 * e2, hs, ?_, ?_⟩
                · rw [(cf_cod hp64 he2).1]; exact es
                · rw [(cf_cod hp64 he2).1, ← G1 e (by omega) p hp64]; exact hx.2.2
            · rintro ⟨h3, h1⟩
              refine ⟨?_, h3⟩
              rcases h1 with h1 | ⟨s, hs, es, hfc⟩
              · exact Or.inl h1
              · right
                obtain ⟨v1, v2, _⟩ := hv s hs
                rw [cf_shf_from hwh (by omega) (cf_in_and hin)]
                refine ⟨s % 64, v1.1, es, ?_⟩
                rw [cf_hand, cf_hnot, G1 e (by omega) (s % 64) (by omega), hfc, decide_eq_true (show s % 64 < 64 by omega), (hanyh (s % 64) (by omega)).mpr ⟨s / 64, by omega, by rw [show s % 64 + 64 * (s / 64) = s by omega]; exact hs⟩]; rfl
          · rw [cf_ru_ne (by omega)]; exact G e (by omega) q hq
  exact loop 4 0 (by omega) hl1 (fun _ _ _ => rfl) (fun e he => by omega)
theorem c72 {w h : Nat} (K1 : cf_K1 w h hi) (K3 : cf_K3 w h hl) {x y : Int64} {e d : Nat} (he : e < 4) (hd : d < 4) (hx : cf_in w h x) (hy : cf_in w h y)
    (k : ∀ z, (∀ q, cf_has z q = true ↔ ∃ p b kk, cf_has x p = true ∧ cf_step w h p (cf_opp e) = some b ∧ cf_step w h p d = some kk ∧ cf_step w h b d = some q ∧ ∀ r, (r = p ∨ r = b ∨ r = kk ∨ r = q) → cf_has y r = true) → RL z hi hl v) : rx_CL L t 72 [.ref 77, .long x, .int (nI e), .int (nI d), .long y] hi hl v RL := by
  have hwh := cf_wh K1
  refine w72_turned ?_
  rw [cf_x2 hd, cf_x2 he]
  refine c12 K1 K3 hy (cf_opp_lt d) (c12 K1 K3 hy he (c12 K1 K3 (cf_shf_in _ _ _ _) he (c12 K1 K3 (cf_in_and (cf_in_and (cf_in_and (cf_in_and hx)))) (cf_opp_lt e) (c12 K1 K3 (cf_shf_in _ _ _ _) hd (c_retL (k _ (fun q => ?_)))))))
  rw [cf_shf_from hwh hd (cf_shf_in _ _ _ _)]
  constructor
  · rintro ⟨b, hb, e1, h1⟩
    rw [cf_shf_from hwh (cf_opp_lt e) (cf_in_and (cf_in_and (cf_in_and (cf_in_and hx))))] at h1
    obtain ⟨p, hp, e2, h2⟩ := h1
    simp only [cf_hand, Bool.and_eq_true] at h2
    obtain ⟨⟨⟨⟨a1, a2⟩, a3⟩, a4⟩, a5⟩ := h2
    rw [cf_shf_has hwh he] at a3 a5
    rw [cf_shf_has hwh (cf_opp_lt d), cf_opp_opp hd] at a4
    obtain ⟨_, b2, f1, f2⟩ := a3
    obtain ⟨_, kk, f3, f4⟩ := a4
    obtain ⟨_, b3, f5, f6⟩ := a5
    rw [e2] at f1 f5
    cases f1
    cases f5
    rw [cf_shf_has hwh (cf_opp_lt d), cf_opp_opp hd] at f6
    obtain ⟨_, n, f7, f8⟩ := f6
    rw [e1] at f7
    cases f7
    refine ⟨p, b, kk, a1, e2, f3, e1, fun r hr => ?_⟩
    rcases hr with q | q | q | q <;> rw [q] <;> assumption
  · rintro ⟨p, b, kk, a1, e2, f3, e1, hr⟩
    have hp := hx p a1
    have hb := cf_step_lt hp e2
    refine ⟨b, hb, e1, ?_⟩
    rw [cf_shf_from hwh (cf_opp_lt e) (cf_in_and (cf_in_and (cf_in_and (cf_in_and hx))))]
    refine ⟨p, hp, e2, ?_⟩
    simp only [cf_hand, Bool.and_eq_true]
    refine ⟨⟨⟨⟨a1, hr p (Or.inl rfl)⟩, ?_⟩, ?_⟩, ?_⟩
    · rw [cf_shf_has hwh he]; exact ⟨hp, b, e2, hr b (Or.inr (Or.inl rfl))⟩
    · rw [cf_shf_has hwh (cf_opp_lt d), cf_opp_opp hd]; exact ⟨hp, kk, f3, hr kk (Or.inr (Or.inr (Or.inl rfl)))⟩
    · rw [cf_shf_has hwh he]
      refine ⟨hp, b, e2, ?_⟩
      rw [cf_shf_has hwh (cf_opp_lt d), cf_opp_opp hd]; exact ⟨hb, q, e1, hr q (Or.inr (Or.inr (Or.inr rfl)))⟩
theorem cf_a3 {d j : Nat} (hd : d < 4) (hj : j < 4) : (nI d + nI j) &&& (3 : Int32) = nI ((d + j) % 4) := by
  rw [nI_add, show (3 : Int32) = nI 3 from rfl, cf_nand, cf_and3]
theorem c70 {S : cf_S} {c l f tg wt : Nat} {last : Bool} (X : cf_CX S c l f tg wt last hi hl v) (hc : c < S 0 2) (hE : S 4 c ≤ f) (hf : f ≤ 400) {u : Nat} (hu : f ≤ u) (hu2 : u < 400) (h2 : cf_two (S 3 c) = true) {ly : Nat → Bool} (hv : cf_lyv S c l u ly) (Y : cf_LY hl u ly)
    (k : ∀ hl2, (∀ a b, ¬ a = 83 → ¬ (a = 80 ∧ 4 * (u + 1) ≤ b ∧ b < 4 * (u + 1) + 4) → hl2 a b = hl a b) → cf_LN S c l u ly hl2 → RV hi hl2 v) : rx_CV L t 70 [.ref 77, .int (nI u)] hi hl v RV := by
  have V := X.1.1.1
  have hwh := cf_V_wh V
  have K1 := X.1.1.2.1
  refine w70_advanceLong ?_
  rw [nI_1]
  refine c71 X (by omega) hE (by omega) (by omega) (c71 X (by omega) hE hu (by omega) ?_)
  generalize hfr : cf_blk S c l (u + 1) ^^^ -1 = fr
  generalize hbo : fr &&& (cf_blk S c l u ^^^ -1) = bo
  have frh : ∀ q, q < 64 → (cf_has fr q = true ↔ cf_has (cf_blk S c l (u + 1)) q = false) := by
    intro q hq
    rw [← hfr, cf_hnot, decide_eq_true hq, Bool.true_and, Bool.not_eq_true']
  have boh : ∀ q, q < 64 → (cf_has bo q = true ↔ cf_has (cf_blk S c l u) q = false ∧ cf_has (cf_blk S c l (u + 1)) q = false) := by
    intro q hq
    rw [← hbo, cf_hand, Bool.and_eq_true, frh q hq, cf_hnot, decide_eq_true hq, Bool.true_and, Bool.not_eq_true']
    exact and_comm
  have frin : cf_in (S 0 0) (S 0 1) fr := by
    intro q hq
    by_cases h : q < 64
    · exact ((cf_blk_free h).mp ((frh q h).mp hq)).1
    · rw [cf_hbig (by omega)] at hq; cases hq
  have boin : cf_in (S 0 0) (S 0 1) bo := by rw [← hbo]; exact cf_in_and frin
  have loop : ∀ d i, i + d = 4 → ∀ hl2 : Nat → Nat → Int64, (∀ a b, ¬ (a = 80 ∧ 4 * (u + 1) ≤ b ∧ b < 4 * (u + 1) + 4) → hl2 a b = hl a b) → (∀ e, e < i → ∀ q, q < 64 → (cf_has (hl2 80 (4 * (u + 1) + e)) q = true ↔ ∃ s m, ly s = true ∧ m < 5 ∧ cf_may S (cf_gT S (cf_sp S) (cf_hd S) c l) (cf_sd S) c u s m = some (q + 64 * e))) →
      rx_aw 70 28 [.ref 77, .int (nI u), .long fr, rx_no, .long bo, rx_no, .int (nI i), rx_no, rx_no, rx_no, rx_no, rx_no, rx_no] [] (rx_hp L t hi hl2 v) (fun r h2 => r = none ∧ rx_ok2 L t h2 RV) := by
    intro d
    induction d with
    | zero =>
      intro i hi0 hl2 F G
      have : i = 4 := by omega
      subst this
      refine w70_advanceLong_28 ⟨fun _ => c_retV (k hl2 (fun a b q1 q2 => F a b q2) G), fun g => absurd (by decide) g⟩
    | succ d ih =>
      intro i hi0 hl2 F G
      have hi4 : i < 4 := by omega
      have K3' : cf_K3 (S 0 0) (S 0 1) hl2 := by
        intro q hq
        rw [F 7 2 (by omega), F 7 3 (by omega), F 7 4 (by omega)]; exact X.1.1.2.2.2.1 q hq
      have Y2 : cf_LY hl2 u ly := fun d hd q hq => by rw [F 80 _ (by omega)]; exact Y d hd q hq
      have inh := cf_LY_in hv Y2 hi4
      refine w70_advanceLong_28 ⟨fun g => ?_, fun _ => ⟨4 * u + i, cf_4i, by omega, c12 K1 K3' inh hi4 ?_⟩⟩
      · rw [show (4 : Int32) = nI 4 from rfl] at g; exact absurd g (nI_ge (by omega) (by decide))
      rw [cf_x2 hi4]
      refine c12 K1 K3' inh (cf_opp_lt i) (c12 K1 K3' frin hi4 ⟨4 * u + (i + 1) % 4, ?_, by omega, ?_⟩)
      · rw [show (1 : Int32) = nI 1 from rfl, cf_a3 hi4 (by decide), cf_4i]
      rw [show (1 : Int32) = nI 1 from rfl, cf_a3 hi4 (by decide)]
      refine c72 K1 K3' (by omega) hi4 (cf_LY_in hv Y2 (by omega)) boin (fun z1 Hz1 => ⟨4 * u + (i + 3) % 4, ?_, by omega, ?_⟩)
      · rw [show (3 : Int32) = nI 3 from rfl, ← show (3 : Int32) = nI 3 from rfl, show nI i + (3 : Int32) = nI i + nI 3 from rfl, cf_a3 hi4 (by decide), cf_4i]
      rw [show nI i + (3 : Int32) = nI i + nI 3 from rfl, cf_a3 hi4 (by decide)]
      refine c72 K1 K3' (by omega) hi4 (cf_LY_in hv Y2 (by omega)) boin (fun z2 Hz2 => ⟨4 * (u + 1) + i, ?_, by omega, ?_⟩)
      · rw [show (4 : Int32) = nI 4 from rfl, cf_nmul, nI_add, nI_add]; congr 1
      rw [nI_add]
      refine ih (i + 1) (by omega) _ (fun a b q => by rw [cf_ru_ne (by omega)]; exact F a b q) (fun e he q hq => ?_)
      by_cases ee : e = i
      · subst ee
        have trn : ∀ (z : Int64) (e2 : Nat), e2 < 4 → (∀ q, cf_has z q = true ↔ ∃ p b kk, cf_has (hl2 80 (4 * u + e2)) p = true ∧ cf_step (S 0 0) (S 0 1) p (cf_opp e2) = some b ∧ cf_step (S 0 0) (S 0 1) p e = some kk ∧ cf_step (S 0 0) (S 0 1) b e = some q ∧ ∀ r, (r = p ∨ r = b ∨ r = kk ∨ r = q) → cf_has bo r = true) → (cf_has z q = true ↔ cf_trn S c l u ly q e e2) := by
          intro z e2 he2 Hz
          rw [Hz q]
          unfold cf_trn
          constructor
          · rintro ⟨p, b, kk, h1, h3, h4, h5, h6⟩
            have hp := cf_LY_in hv Y2 he2 p h1
            have hp64 : p < 64 := by omega
            refine ⟨p, b, kk, by rw [← Y2 e2 he2 p hp64]; exact h1, hp64, h3, h4, h5, fun x hx => ?_⟩
            have := h6 x hx
            have hx64 : x < 64 := by have := boin x this; omega
            exact (boh x hx64).mp this
          · rintro ⟨p, b, kk, h1, hp64, h3, h4, h5, h6⟩
            refine ⟨p, b, kk, by rw [Y2 e2 he2 p hp64]; exact h1, h3, h4, h5, fun x hx => ?_⟩
            have hpl : p < S 0 0 * S 0 1 := by
              have := (hv _ h1).1.1
              rwa [(cf_cod hp64 he2).1] at this
            have hx64 : x < 64 := by
              rcases hx with r | r | r | r
              · omega
              · rw [r]; exact cf_step_64 hwh hpl h3
              · rw [r]; exact cf_step_64 hwh hpl h4
              · omega
            exact (boh x hx64).mpr (h6 x hx)
        rw [cf_ru_eq, cf_hor, cf_hor, Bool.or_eq_true, Bool.or_eq_true, trn z1 _ (by omega) Hz1, trn z2 _ (by omega) Hz2, cf_adv2 V h2 hv hq hi4]
        simp only [cf_hand, cf_hor, Bool.and_eq_true, Bool.or_eq_true]
        rw [cf_shf_from hwh hi4 inh, cf_shf_from hwh (cf_opp_lt e) inh, cf_shf_has hwh hi4, frh q hq, Y2 e hi4 q hq, or_assoc]
        refine or_congr ?_ Iff.rfl
        constructor
        · rintro ⟨⟨h1, h3⟩, h4, b, h5, h6⟩
          have hb64 : b < 64 := by have := frin b h6; omega
          refine ⟨h3, ⟨b, h5, (frh b hb64).mp h6⟩, ?_⟩
          rcases h1 with (h1 | ⟨p, hp, e1, h1⟩) | ⟨p, hp, e1, h1⟩
          · exact Or.inl h1
          · exact Or.inr (Or.inl ⟨p, by omega, e1, by rw [← Y2 e hi4 p (by omega)]; exact h1⟩)
          · exact Or.inr (Or.inr ⟨p, by omega, e1, by rw [← Y2 e hi4 p (by omega)]; exact h1⟩)
        · rintro ⟨h3, ⟨b, h5, h6⟩, h1⟩
          have hql := ((cf_blk_free hq).mp h3).1
          have hb64 := cf_step_64 hwh hql h5
          refine ⟨⟨?_, h3⟩, hql, b, h5, (frh b hb64).mpr h6⟩
          rcases h1 with h1 | ⟨p, hp, e1, h1⟩ | ⟨p, hp, e1, h1⟩
          · exact Or.inl (Or.inl h1)
          · have hpl : p < S 0 0 * S 0 1 := by have := (hv _ h1).1.1; rwa [(cf_cod hp hi4).1] at this
            exact Or.inl (Or.inr ⟨p, hpl, e1, by rw [Y2 e hi4 p hp]; exact h1⟩)
          · have hpl : p < S 0 0 * S 0 1 := by have := (hv _ h1).1.1; rwa [(cf_cod hp hi4).1] at this
            exact Or.inr ⟨p, hpl, e1, by rw [Y2 e hi4 p hp]; exact h1⟩
      · rw [cf_ru_ne (by omega)]; exact G e (by omega) q hq
  exact loop 4 0 (by omega) hl (fun _ _ _ => rfl) (fun e he => by omega)
end RXE
