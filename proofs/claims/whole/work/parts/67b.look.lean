/-! CartFloorModel.look: what is taken at each tick, and ever after. -/
def cf_othg (n : Nat) (hd : Nat → Nat → Int64) (c u : Nat) : Int64 := cf_un (fun o => if o = c then 0 else hd u o) n
def cf_rowg (S : cf_S) (sp : Nat → Nat → Nat) (c l u : Nat) : Int64 := bif !decide (S 3 c = 1 ∧ l = 0) then cf_sqg (S 0 3) sp u l else 0
/-- the union of the last k of 402 sets -/
def cf_suf (f : Nat → Int64) : Nat → Int64
  | 0 => 0
  | k + 1 => f (401 - k) ||| cf_suf f k
def cf_LK (S : cf_S) (sp : Nat → Nat → Nat) (hd : Nat → Nat → Int64) (c l i : Nat) (hl : Nat → Nat → Int64) : Prop :=
  hl 90 43 = cf_bar S ∧ ∀ u, i ≤ u → u < 402 → hl 117 u = cf_othg (S 0 2) hd c u ∧ hl 119 u = cf_rowg S sp c l u ∧ hl 118 u = cf_suf (cf_othg (S 0 2) hd c) (402 - u) ∧ hl 120 u = cf_suf (cf_rowg S sp c l) (402 - u)
def cf_flk (hl hl2 : Nat → Nat → Int64) : Prop := ∀ a b, ¬ (a = 90 ∧ b = 43) → ¬ (117 ≤ a ∧ a ≤ 120) → hl2 a b = hl a b
section RXE
variable {L : Nat} {t : List (Nat × Nat)} {hi : Nat → Nat → Int32} {hl : Nat → Nat → Int64} {v : Nat → Nat → Option Nat}
variable {RV : (Nat → Nat → Int32) → (Nat → Nat → Int64) → (Nat → Nat → Option Nat) → Prop}
theorem c166 {S : cf_S} (V : cf_V S) (M : cf_M S hi) {st sp : Nat → Nat → Nat} {sd hd : Nat → Nat → Int64} (W : cf_RW (S 0 2) (S 0 3) st sp sd hd hi hl) {c j0 : Nat} (hc : c < S 0 2) (hj0 : j0 < 402)
    (k : ∀ hl2, cf_flk hl hl2 → cf_LK S sp hd c (st j0 c / 256) 0 hl2 → RV hi hl2 v) : rx_CV L t 166 [.ref 90, .int (nI c), .int (nI j0)] hi hl v RV := by
  have h6 := V.2.2.1
  have h12 := V.2.2.2.1
  obtain ⟨_, _, w3, _, _, w6⟩ := W.1 c hc j0 hj0
  generalize hll : st j0 c / 256 = l at *
  have hlb : l < 2 ^ 20 := by omega
  have W2 : ∀ hl2, cf_flk hl hl2 → cf_RW (S 0 2) (S 0 3) st sp sd hd hi hl2 := by
    intro hl2 F
    refine ⟨fun c hc u hu => ?_, W.2⟩
    obtain ⟨a, b, d, e, f, g⟩ := W.1 c hc u hu
    exact ⟨a, b, d, (F 105 _ (by omega) (by omega)).trans e, (F 106 _ (by omega) (by omega)).trans f, g⟩
  have loop : ∀ i, i ≤ 402 → ∀ hl2 : Nat → Nat → Int64, cf_flk hl hl2 → cf_LK S sp hd c l i hl2 →
      rx_aw 166 26 [.ref 90, .int (nI c), .int (nI j0), .int (oI l), .int (oI i), rx_no, rx_no, rx_no] [] (rx_hp L t hi hl2 v) (fun r h2 => r = none ∧ rx_ok2 L t h2 RV) := by
    intro i
    induction i with
    | zero =>
      intro _ hl2 F K
      exact w166_look_r_26 ⟨fun _ => c_retV (k hl2 F K), fun g => absurd (by decide) g⟩
    | succ j ih =>
      intro hi402 hl2 F K
      rw [cf_oS]
      refine w166_look_r_26 ⟨fun g => absurd g (nI_pos (by omega)), fun _ => ?_⟩
      -- what is left once the others' HOLDS are joined
      have store : ∀ (hl3 : Nat → Nat → Int64), (∀ u w, ¬ (w = j ∧ 117 ≤ u ∧ u ≤ 120) → hl3 u w = hl2 u w) → hl3 117 j = cf_othg (S 0 2) hd c j → hl3 119 j = cf_rowg S sp c l j → hl3 118 j = cf_suf (cf_othg (S 0 2) hd c) (402 - j) → hl3 120 j = cf_suf (cf_rowg S sp c l) (402 - j) →
          rx_aw 166 26 [.ref 90, .int (nI c), .int (nI j0), .int (oI l), .int (nI j + (-1 : Int32)), rx_no, rx_no, rx_no] [] (rx_hp L t hi hl3 v) (fun r h2 => r = none ∧ rx_ok2 L t h2 RV) := by
        intro hl3 F3 s1 s2 s3 s4
        rw [cf_addm]
        refine ih (by omega) hl3 (fun u w q1 q2 => (F3 u w (by omega)).trans (F u w q1 q2)) ⟨(F3 90 43 (by omega)).trans K.1, fun u h1 h2 => ?_⟩
        by_cases e : u = j
        · subst e; exact ⟨s1, s2, s3, s4⟩
        · obtain ⟨k1, k2, k3, k4⟩ := K.2 u (by omega) h2
          exact ⟨(F3 117 u (by omega)).trans k1, (F3 119 u (by omega)).trans k2, (F3 118 u (by omega)).trans k3, (F3 120 u (by omega)).trans k4⟩
      have suf : ∀ f : Nat → Int64, cf_suf f (402 - j) = f j ||| cf_suf f (402 - (j + 1)) := by
        intro f
        obtain ⟨p, hp⟩ : ∃ p, 402 - j = p + 1 := ⟨401 - j, by omega⟩
        rw [hp, cf_suf, show 401 - p = j by omega, show 402 - (j + 1) = p by omega]
      have g402 : (402 : Int32) ≤ nI j + 1 ↔ j = 401 := by
        rw [nI_1, show (402 : Int32) = nI 402 from rfl, nI_leI (by decide) (by omega)]; omega
      have tailA : ∀ y, y = cf_rowg S sp c l j → j = 401 → rx_aw 166 26 [.ref 90, .int (nI c), .int (nI j0), .int (oI l), .int (nI j + (-1 : Int32)), rx_no, rx_no, rx_no] [] (rx_hp L t hi (rx_u (rx_u (rx_u (rx_u hl2 117 j (cf_un (fun o => if o = c then 0 else hd j o) (S 0 2))) 119 j y) 118 j ((cf_un (fun o => if o = c then 0 else hd j o) (S 0 2)) ||| 0)) 120 j (((rx_u (rx_u (rx_u hl2 117 j (cf_un (fun o => if o = c then 0 else hd j o) (S 0 2))) 119 j y) 118 j ((cf_un (fun o => if o = c then 0 else hd j o) (S 0 2)) ||| 0)) 119 j) ||| 0)) v) (fun r h2 => r = none ∧ rx_ok2 L t h2 RV) := by
        intro y hy hj401
        refine store _ (fun u w q => by rw [cf_ru_ne (by omega), cf_ru_ne (by omega), cf_ru_ne (by omega), cf_ru_ne (by omega)]) ?_ ?_ ?_ ?_
        · rw [cf_ru_ne (by omega), cf_ru_ne (by omega), cf_ru_ne (by omega), cf_ru_eq]; rfl
        · rw [cf_ru_ne (by omega), cf_ru_ne (by omega), cf_ru_eq, hy]
        · rw [cf_ru_ne (by omega), cf_ru_eq, suf, hj401]; rfl
        · rw [cf_ru_eq, cf_ru_ne (by omega), cf_ru_eq, hy, suf, hj401]; rfl
      have tailB : ∀ y, y = cf_rowg S sp c l j → j < 401 → rx_aw 166 26 [.ref 90, .int (nI c), .int (nI j0), .int (oI l), .int (nI j + (-1 : Int32)), rx_no, rx_no, rx_no] [] (rx_hp L t hi (rx_u (rx_u (rx_u (rx_u hl2 117 j (cf_un (fun o => if o = c then 0 else hd j o) (S 0 2))) 119 j y) 118 j ((cf_un (fun o => if o = c then 0 else hd j o) (S 0 2)) ||| ((rx_u (rx_u hl2 117 j (cf_un (fun o => if o = c then 0 else hd j o) (S 0 2))) 119 j y) 118 (j + 1)))) 120 j (((rx_u (rx_u (rx_u hl2 117 j (cf_un (fun o => if o = c then 0 else hd j o) (S 0 2))) 119 j y) 118 j ((cf_un (fun o => if o = c then 0 else hd j o) (S 0 2)) ||| ((rx_u (rx_u hl2 117 j (cf_un (fun o => if o = c then 0 else hd j o) (S 0 2))) 119 j y) 118 (j + 1)))) 119 j) ||| ((rx_u (rx_u (rx_u hl2 117 j (cf_un (fun o => if o = c then 0 else hd j o) (S 0 2))) 119 j y) 118 j ((cf_un (fun o => if o = c then 0 else hd j o) (S 0 2)) ||| ((rx_u (rx_u hl2 117 j (cf_un (fun o => if o = c then 0 else hd j o) (S 0 2))) 119 j y) 118 (j + 1)))) 120 (j + 1)))) v) (fun r h2 => r = none ∧ rx_ok2 L t h2 RV) := by
        intro y hy hj401
        refine store _ (fun u w q => by rw [cf_ru_ne (by omega), cf_ru_ne (by omega), cf_ru_ne (by omega), cf_ru_ne (by omega)]) ?_ ?_ ?_ ?_
        · rw [cf_ru_ne (by omega), cf_ru_ne (by omega), cf_ru_ne (by omega), cf_ru_eq]; rfl
        · rw [cf_ru_ne (by omega), cf_ru_ne (by omega), cf_ru_eq, hy]
        · obtain ⟨_, _, k3, k4⟩ := K.2 (j + 1) (by omega) (by omega)
          rw [cf_ru_ne (by omega), cf_ru_eq, suf, cf_ru_ne (by omega), cf_ru_ne (by omega), k3]; rfl
        · obtain ⟨_, _, k3, k4⟩ := K.2 (j + 1) (by omega) (by omega)
          rw [cf_ru_eq, cf_ru_ne (show ¬ (119 = 118 ∧ j = j) by omega), cf_ru_eq, hy, suf, cf_ru_ne (by omega), cf_ru_ne (by omega), cf_ru_ne (by omega), k4]
      have inner : ∀ d o, o + d = S 0 2 → rx_aw 166 37 [.ref 90, .int (nI c), .int (nI j0), .int (oI l), .int (nI j), .long (cf_un (fun o => if o = c then 0 else hd j o) o), rx_no, .int (nI o)] [] (rx_hp L t hi hl2 v) (fun r h2 => r = none ∧ rx_ok2 L t h2 RV) := by
        intro d
        induction d with
        | zero =>
          intro o ho
          have : o = S 0 2 := by omega
          subst this
          refine w166_look_r_37 ⟨fun _ => ⟨j, rfl, by omega, ?_⟩, fun g => absurd ?_ g⟩
          · have F1 : cf_flk hl (rx_u hl2 117 j (cf_un (fun o => if o = c then 0 else hd j o) (S 0 2))) := fun a b q1 q2 => by rw [cf_ru_ne (by omega)]; exact F a b q1 q2
            refine c170 V M hc hlb ⟨fun g => ⟨j, rfl, by omega, fun e => ⟨j, rfl, by omega, j, rfl, by omega, fun e2 => ⟨j, rfl, by omega, ?_⟩, fun e2 => absurd e e2⟩, fun e => ⟨j + 1, nI_1 j, ?_, j, rfl, by omega, j, rfl, by omega, fun e2 => absurd e2 e, fun e2 => ⟨j + 1, nI_1 j, ?_, j, rfl, by omega, ?_⟩⟩⟩, fun g => c171 M.2.2.1 h12 (W2 _ F1) (by omega) hlb ⟨j, rfl, by omega, fun e => ⟨j, rfl, by omega, j, rfl, by omega, fun e2 => ⟨j, rfl, by omega, ?_⟩, fun e2 => absurd e e2⟩, fun e => ⟨j + 1, nI_1 j, ?_, j, rfl, by omega, j, rfl, by omega, fun e2 => absurd e2 e, fun e2 => ⟨j + 1, nI_1 j, ?_, j, rfl, by omega, ?_⟩⟩⟩⟩
            · exact tailA 0 (by unfold cf_rowg; rw [cf_B_eq g]; rfl) (g402.mp e)
            · have := mt g402.mpr e; omega
            · have := mt g402.mpr e; omega
            · exact tailB 0 (by unfold cf_rowg; rw [cf_B_eq g]; rfl) (by have := mt g402.mpr e; omega)
            · exact tailA _ (by unfold cf_rowg; rw [cf_B_ne g]; rfl) (g402.mp e)
            · have := mt g402.mpr e; omega
            · have := mt g402.mpr e; omega
            · exact tailB _ (by unfold cf_rowg; rw [cf_B_ne g]; rfl) (by have := mt g402.mpr e; omega)
          · rw [M.2.1]; exact nI_le (Nat.le_refl _) (by omega)
        | succ d ih2 =>
          intro o ho
          have := ih2 (o + 1) (by omega)
          obtain ⟨_, _, _, _, w5, _⟩ := (W2 hl2 F).1 o (by omega) j (by omega)
          refine w166_look_r_37 ⟨fun g => ?_, fun _ => ⟨fun g => ?_, fun g => ⟨402 * o + j, cf_402, by omega, ?_⟩⟩⟩
          · rw [M.2.1] at g; exact absurd g (nI_ge (by omega) (by omega))
          · rw [nI_eq (by omega) (by omega)] at g
            rw [nI_1]
            rw [cf_un, if_pos g] at this; exact this
          · rw [nI_eq (by omega) (by omega)] at g
            rw [nI_1, w5]
            rw [cf_un, if_neg g] at this; exact this
      exact inner (S 0 2) 0 (by omega)
  refine w166_look_r ⟨402 * c + j0, cf_402, by omega, c167 V M ?_⟩
  rw [w3]
  refine loop 402 (by omega) _ (fun a b q1 q2 => cf_ru_ne q1) ⟨cf_ru_eq, fun u h1 h2 => by omega⟩
end RXE
