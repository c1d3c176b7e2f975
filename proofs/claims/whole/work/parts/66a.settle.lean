/-! Behind the last MOVE nothing changes. -/
theorem cf_mv_0 {w h : Nat} {two : Bool} {s : Nat} : cf_mv w h two s 0 = some (s % 256) := by unfold cf_mv; rw [if_pos rfl]
theorem cf_nx_0 {S : cf_S} {W : (Nat → Nat) × (Nat → Nat)} {t c : Nat} (h : S 4 c ≤ t) : cf_nx S W t c = some (W.1 c) := by
  have e : cf_mt S c t = 0 := by unfold cf_mt; rw [if_neg (by omega)]
  unfold cf_nx cf_aft
  rw [e, if_pos (by omega), cf_mv_0]
  show some (W.1 c / 256 * 256 + W.1 c % 256) = _
  congr 1; omega
theorem cf_st_E {S : cf_S} {t c : Nat} (h : S 4 c ≤ t) : cf_st S (t + 1) c = cf_st S t c := by
  show (cf_nx S (cf_w S t) t c).getD ((cf_w S t).1 c) = _
  rw [cf_nx_0 h]; rfl
theorem cf_car_car {st : Nat → Nat} {s d : Nat} : ∀ {n : Nat} (d2 : Nat), (d2 = d ∨ d2 = cf_car st s d n) → cf_car st s d2 n = cf_car st s d n
  | 0, d2, h => by
    rcases h with h | h
    · rw [h]
    · exact h
  | n + 1, d2, h => by
    rw [cf_car, cf_car]
    by_cases e : st n / 256 = s + 1
    · rw [if_pos e, if_pos e]
    · rw [if_neg e, if_neg e]
      refine cf_car_car d2 ?_
      rw [cf_car, if_neg e] at h; exact h
theorem cf_end_le {S : cf_S} {t c : Nat} (hc : c < S 0 2) (h : cf_set S ≤ t + 1) : S 4 c ≤ t := by
  unfold cf_set at h
  have := cf_le_mx (f := S 4) hc
  omega
theorem cf_settle {S : cf_S} : ∀ d, (∀ c, c < S 0 2 → cf_st S (cf_set S + d) c = cf_st S (cf_set S) c) ∧ (∀ s, cf_sp S (cf_set S + d) s = cf_sp S (cf_set S) s)
  | 0 => ⟨fun _ _ => rfl, fun _ => rfl⟩
  | d + 1 => by
    obtain ⟨h1, h2⟩ := cf_settle d
    have g : ∀ c, c < S 0 2 → cf_st S (cf_set S + (d + 1)) c = cf_st S (cf_set S) c := fun c hc => by
      rw [← h1 c hc, ← Nat.add_assoc]; exact cf_st_E (cf_end_le hc (by omega))
    refine ⟨g, fun s => ?_⟩
    obtain ⟨e, he⟩ : ∃ e, cf_set S = e + 1 := ⟨cf_mx (S 4) (S 0 2), rfl⟩
    have e1 : cf_sp S (cf_set S + (d + 1)) s = cf_car (cf_st S (cf_set S + (d + 1))) s (cf_sp S (cf_set S + d) s) (S 0 2) := rfl
    have e2 : cf_sp S (cf_set S) s = cf_car (cf_st S (cf_set S)) s (cf_sp S e s) (S 0 2) := by rw [he]; rfl
    rw [e1, h2 s, cf_car_eq rfl g, e2]
    exact cf_car_car _ (Or.inr rfl)
theorem cf_st_min {S : cf_S} (t : Nat) {c : Nat} (hc : c < S 0 2) : cf_st S (min t (cf_set S)) c = cf_st S t c := by
  by_cases h : t ≤ cf_set S
  · rw [Nat.min_eq_left h]
  · rw [Nat.min_eq_right (by omega)]
    have := (cf_settle (S := S) (t - cf_set S)).1 c hc
    rw [show cf_set S + (t - cf_set S) = t by omega] at this; exact this.symm
theorem cf_sp_min {S : cf_S} (t s : Nat) : cf_sp S (min t (cf_set S)) s = cf_sp S t s := by
  by_cases h : t ≤ cf_set S
  · rw [Nat.min_eq_left h]
  · rw [Nat.min_eq_right (by omega)]
    have := (cf_settle (S := S) (t - cf_set S)).2 s
    rw [show cf_set S + (t - cf_set S) = t by omega] at this; exact this.symm
theorem cf_sd_min {S : cf_S} (t : Nat) {c : Nat} (hc : c < S 0 2) : cf_sd S (min t (cf_set S)) c = cf_sd S t c := by unfold cf_sd; rw [cf_st_min t hc]
theorem cf_hd_min {S : cf_S} (t : Nat) {c : Nat} (hc : c < S 0 2) : cf_hd S (min t (cf_set S)) c = cf_hd S t c := by
  by_cases h : t ≤ cf_set S
  · rw [Nat.min_eq_left h]
  · rw [Nat.min_eq_right (by omega)]
    have e := cf_sd_min (S := S) t hc
    rw [Nat.min_eq_right (by omega)] at e
    have h4 : S 4 c + 1 ≤ cf_set S := by unfold cf_set; have := cf_le_mx (f := S 4) hc; omega
    unfold cf_hd
    rw [e, cf_td_0 (show S 4 c ≤ cf_set S by omega), cf_td_0 (show S 4 c ≤ t by omega), if_neg (by omega), if_neg (by omega), cf_td_0 (show S 4 c ≤ cf_set S - 1 by omega), cf_td_0 (show S 4 c ≤ t - 1 by omega)]
theorem cf_402_set {S : cf_S} (V : cf_V S) : cf_set S ≤ 401 := by have := cf_set_lt V; omega
section RXE
variable {L : Nat} {t : List (Nat × Nat)} {hi : Nat → Nat → Int32} {hl : Nat → Nat → Int64} {v : Nat → Nat → Option Nat}
variable {RI : Int32 → (Nat → Nat → Int32) → (Nat → Nat → Int64) → (Nat → Nat → Option Nat) → Prop}
variable {RL : Int64 → (Nat → Nat → Int32) → (Nat → Nat → Int64) → (Nat → Nat → Option Nat) → Prop}
variable {RR : Option Nat → (Nat → Nat → Int32) → (Nat → Nat → Int64) → (Nat → Nat → Option Nat) → Prop}
variable {RV : (Nat → Nat → Int32) → (Nat → Nat → Int64) → (Nat → Nat → Option Nat) → Prop}
/-- all carts, all SHELVES, and the world that follows -/
def cf_XR (S : cf_S) (hi : Nat → Nat → Int32) (hl : Nat → Nat → Int64) : Prop := cf_X S hi hl ∧ cf_R S hi hl
theorem cf_Rs {S : cf_S} (X : cf_XR S hi hl) (h : 0 < S 0 2 ∨ 0 < S 0 3) : hi 13 5 = nI (cf_set S) := by
  rcases X.2.1 with q | q
  · exact q
  · omega
theorem c47R {S : cf_S} (X : cf_XR S hi hl) {c j : Nat} (hc : c < S 0 2) (hj : j < 2 ^ 31) (k : RI (nI (cf_st S j c)) hi hl v) : rx_CI L t 47 [.ref 13, .int (nI c), .int (nI j)] hi hl v RI := by
  have h6 := X.1.1.2.2.1
  refine c47 (cf_Rs X (by omega)) (cf_set_lt X.1.1) (by omega) hj ?_
  rw [((X.2.2.1 c hc).1 _ (Nat.min_le_right _ _)).1, cf_st_min j hc]; exact k
theorem c38R {S : cf_S} (X : cf_XR S hi hl) {s j : Nat} (hs : s < S 0 3) (hj : j < 2 ^ 31) (k : RI (nI (cf_sp S j s)) hi hl v) : rx_CI L t 38 [.ref 13, .int (nI s), .int (nI j)] hi hl v RI := by
  have h12 := X.1.1.2.2.2.1
  refine c38 (cf_Rs X (by omega)) (cf_set_lt X.1.1) (by omega) hj ?_
  rw [X.2.2.2 s hs _ (Nat.min_le_right _ _), cf_sp_min j s]; exact k
theorem c46R {S : cf_S} (X : cf_XR S hi hl) {s q j : Nat} (hs : s < S 0 3) (hq : q < 64) (hj : j < 2 ^ 31) (k : RI (cf_B (cf_ly (S 0 2) (cf_st S j) (cf_sp S j) q s)) hi hl v) : rx_CI L t 46 [.ref 13, .int (nI s), .int (nI q), .int (nI j)] hi hl v RI := by
  have V := X.1.1
  refine c46 (m := S 0 3) (st := cf_st S j) (sp := cf_sp S j) X.1.2.2.2.2.1.1 V.2.2.1 (cf_Rs X (by omega)) (cf_set_lt V) hj ⟨fun c hc => ⟨?_, ?_⟩, fun s hs => ⟨?_, ?_⟩⟩ V.2.2.2.1 hs hq k
  · rw [((X.2.2.1 c hc).1 _ (Nat.min_le_right _ _)).1, cf_st_min j hc]
  · have := ((cf_wv V j).1 c hc).2
    have := V.2.2.2.1
    omega
  · rw [X.2.2.2 s hs _ (Nat.min_le_right _ _), cf_sp_min j s]
  · have := (cf_wv V j).2 s hs
    have := cf_V_wh V
    omega
theorem c37 {S : cf_S} (X : cf_XR S hi hl) {j x : Nat} (hj : j < 2 ^ 31) (hx : x < 2 ^ 20) (k : RL (cf_sq S j x) hi hl v) : rx_CL L t 37 [.ref 13, .int (nI j), .int (oI x)] hi hl v RL := by
  have V := X.1.1
  have h12 := V.2.2.2.1
  have hwh := cf_V_wh V
  refine w37_shelfMask ?_
  have loop : ∀ d i, i + d = S 0 3 → rx_aw 37 5 [.ref 13, .int (nI j), .int (oI x), .long (cf_un (fun s => if s + 1 = x then 0 else cf_bt (cf_sp S j s)) i), rx_no, .int (nI i)] [] (rx_hp L t hi hl v) (fun r h2 => ∃ z : Int64, r = some (.long z) ∧ rx_ok2 L t h2 (RL z)) := by
    intro d
    induction d with
    | zero =>
      intro i hi0
      have : i = S 0 3 := by omega
      subst this
      refine w37_shelfMask_5 ⟨fun _ => c_retL k, fun g => absurd ?_ g⟩
      rw [X.1.2.2.2.2.1.2.1]; exact nI_le (Nat.le_refl _) (by omega)
    | succ d ih =>
      intro i hi0
      have := ih (i + 1) (by omega)
      refine w37_shelfMask_5 ⟨fun g => ?_, fun _ => ⟨fun g => ?_, fun g => c38R X (by omega) hj (c9 ?_ ?_)⟩⟩
      · rw [X.1.2.2.2.2.1.2.1] at g; exact absurd g (nI_ge (by omega) (by omega))
      · have g2 : i + 1 = x := ((cf_oneq (by omega) (by omega)).mp g.symm).symm
        rw [nI_1]
        rw [cf_un, if_pos g2, cf_or0] at this; exact this
      · have := (cf_wv V j).2 i (by omega); omega
      · have g2 : ¬ i + 1 = x := fun q => g ((cf_oneq (by omega) (by omega)).mpr q.symm).symm
        rw [nI_1]
        rw [cf_un, if_neg g2] at this; exact this
  exact loop (S 0 3) 0 (by omega)
theorem c39 {S : cf_S} (X : cf_XR S hi hl) (k : RL (cf_un (cf_sd S 0) (S 0 2)) hi hl v) : rx_CL L t 39 [.ref 13] hi hl v RL := by
  have V := X.1.1
  have h6 := V.2.2.1
  refine w39_stoodOnFirst ?_
  have loop : ∀ d i, i + d = S 0 2 → rx_aw 39 4 [.ref 13, .long (cf_un (cf_sd S 0) i), rx_no, .int (nI i)] [] (rx_hp L t hi hl v) (fun r h2 => ∃ z : Int64, r = some (.long z) ∧ rx_ok2 L t h2 (RL z)) := by
    intro d
    induction d with
    | zero =>
      intro i hi0
      have : i = S 0 2 := by omega
      subst this
      refine w39_stoodOnFirst_4 ⟨fun _ => c_retL k, fun g => absurd ?_ g⟩
      rw [X.1.2.2.2.2.1.1]; exact nI_le (Nat.le_refl _) (by omega)
    | succ d ih =>
      intro i hi0
      have := ih (i + 1) (by omega)
      refine w39_stoodOnFirst_4 ⟨fun g => ?_, fun _ => ⟨i, rfl, by omega, 0, rfl, by omega, ?_⟩⟩
      · rw [X.1.2.2.2.2.1.1] at g; exact absurd g (nI_ge (by omega) (by omega))
      · rw [nI_1, ((X.2.2.1 i (by omega)).1 0 (by omega)).2.1]
        rw [cf_un] at this; exact this
  exact loop (S 0 2) 0 (by omega)
/-- a cart by its number, and 1; 0 if there is none -/
def cf_cn (n : Nat) (x : Int32) : Nat := if 0 ≤ x.toInt ∧ x.toInt < n then x.toInt.toNat + 1 else 0
theorem c59 {S : cf_S} (V : cf_V S) (C : cf_C S hi) {x : Int32} (k : RR (if cf_cn (S 0 2) x = 0 then none else some (rx_ct (cf_cn (S 0 2) x - 1))) hi hl v) : rx_CR L t 59 [.ref 13, .int x] hi hl v RR := by
  have h6 := V.2.2.1
  have i0 : x < 0 ↔ x.toInt < 0 := cf_lt
  have i1 : x < hi 13 3 ↔ x.toInt < (S 0 2 : Nat) := by rw [C.1, cf_lt, nI_toInt (by omega)]
  unfold cf_cn at k
  refine w59_cartOf ⟨fun c => ?_, fun c => ⟨fun c2 => ⟨x.toInt.toNat, ?_, ?_, ?_⟩, fun c2 => ?_⟩⟩
  · rw [i0] at c
    rw [if_neg (show ¬ (0 ≤ x.toInt ∧ x.toInt < ((S 0 2 : Nat) : Int)) by omega), if_pos rfl] at k
    exact ⟨none, rfl, hi, hl, v, rfl, k⟩
  · rw [i0] at c; exact (cf_x (by omega)).1
  · rw [i0] at c; rw [i1] at c2; omega
  · rw [i0] at c; rw [i1] at c2
    rw [if_pos (show 0 ≤ x.toInt ∧ x.toInt < ((S 0 2 : Nat) : Int) by omega), if_neg (by omega)] at k
    exact ⟨some _, rfl, hi, hl, v, rfl, k⟩
  · rw [i0] at c; rw [i1] at c2
    rw [if_neg (show ¬ (0 ≤ x.toInt ∧ x.toInt < ((S 0 2 : Nat) : Int)) by omega), if_pos rfl] at k
    exact ⟨none, rfl, hi, hl, v, rfl, k⟩
theorem c28 {S : cf_S} (V : cf_V S) (C : cf_C S hi) (k : RI (cf_B (decide (0 < S 0 2 ∨ 0 < S 0 3))) hi hl v) : rx_CI L t 28 [.ref 13] hi hl v RI := by
  have h6 := V.2.2.1
  have h12 := V.2.2.2.1
  have i1 : 0 < hi 13 3 ↔ 0 < S 0 2 := by rw [C.1, show (0 : Int32) = nI 0 from rfl, nI_ltI (by decide) (by omega)]
  have i2 : hi 13 4 ≤ 0 ↔ S 0 3 ≤ 0 := by rw [C.2.1, show (0 : Int32) = nI 0 from rfl, nI_leI (by omega) (by decide)]
  refine w28_isPeopled ⟨fun c => c_retI ?_, fun c => ⟨fun c2 => c_retI ?_, fun c2 => c_retI ?_⟩⟩
  · rw [decide_eq_true (Or.inl (i1.mp c))] at k; exact k
  · rw [i1] at c; rw [i2] at c2
    rw [decide_eq_false (by omega)] at k; exact k
  · rw [i2] at c2
    rw [decide_eq_true (by omega)] at k; exact k
theorem c35 {S : cf_S} (V : cf_V S) (C : cf_C S hi) (k : RI (cf_B (decide (0 < cf_mx (S 4) (S 0 2)))) hi hl v) : rx_CI L t 35 [.ref 13] hi hl v RI := by
  have hm : cf_mx (S 4) (S 0 2) ≤ 400 := cf_mx_le (fun i hi => (V.2.2.2.2.2.2.1 i hi).2.2.2.1)
  refine w35_anyMove (c36n V C ⟨fun c => c_retI ?_, fun c => c_retI ?_⟩) <;> rw [show (0 : Int32) = nI 0 from rfl, nI_leI (by omega) (by decide)] at c
  · rw [decide_eq_false (by omega)] at k; exact k
  · rw [decide_eq_true (by omega)] at k; exact k
/-- OPEN -/
def cf_op (S : cf_S) (c : Nat) : Bool := decide (0 < S 5 c) && decide (S 7 c = 0) && decide (S 8 c = 0)
theorem c62 {S : cf_S} (V : cf_V S) (C : cf_C S hi) {c : Nat} (hc : c < S 0 2) (k : RI (cf_B (cf_op S c)) hi hl v) : rx_CI L t 62 [.ref (rx_ct c)] hi hl v RI := by
  have h6 := V.2.2.1
  have hC := C.2.2.1 c hc
  have hv := V.2.2.2.2.2.2.1 c hc
  have hwh := cf_V_wh V
  have i8 : hi (rx_ct c) 8 < 0 ↔ S 5 c = 0 := by rw [hC.2.2.2.1, cf_oneg (by omega)]
  have i11 : hi (rx_ct c) 11 = 0 ↔ S 7 c = 0 := by rw [hC.2.2.2.2.2.2.1, show (0 : Int32) = nI 0 from rfl, nI_eq (by omega) (by decide)]
  have i10 : hi (rx_ct c) 10 = 0 ↔ S 8 c = 0 := by rw [hC.2.2.2.2.2.1, show (0 : Int32) = nI 0 from rfl, nI_eq (by omega) (by decide)]
  unfold cf_op at k
  refine w62_isOpen (by omega) ⟨fun c => c_retI ?_, fun c => ⟨fun c2 => ⟨fun c3 => c_retI ?_, fun c3 => c_retI ?_⟩, fun c2 => c_retI ?_⟩⟩ <;> simp only [i8, i11, i10] at *
  · rw [decide_eq_false (by omega), Bool.false_and, Bool.false_and] at k; exact k
  · rw [decide_eq_true (show 0 < S 5 _ by omega), decide_eq_true c2, decide_eq_true c3] at k; exact k
  · rw [decide_eq_false c3, Bool.and_false] at k; exact k
  · rw [decide_eq_false c2, Bool.and_false, Bool.false_and] at k; exact k
end RXE
