/-! One MOVE of the search: what may be made. T: what is taken at each tick; sd: what each cart stands on. -/
def cf_may (S : cf_S) (T : Nat → Int64) (sd : Nat → Nat → Int64) (c t s m : Nat) : Option Nat :=
  match cf_mv (S 0 0) (S 0 1) (cf_two (S 3 c)) s m with
  | none => none
  | some r => bif decide (((cf_std (S 0 0) (S 0 1) (cf_two (S 3 c)) s ||| cf_tq (S 0 0) (S 0 1) (S 3 c) s m) &&& T t) = 0) && decide (((cf_std (S 0 0) (S 0 1) (cf_two (S 3 c)) r ||| cf_tq (S 0 0) (S 0 1) (S 3 c) s m) &&& T (t + 1)) = 0)
      && !cf_any (fun o => !decide (o = c) && cf_swap (cf_std (S 0 0) (S 0 1) (cf_two (S 3 c)) s) (cf_std (S 0 0) (S 0 1) (cf_two (S 3 c)) r) (sd t o) (sd (t + 1) o)) (S 0 2) then some r else none
theorem cf_Band1 (b : Bool) : cf_B b &&& (1 : Int32) = cf_B b := by cases b <;> decide
theorem cf_Band0 (b : Bool) : cf_B b &&& (0 : Int32) = cf_B false := by cases b <;> decide
section RXE
variable {L : Nat} {t : List (Nat × Nat)} {hi : Nat → Nat → Int32} {hl : Nat → Nat → Int64} {v : Nat → Nat → Option Nat}
variable {RI : Int32 → (Nat → Nat → Int32) → (Nat → Nat → Int64) → (Nat → Nat → Option Nat) → Prop}
theorem c183 {S : cf_S} (V : cf_V S) (M : cf_M S hi) {T : Nat → Int64} (hT : ∀ u, u < 402 → (hl 90 43 ||| hl 117 u) ||| hl 119 u = T u) {sd : Nat → Nat → Int64} (W : ∀ c, c < S 0 2 → ∀ u, u < 402 → hl 105 (402 * c + u) = sd u c) {c q d m j : Nat} (hc : c < S 0 2) (hd : d < 4) (hm : m < 5) (hj : j < 401) (hs : cf_vs (S 0 0) (S 0 1) (cf_two (S 3 c)) (q + 64 * d)) (hq : q < S 0 0 * S 0 1)
    (k0 : cf_may S T sd c j (q + 64 * d) m = none → ∀ hi2, cf_fg hi hi2 → RI 0 hi2 hl v)
    (k1 : ∀ r, cf_may S T sd c j (q + 64 * d) m = some r → ∀ hi2, cf_fg hi hi2 → hi2 90 33 = nI (r % 64) → hi2 90 34 = nI (r / 64 % 4) → RI 1 hi2 hl v) :
    rx_CI L t 183 [.ref 90, .int (nI c), .int (nI q), .int (nI d), .int (nI m), .int (nI j)] hi hl v RI := by
  have h6 := V.2.2.1
  have hwh := cf_V_wh V
  have hkd := (V.2.2.2.2.2.2.1 c hc).1
  have hC := M.2.2.2.2.2.1 c hc
  obtain ⟨g1, g2⟩ := cf_cod (show q < 64 by omega) hd
  refine w183_may_r ⟨c, rfl, by omega, ?_⟩
  rw [hC.1]
  refine c184 M.1 hkd hd hm hs hq (fun e hi2 F => ⟨fun _ => c_retI (k0 ?_ hi2 F), fun g => absurd rfl g⟩) (fun r e hi2 F f1 f2 => ⟨fun g => absurd g (by decide), fun _ => ?_⟩)
  · unfold cf_may; rw [e]
  have K2 := cf_K4_fg M.1 F
  have hr := cf_mv_lt hwh hs.1 hm e
  have hvr := cf_mv_vs hwh hs hm e
  have hcr : r % 64 + 64 * (r / 64 % 4) = r := by omega
  have hmay : cf_may S T sd c j (q + 64 * d) m = (bif decide (((cf_std (S 0 0) (S 0 1) (cf_two (S 3 c)) (q + 64 * d) ||| cf_tq (S 0 0) (S 0 1) (S 3 c) (q + 64 * d) m) &&& T j) = 0) && decide (((cf_std (S 0 0) (S 0 1) (cf_two (S 3 c)) r ||| cf_tq (S 0 0) (S 0 1) (S 3 c) (q + 64 * d) m) &&& T (j + 1)) = 0)
      && !cf_any (fun o => !decide (o = c) && cf_swap (cf_std (S 0 0) (S 0 1) (cf_two (S 3 c)) (q + 64 * d)) (cf_std (S 0 0) (S 0 1) (cf_two (S 3 c)) r) (sd j o) (sd (j + 1) o)) (S 0 2) then some r else none) := by
    unfold cf_may; rw [e]
  -- the swaps
  have loop : ∀ (hi3 : Nat → Nat → Int32), cf_fg hi hi3 → hi3 90 33 = nI (r % 64) → hi3 90 34 = nI (r / 64 % 4) → decide (((cf_std (S 0 0) (S 0 1) (cf_two (S 3 c)) (q + 64 * d) ||| cf_tq (S 0 0) (S 0 1) (S 3 c) (q + 64 * d) m) &&& T j) = 0) = true → decide (((cf_std (S 0 0) (S 0 1) (cf_two (S 3 c)) r ||| cf_tq (S 0 0) (S 0 1) (S 3 c) (q + 64 * d) m) &&& T (j + 1)) = 0) = true → ∀ (x6 : Int32) (x11 : Int64) (e i : Nat), i + e = S 0 2 →
      rx_aw 183 112 [.ref 90, .int (nI c), .int (nI q), .int (nI d), .int (nI m), .int (nI j), .int x6, .long (cf_std (S 0 0) (S 0 1) (cf_two (S 3 c)) (q + 64 * d)), rx_no, .long (cf_std (S 0 0) (S 0 1) (cf_two (S 3 c)) r), rx_no, .long x11, rx_no, .int (cf_B (!cf_any (fun o => !decide (o = c) && cf_swap (cf_std (S 0 0) (S 0 1) (cf_two (S 3 c)) (q + 64 * d)) (cf_std (S 0 0) (S 0 1) (cf_two (S 3 c)) r) (sd j o) (sd (j + 1) o)) i)), .int (nI i), rx_no] [] (rx_hp L t hi3 hl v) (fun r h2 => ∃ z : Int32, r = some (.int z) ∧ rx_ok2 L t h2 (RI z)) := by
    intro hi3 F3 f3 f4 d1 d2 x6 x11 e
    have e6 : hi3 90 6 = nI (S 0 2) := (F3 90 6 (by omega)).trans M.2.1
    induction e with
    | zero =>
      intro i hi0
      have : i = S 0 2 := by omega
      subst this
      refine w183_may_r_112 ⟨fun _ => ⟨cf_B01 _, c_retI ?_⟩, fun g => absurd ?_ g⟩
      · rw [d1, d2, Bool.true_and, Bool.true_and] at hmay
        cases hb : (!cf_any (fun o => !decide (o = c) && cf_swap (cf_std (S 0 0) (S 0 1) (cf_two (S 3 c)) (q + 64 * d)) (cf_std (S 0 0) (S 0 1) (cf_two (S 3 c)) r) (sd j o) (sd (j + 1) o)) (S 0 2)) with
        | true => rw [hb] at hmay; exact k1 r hmay hi3 F3 f3 f4
        | false => rw [hb] at hmay; exact k0 hmay hi3 F3
      · rw [e6]; exact nI_le (Nat.le_refl _) (by omega)
    | succ e ih =>
      intro i hi0
      have := ih (i + 1) (by omega)
      refine w183_may_r_112 ⟨fun g => ?_, fun _ => ⟨fun g => ?_, fun g => ⟨402 * i + j, cf_402, by omega, 402 * i + (j + 1), by rw [cf_402, nI_1]; rfl, by omega, ?_⟩⟩⟩
      · rw [e6] at g; exact absurd g (nI_ge (by omega) (by omega))
      · rw [nI_eq (by omega) (by omega)] at g
        rw [nI_1, cf_Band1]
        rw [cf_any, decide_eq_true g, Bool.not_true, Bool.false_and, Bool.or_false] at this; exact this
      · rw [nI_eq (by omega) (by omega)] at g
        rw [W i (by omega) j (by omega), W i (by omega) (j + 1) (by omega), nI_1]
        refine c176 ⟨fun g5 => ?_, fun g5 => ?_⟩
        · rw [cf_Band1]
          rw [cf_any, decide_eq_false g, cf_B_eq g5, Bool.and_false, Bool.or_false] at this; exact this
        · rw [cf_Band0]
          rw [cf_any, decide_eq_false g, cf_B_ne g5, Bool.not_false, Bool.true_and, Bool.or_true, Bool.not_true] at this; exact this
  -- what is free
  have free : ∀ x11, x11 = cf_tq (S 0 0) (S 0 1) (S 3 c) (q + 64 * d) m → rx_CI L t 187 [.ref 90, .long (cf_std (S 0 0) (S 0 1) (cf_two (S 3 c)) (q + 64 * d) ||| x11), .int (nI j)] hi2 hl v (fun z8 hi8 hl8 v8 => (z8 = 0 → ∃ z : Int32, some (Value.int 0) = some (.int z) ∧ rx_ok2 L t (rx_hp L t hi8 hl8 v8) (RI z)) ∧ (¬ z8 = 0 → rx_CI L t 187 [.ref 90, .long (cf_std (S 0 0) (S 0 1) (cf_two (S 3 c)) r ||| x11), .int (nI j + (1 : Int32))] hi8 hl8 v8 (fun z10 hi10 hl10 v10 => (z10 = 0 → ∃ z : Int32, some (Value.int 0) = some (.int z) ∧ rx_ok2 L t (rx_hp L t hi10 hl10 v10) (RI z)) ∧ (¬ z10 = 0 → rx_aw 183 112 [.ref 90, .int (nI c), .int (nI q), .int (nI d), .int (nI m), .int (nI j), .int (nI (S 3 c)), .long (cf_std (S 0 0) (S 0 1) (cf_two (S 3 c)) (q + 64 * d)), rx_no, .long (cf_std (S 0 0) (S 0 1) (cf_two (S 3 c)) r), rx_no, .long x11, rx_no, .int (1 : Int32), .int (0 : Int32), rx_no] [] (rx_hp L t hi10 hl10 v10) (fun r h2 => ∃ z : Int32, r = some (.int z) ∧ rx_ok2 L t h2 (RI z)))))) := by
    intro x11 hx
    refine c187 (by omega) ⟨fun g => c_retI (k0 ?_ hi2 F), fun g => ?_⟩
    · have := cf_B_eq g
      rw [hT j (by omega), hx] at this
      rw [hmay, this, Bool.false_and, Bool.false_and]; rfl
    · have d1 := cf_B_ne g
      rw [hT j (by omega), hx] at d1
      rw [nI_1]
      refine c187 (by omega) ⟨fun g => c_retI (k0 ?_ hi2 F), fun g => ?_⟩
      · have := cf_B_eq g
        rw [hT (j + 1) (by omega), hx] at this
        rw [hmay, this, Bool.and_false, Bool.false_and]; rfl
      · have d2 := cf_B_ne g
        rw [hT (j + 1) (by omega), hx] at d2
        exact loop hi2 F f1 f2 d1 d2 _ _ (S 0 2) 0 (by omega)
  refine c179 K2 hkd hq hd ?_
  rw [f1, f2]
  refine c179 K2 hkd hvr.1 (by omega) ?_
  rw [hcr]
  refine c186 hkd (by omega) ⟨fun g => free 0 ?_, fun g => c185 K2 hq hd (by omega) (free _ ?_)⟩
  · unfold cf_tq; rw [cf_B_eq g]; rfl
  · unfold cf_tq; rw [cf_B_ne g]; rfl
end RXE
