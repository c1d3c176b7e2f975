/-! The class's floor: its constants and tables; the methods that read them. -/
def oO (o : Option Nat) : Int32 := match o with
  | none => -1
  | some r => nI r
/-- a state that a cart can have -/
def cf_vs (w h : Nat) (two : Bool) (s : Nat) : Prop := s % 64 < w * h ∧ (two = true → ¬ cf_step w h (s % 64) (cf_opp (s / 64 % 4)) = none)
def cf_K1 (w h : Nat) (hi : Nat → Nat → Int32) : Prop := 2 ≤ w ∧ w ≤ 8 ∧ 2 ≤ h ∧ h ≤ 8 ∧ hi 7 0 = nI w ∧ hi 7 1 = nI h
def cf_K2 (w h : Nat) (hi : Nat → Nat → Int32) (hl : Nat → Nat → Int64) : Prop := ∀ s, s < 256 → s % 64 < w * h →
  hl 11 s = cf_std w h false s ∧ hl 11 (256 + s) = cf_std w h true s ∧ hl 12 s = cf_four w h s 3 ∧ hl 12 (256 + s) = cf_four w h s 4
  ∧ (∀ m, m < 5 → hi 10 (256 * m + s) = oO (cf_mv w h false s m)) ∧ (cf_vs w h true s → ∀ m, m < 5 → hi 10 (1280 + (256 * m + s)) = oO (cf_mv w h true s m))
def cf_K3 (w h : Nat) (hl : Nat → Nat → Int64) : Prop := ∀ q, q < 64 → cf_has (hl 7 2) q = decide (q < w * h) ∧ cf_has (hl 7 3) q = (decide (q < w * h) && decide (¬ q % w = 0)) ∧ cf_has (hl 7 4) q = (decide (q < w * h) && decide (¬ q % w + 1 = w))
theorem cf_wh {w h : Nat} {hi : Nat → Nat → Int32} (k : cf_K1 w h hi) : w * h ≤ 64 := by
  obtain ⟨_, h1, _, h2, _⟩ := k
  exact Nat.mul_le_mul h1 h2
theorem cf_m256 (s : Nat) : s % 256 % 64 = s % 64 ∧ s % 256 / 64 % 4 = s / 64 % 4 := by omega
theorem cf_std_m (w h : Nat) (two : Bool) (s : Nat) : cf_std w h two (s % 256) = cf_std w h two s := by
  unfold cf_std; rw [(cf_m256 s).1, (cf_m256 s).2]
theorem cf_to_m (s m : Nat) : cf_to (s % 256) m = cf_to s m := by unfold cf_to; rw [(cf_m256 s).2]
theorem cf_tn_m (w h s d : Nat) : cf_tn w h (s % 256) d = cf_tn w h s d := by unfold cf_tn; rw [(cf_m256 s).1, (cf_m256 s).2]
theorem cf_four_m (w h s m : Nat) : cf_four w h (s % 256) m = cf_four w h s m := by unfold cf_four; rw [cf_to_m, cf_tn_m, (cf_m256 s).1]
theorem cf_mv_m (w h : Nat) (two : Bool) (s m : Nat) : cf_mv w h two (s % 256) m = cf_mv w h two s m := by
  unfold cf_mv; rw [cf_to_m, cf_tn_m, (cf_m256 s).1, (cf_m256 s).2, Nat.mod_mod]
theorem cf_vs_m {w h : Nat} {two : Bool} {s : Nat} : cf_vs w h two (s % 256) ↔ cf_vs w h two s := by unfold cf_vs; rw [(cf_m256 s).1, (cf_m256 s).2]
section RXE
variable {L : Nat} {t : List (Nat × Nat)} {hi : Nat → Nat → Int32} {hl : Nat → Nat → Int64} {v : Nat → Nat → Option Nat}
variable {RI : Int32 → (Nat → Nat → Int32) → (Nat → Nat → Int64) → (Nat → Nat → Option Nat) → Prop}
variable {RL : Int64 → (Nat → Nat → Int32) → (Nat → Nat → Int64) → (Nat → Nat → Option Nat) → Prop}
variable {RR : Option Nat → (Nat → Nat → Int32) → (Nat → Nat → Int64) → (Nat → Nat → Option Nat) → Prop}
variable {RV : (Nat → Nat → Int32) → (Nat → Nat → Int64) → (Nat → Nat → Option Nat) → Prop}
theorem cf_lt2 {k : Nat} (hk : k < 4) : nI k < (2 : Int32) ↔ ¬ cf_two k = true := by
  rw [show (2 : Int32) = nI 2 from rfl, nI_ltI (by omega) (by decide)]
  unfold cf_two; rw [decide_eq_true_iff]; omega
theorem c13 {x : Int64} (k : RI (nI (cf_pop x)) hi hl v) : rx_CI L t 13 [.long x] hi hl v RI := by
  refine w13_bitCount (c_retI ?_)
  have e := cf_swar x _ _ _ _ _ _ rfl rfl rfl rfl rfl rfl
  exact (congrArg (fun z => RI z hi hl v) e).mpr k
theorem c27 {w h : Nat} (K : cf_K1 w h hi) {y : Int32} (k : RI (cf_B (decide (0 ≤ y.toInt ∧ y.toInt < h))) hi hl v) : rx_CI L t 27 [.ref 7, .int y] hi hl v RI := by
  obtain ⟨_, _, _, hb, _, hh⟩ := K
  refine w27_hasRow ⟨fun c => c_retI ?_, fun c => ⟨fun c2 => c_retI ?_, fun c2 => c_retI ?_⟩⟩ <;>
  · simp only [hh, cf_lt, cf_le', nI_toInt (show h < 2 ^ 31 by omega), Int32.toInt_zero] at *
    first
    | rw [decide_eq_true (by omega)] at k; exact k
    | rw [decide_eq_false (by omega)] at k; exact k
/-- a square by its place, and 1 more; 0 if there is none -/
def cf_num (w h : Nat) (x y : Int32) : Nat := if 0 ≤ x.toInt ∧ x.toInt < w ∧ 0 ≤ y.toInt ∧ y.toInt < h then y.toInt.toNat * w + x.toInt.toNat + 1 else 0
theorem cf_x {x : Int32} (h : 0 ≤ x.toInt) : x = nI x.toInt.toNat ∧ x.toInt.toNat < 2 ^ 31 := by
  have h2 := Int32.toInt_lt x
  have hb : x.toInt.toNat < 2 ^ 31 := by omega
  refine ⟨?_, hb⟩
  apply Int32.toInt_inj.mp
  rw [nI_toInt hb]; omega
theorem c26 {w h : Nat} (K : cf_K1 w h hi) {x y : Int32} (k : RI (oI (cf_num w h x y)) hi hl v) : rx_CI L t 26 [.ref 7, .int x, .int y] hi hl v RI := by
  have K' := K
  obtain ⟨_, _, _, hb, hw, hh⟩ := K
  unfold cf_num at k
  have i0 : ∀ z : Int32, z < 0 ↔ z.toInt < 0 := fun z => cf_lt
  have iw : hi 7 0 ≤ x ↔ (w : Int) ≤ x.toInt := by rw [hw, cf_le', nI_toInt (by omega)]
  refine w26_number ⟨fun c => c_retI ?_, fun c => ⟨fun c2 => c_retI ?_, fun c2 => c27 K' ⟨fun c3 => c_retI ?_, fun c3 => c_retI ?_⟩⟩⟩
  · rw [i0] at c; rw [if_neg (by omega)] at k; exact k
  · rw [iw] at c2; rw [if_neg (by omega)] at k; exact k
  · by_cases hy : 0 ≤ y.toInt ∧ y.toInt < h
    · rw [decide_eq_true hy] at c3; exact absurd c3 (by decide)
    · rw [if_neg (by omega)] at k; exact k
  · by_cases hy : 0 ≤ y.toInt ∧ y.toInt < h
    · rw [i0] at c; rw [iw] at c2
      rw [if_pos (by omega), cf_oS] at k
      obtain ⟨ex, _⟩ := cf_x (x := x) (by omega)
      obtain ⟨ey, _⟩ := cf_x (x := y) (by omega)
      rw [hw, ex, ey, cf_nmul, nI_add]; exact k
    · rw [decide_eq_false hy] at c3; exact absurd rfl c3
theorem c42 {w h : Nat} (K1 : cf_K1 w h hi) (K2 : cf_K2 w h hi hl) {kd s : Nat} (hk : kd < 4) (hs : s % 64 < w * h) (k : RL (cf_std w h (cf_two kd) s) hi hl v) : rx_CL L t 42 [.ref 7, .int (nI kd), .int (nI s)] hi hl v RL := by
  have h2 := K2 (s % 256) (by omega) (by rw [(cf_m256 s).1]; exact hs)
  have e : nI s &&& (255 : Int32) = nI (s % 256) := by rw [show (255 : Int32) = nI 255 from rfl, cf_nand, cf_and255]
  refine w42_standing ⟨fun c => ⟨s % 256, ?_, by omega, c_retL ?_⟩, fun c => ⟨256 + s % 256, ?_, by omega, c_retL ?_⟩⟩
  · rw [e, show (0 : Int32) = nI 0 from rfl, nI_add, Nat.zero_add]
  · rw [cf_lt2 hk] at c
    rw [h2.1, cf_std_m]
    rw [Bool.eq_false_iff.mpr c] at k; exact k
  · rw [e, show (256 : Int32) = nI 256 from rfl, nI_add]
  · rw [cf_lt2 hk, Classical.not_not] at c
    rw [h2.2.1, cf_std_m]
    rw [c] at k; exact k
theorem c53 {w h : Nat} (K2 : cf_K2 w h hi hl) {kd s m : Nat} (hk : kd < 4) (hs : s % 64 < w * h) (hm : m < 2 ^ 20) (k : RL (cf_tq w h kd s m) hi hl v) : rx_CL L t 53 [.ref 7, .int (nI kd), .int (nI s), .int (nI m)] hi hl v RL := by
  have h2 := K2 (s % 256) (by omega) (by rw [(cf_m256 s).1]; exact hs)
  have e : nI s &&& (255 : Int32) = nI (s % 256) := by rw [show (255 : Int32) = nI 255 from rfl, cf_nand, cf_and255]
  have e3 : nI m < (3 : Int32) ↔ m < 3 := by rw [show (3 : Int32) = nI 3 from rfl, nI_ltI (by omega) (by decide)]
  have e4 : (4 : Int32) < nI m ↔ 4 < m := by rw [show (4 : Int32) = nI 4 from rfl, nI_ltI (by decide) (by omega)]
  unfold cf_tq at k
  refine w53_turnSquares ⟨fun c => c_retL ?_, fun c => ⟨fun c2 => c_retL ?_, fun c2 => ⟨fun c3 => c_retL ?_, fun c3 => ⟨(m - 3) * 256 + s % 256, ?_, ?_, c_retL ?_⟩⟩⟩⟩
  · rw [cf_lt2 hk] at c
    rw [Bool.eq_false_iff.mpr c] at k; exact k
  · rw [e3] at c2
    rw [decide_eq_false (show ¬ m = 3 by omega), decide_eq_false (show ¬ m = 4 by omega), Bool.or_false, Bool.and_false] at k; exact k
  · rw [e4] at c3
    rw [decide_eq_false (show ¬ m = 3 by omega), decide_eq_false (show ¬ m = 4 by omega), Bool.or_false, Bool.and_false] at k; exact k
  · rw [e3] at c2
    rw [e, show (256 : Int32) = nI 256 from rfl, show (3 : Int32) = nI 3 from rfl, cf_nsub (by omega), cf_nmul, nI_add]
  · rw [e4] at c3; omega
  · rw [cf_lt2 hk, Classical.not_not] at c
    rw [e3] at c2; rw [e4] at c3
    rw [c] at k
    by_cases h3 : m = 3
    · subst h3
      rw [show (3 - 3) * 256 + s % 256 = s % 256 by omega, h2.2.2.1, cf_four_m]; exact k
    · have h4 : m = 4 := by omega
      subst h4
      rw [show (4 - 3) * 256 + s % 256 = 256 + s % 256 by omega, h2.2.2.2.1, cf_four_m]; exact k
end RXE
section RXE
variable {L : Nat} {t : List (Nat × Nat)} {hi : Nat → Nat → Int32} {hl : Nat → Nat → Int64} {v : Nat → Nat → Option Nat}
variable {RI : Int32 → (Nat → Nat → Int32) → (Nat → Nat → Int64) → (Nat → Nat → Option Nat) → Prop}
variable {RL : Int64 → (Nat → Nat → Int32) → (Nat → Nat → Int64) → (Nat → Nat → Option Nat) → Prop}
variable {RR : Option Nat → (Nat → Nat → Int32) → (Nat → Nat → Int64) → (Nat → Nat → Option Nat) → Prop}
variable {RV : (Nat → Nat → Int32) → (Nat → Nat → Int64) → (Nat → Nat → Option Nat) → Prop}
theorem cf_oO_le (o : Option Nat) (h : ∀ r, o = some r → r < 2 ^ 31) : 0 ≤ oO o ↔ ∃ r, o = some r := by
  cases o with
  | none => exact ⟨fun q => absurd q (by decide), fun ⟨r, q⟩ => by cases q⟩
  | some r => exact ⟨fun _ => ⟨r, rfl⟩, fun _ => nI_pos' (h r rfl)⟩
theorem cf_step_64 {w h q d p : Nat} (hwh : w * h ≤ 64) (hq : q < w * h) (e : cf_step w h q d = some p) : p < 64 := Nat.lt_of_lt_of_le (cf_step_lt hq e) hwh
theorem cf_mv_lt {w h : Nat} {two : Bool} {s m r : Nat} (hwh : w * h ≤ 64) (hs : s % 64 < w * h) (hm : m < 5) (e : cf_mv w h two s m = some r) : r < 256 := by
  unfold cf_mv at e
  split at e
  · cases e; omega
  · cases two with
    | false =>
      simp only [cond_false] at e
      cases hst : cf_step w h (s % 64) (m - 1) with
      | none => rw [hst] at e; cases e
      | some p => rw [hst] at e; cases e; have := cf_step_64 hwh hs hst; show p + 64 * (m - 1) < 256; omega
    | true =>
      simp only [cond_true] at e
      split at e
      · cases hst : cf_step w h (s % 64) (s / 64 % 4) with
        | none => rw [hst] at e; cases e
        | some p => rw [hst] at e; cases e; have := cf_step_64 hwh hs hst; show p + 64 * (s / 64 % 4) < 256; omega
      · split at e
        · split at e
          · cases e
          · rename_i b hb
            split at e
            · cases e
            · cases e; have := cf_step_64 hwh hs hb; omega
        · split at e
          · cases e
          · rename_i b n c hn
            cases e
            have h3 : cf_to s m < 4 := by unfold cf_to cf_lf cf_rt; split <;> omega
            unfold cf_tn at hn
            split at hn
            · cases hn
            · rename_i b' hb
              split at hn
              · rename_i n' c' hn' hc'
                cases hn
                have := cf_step_64 hwh (cf_step_lt hs hb) hn'
                omega
              · cases hn
theorem c49 {w h : Nat} (K1 : cf_K1 w h hi) (K2 : cf_K2 w h hi hl) {gr : Nat → Nat} (hg : ∀ q, q < 64 → hi 8 q = nI (gr q) ∧ gr q < 4) {kd s m l : Nat} (hk : kd < 4) (hs : cf_vs w h (cf_two kd) s) (hb : s < 2 ^ 20) (hm : m < 7) (hl' : l < 2 ^ 10) (k : RI (oO (cf_aft w h gr kd s m l)) hi hl v) : rx_CI L t 49 [.ref 7, .int (nI kd), .int (nI s), .int (nI m), .int (oI l)] hi hl v RI := by
  have hs64 := hs.1
  have hwh := cf_wh K1
  have h2 := K2 (s % 256) (by omega) (by rw [(cf_m256 s).1]; exact hs64)
  have e : nI s &&& (255 : Int32) = nI (s % 256) := by rw [show (255 : Int32) = nI 255 from rfl, cf_nand, cf_and255]
  have e4 : (4 : Int32) < nI m ↔ 4 < m := by rw [show (4 : Int32) = nI 4 from rfl, nI_ltI (by decide) (by omega)]
  have e5 : nI m = (5 : Int32) ↔ m = 5 := by rw [show (5 : Int32) = nI 5 from rfl, nI_eq (by omega) (by decide)]
  have e1 : nI kd = (1 : Int32) ↔ kd = 1 := by rw [show (1 : Int32) = nI 1 from rfl, nI_eq (by omega) (by decide)]
  have eg : hi 8 (s % 64) = (2 : Int32) ↔ gr (s % 64) = 2 := by
    rw [(hg (s % 64) (by omega)).1, show (2 : Int32) = nI 2 from rfl, nI_eq (by have := (hg (s % 64) (by omega)).2; omega) (by decide)]
  have em : nI s &&& (-256 : Int32) = nI (s / 256 * 256) := by
    apply Int32.toBitVec_inj.mp
    rw [Int32.toBitVec_and, cf_nbv, cf_nbv]
    apply BitVec.eq_of_toNat_eq
    rw [BitVec.toNat_and, BitVec.toNat_ofNat, BitVec.toNat_ofNat, show (-256 : Int32).toBitVec.toNat = 2 ^ 32 - 2 ^ 8 from rfl]
    rw [Nat.mod_eq_of_lt (by omega), Nat.mod_eq_of_lt (by omega)]
    apply Nat.eq_of_testBit_eq
    intro i
    rw [Nat.testBit_and, show (256 : Nat) = 2 ^ 8 from rfl, Nat.testBit_mul_two_pow, Nat.testBit_div_two_pow]
    have hbig : ∀ i, 8 ≤ i → i < 32 → (2 ^ 32 - 2 ^ 8 : Nat).testBit i = true := by
      intro i h1 h2
      have : ∀ j : Fin 32, 8 ≤ j.val → (2 ^ 32 - 2 ^ 8 : Nat).testBit j.val = true := by decide
      exact this ⟨i, h2⟩ h1
    have hsm : ∀ i, i < 8 → (2 ^ 32 - 2 ^ 8 : Nat).testBit i = false := by
      intro i h1
      have : ∀ j : Fin 8, (2 ^ 32 - 2 ^ 8 : Nat).testBit j.val = false := by decide
      exact this ⟨i, h1⟩
    by_cases h8 : i < 8
    · rw [hsm i h8, Bool.and_false, decide_eq_false (by omega), Bool.false_and]
    · rw [decide_eq_true (show i ≥ 8 by omega), Bool.true_and, show i - 8 + 8 = i by omega]
      by_cases h32 : i < 32
      · rw [hbig i (by omega) h32, Bool.and_true]
      · rw [Nat.testBit_lt_two_pow (show s < 2 ^ i from Nat.lt_of_lt_of_le (show s < 2 ^ 32 by omega) (Nat.pow_le_pow_right (by decide) (by omega))), Bool.false_and]
  have hor : ∀ r, r < 256 → nI (s / 256 * 256) ||| nI r = nI (s / 256 * 256 + r) := by
    intro r hr
    rw [cf_nor, Nat.or_comm, cf_or8 hr]; congr 1; omega
  have step : m ≤ 4 → ∀ j, hi 10 j = oO (cf_mv w h (cf_two kd) s m) → (0 ≤ hi 10 j → RI ((nI s &&& (-256 : Int32)) ||| hi 10 j) hi hl v) ∧ (¬ 0 ≤ hi 10 j → RI (-1) hi hl v) := by
    intro h4 j hj
    unfold cf_aft at k
    rw [if_pos h4] at k
    rw [hj]
    cases ho : cf_mv w h (cf_two kd) s m with
    | none =>
      rw [ho] at k
      exact ⟨fun q => absurd q (by decide), fun _ => k⟩
    | some r =>
      rw [ho] at k
      have hr := cf_mv_lt hwh hs64 (by omega) ho
      refine ⟨fun _ => ?_, fun q => absurd (nI_pos' (by omega)) q⟩
      rw [em]
      show RI (nI (s / 256 * 256) ||| nI r) hi hl v
      rw [hor r hr]; exact k
  refine w49_after ⟨fun c => ⟨fun c2 => c48 (by omega) ⟨fun c3 => ⟨fun c5 => c_retI ?_, fun c5 => ⟨fun c6 => c_retI ?_, fun c6 => c50 (by omega) (c_retI ?_)⟩⟩, fun c3 => c8 ⟨s % 64, rfl, by omega, ⟨fun c7 => ⟨fun c8 => c_retI ?_, fun c8 => ?_⟩, fun c7 => ⟨fun c8 => c_retI ?_, fun c8 => c_retI ?_⟩⟩⟩⟩, fun c2 => c_retI ?_⟩, fun c => ⟨fun c2 => ⟨256 * m + s % 256, ?_, ?_, ?_⟩, fun c2 => ⟨1280 + (256 * m + s % 256), ?_, ?_, ?_⟩⟩⟩
  · rw [e4] at c; rw [e1] at c2; rw [e5] at c3; rw [cf_ole (by omega)] at c5
    unfold cf_aft at k
    rw [if_neg (by omega), if_pos c2, if_pos c3, if_neg (by omega)] at k; exact k
  · rw [e4] at c; rw [e1] at c2; rw [e5] at c3; rw [cf_oneg (by omega)] at c6
    unfold cf_aft at k
    rw [if_neg (by omega), if_pos c2, if_pos c3, if_neg (by omega)] at k; exact k
  · rw [e4] at c; rw [e1] at c2; rw [e5] at c3; rw [cf_ole (by omega)] at c5; rw [cf_oneg (by omega)] at c6
    unfold cf_aft at k
    rw [if_neg (by omega), if_pos c2, if_pos c3, if_pos (by omega)] at k; exact k
  · rw [e4] at c; rw [e1] at c2; rw [e5] at c3; rw [cf_oneg (by omega)] at c8
    unfold cf_aft at k
    rw [if_neg (by omega), if_pos c2, if_neg c3, if_neg (by omega)] at k; exact k
  · rw [e4] at c; rw [e1] at c2; rw [e5] at c3; rw [cf_oneg (by omega)] at c8; rw [eg] at c7
    unfold cf_aft at k
    rw [if_neg (by omega), if_pos c2, if_neg c3, if_pos (by omega)] at k
    exact c50 (l := 0) (by omega) (c_retI k)
  · rw [e4] at c; rw [e1] at c2; rw [e5] at c3; rw [eg] at c7
    unfold cf_aft at k
    rw [if_neg (by omega), if_pos c2, if_neg c3, if_neg (by omega)] at k; exact k
  · rw [e4] at c; rw [e1] at c2; rw [e5] at c3; rw [eg] at c7
    unfold cf_aft at k
    rw [if_neg (by omega), if_pos c2, if_neg c3, if_neg (by omega)] at k; exact k
  · rw [e4] at c; rw [e1] at c2
    unfold cf_aft at k
    rw [if_neg (by omega), if_neg c2] at k; exact k
  · rw [e, show (0 : Int32) = nI 0 from rfl, show (256 : Int32) = nI 256 from rfl, cf_nmul, nI_add, nI_add]; congr 1; omega
  · omega
  · rw [e4] at c; rw [cf_lt2 hk] at c2
    have := h2.2.2.2.2.1 m (by omega)
    rw [cf_mv_m, ← Bool.eq_false_iff.mpr c2] at this
    obtain ⟨g1, g2⟩ := step (by omega) _ this
    exact ⟨fun q => c_retI (g1 q), fun q => c_retI (g2 q)⟩
  · rw [e, show (1280 : Int32) = nI 1280 from rfl, show (256 : Int32) = nI 256 from rfl, cf_nmul, nI_add, nI_add]; congr 1; omega
  · rw [e4] at c; omega
  · rw [e4] at c; rw [cf_lt2 hk, Classical.not_not] at c2
    have := h2.2.2.2.2.2 (by rw [cf_vs_m, ← c2]; exact hs) m (by omega)
    rw [cf_mv_m, ← c2] at this
    obtain ⟨g1, g2⟩ := step (by omega) _ this
    exact ⟨fun q => c_retI (g1 q), fun q => c_retI (g2 q)⟩
end RXE
