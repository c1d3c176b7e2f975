/-! The reference's small methods: steps, standing, FOUR, goes. -/
theorem cf_oI_toInt {a : Nat} (h : a < 2 ^ 31) : (oI a).toInt = (a : Int) - 1 := by
  cases a with
  | zero => rfl
  | succ n => rw [cf_oS, nI_toInt (by omega)]; omega
theorem cf_addm (a : Nat) : nI a + (-1 : Int32) = oI a := by
  unfold oI; rw [Int32.sub_eq_add_neg]
theorem cf_add0 (a : Nat) : nI a + (0 : Int32) = nI a := by rw [show (0 : Int32) = nI 0 from rfl, nI_add, Nat.add_zero]
def cf_K4 (w h : Nat) (hi : Nat → Nat → Int32) : Prop := 2 ≤ w ∧ w ≤ 8 ∧ 2 ≤ h ∧ h ≤ 8 ∧ hi 90 0 = nI w ∧ hi 90 1 = nI h ∧ hi 90 2 = nI (w * h)
theorem cf_wh4 {w h : Nat} {hi : Nat → Nat → Int32} (k : cf_K4 w h hi) : w * h ≤ 64 := by
  obtain ⟨_, h1, _, h2, _⟩ := k
  exact Nat.mul_le_mul h1 h2
theorem cf_B_ne {b : Bool} (h : ¬ cf_B b = 0) : b = true := by cases b with
  | true => rfl
  | false => exact absurd rfl h
theorem cf_B_eq {b : Bool} (h : cf_B b = 0) : b = false := by cases b with
  | false => rfl
  | true => exact absurd h (by decide)
section RXE
variable {L : Nat} {t : List (Nat × Nat)} {hi : Nat → Nat → Int32} {hl : Nat → Nat → Int64} {v : Nat → Nat → Option Nat}
variable {RI : Int32 → (Nat → Nat → Int32) → (Nat → Nat → Int64) → (Nat → Nat → Option Nat) → Prop}
variable {RL : Int64 → (Nat → Nat → Int32) → (Nat → Nat → Int64) → (Nat → Nat → Option Nat) → Prop}
variable {RV : (Nat → Nat → Int32) → (Nat → Nat → Int64) → (Nat → Nat → Option Nat) → Prop}
theorem c182 {w h : Nat} (K : cf_K4 w h hi) {x y : Int32} (k : RI (cf_B (decide (0 ≤ x.toInt ∧ x.toInt < w ∧ 0 ≤ y.toInt ∧ y.toInt < h))) hi hl v) : rx_CI L t 182 [.ref 90, .int x, .int y] hi hl v RI := by
  obtain ⟨_, _, _, hb, hw, hh, _⟩ := K
  refine w182_isSquare_r ⟨fun c => c_retI ?_, fun c => ⟨fun c2 => c_retI ?_, fun c2 => ⟨fun c3 => c_retI ?_, fun c3 => ⟨fun c4 => c_retI ?_, fun c4 => c_retI ?_⟩⟩⟩⟩ <;>
  · simp only [hh, hw, cf_lt, cf_le', nI_toInt (show h < 2 ^ 31 by omega), nI_toInt (show w < 2 ^ 31 by omega), Int32.toInt_zero] at *
    first
    | rw [decide_eq_true (by omega)] at k; exact k
    | rw [decide_eq_false (by omega)] at k; exact k
theorem c169 {q : Nat} (hq : q < 64) (k : RL (cf_bt q) hi hl v) : rx_CL L t 169 [.int (nI q)] hi hl v RL := by
  refine w169_bit_r (c_retL ?_)
  rw [cf_one q hq]; exact k
theorem c180 {kd : Nat} (hk : kd < 4) (k : RI (cf_B (cf_two kd)) hi hl v) : rx_CI L t 180 [.ref 90, .int (nI kd)] hi hl v RI := by
  have e2 : nI kd = (2 : Int32) ↔ kd = 2 := by rw [show (2 : Int32) = nI 2 from rfl, nI_eq (by omega) (by decide)]
  have e3 : nI kd = (3 : Int32) ↔ kd = 3 := by rw [show (3 : Int32) = nI 3 from rfl, nI_eq (by omega) (by decide)]
  unfold cf_two at k
  refine w180_isTwo_r ⟨fun c => c_retI ?_, fun c => ⟨fun c2 => c_retI ?_, fun c2 => c_retI ?_⟩⟩ <;> simp only [e2, e3] at *
  · rw [decide_eq_true (by omega)] at k; exact k
  · rw [decide_eq_true (by omega)] at k; exact k
  · rw [decide_eq_false (by omega)] at k; exact k
theorem c181 {w h : Nat} (K : cf_K4 w h hi) {q d : Nat} (hq : q < w * h) (hd : d < 4) (k : RI (oO (cf_step w h q d)) hi hl v) : rx_CI L t 181 [.ref 90, .int (nI q), .int (nI d)] hi hl v RI := by
  have hwh := cf_wh4 K
  have K' := K
  obtain ⟨hw2, hw8, hh2, hh8, hw, hh, hs⟩ := K
  have n0 : ¬ hi 90 0 = 0 := by rw [hw]; exact nI_ne0 (by omega) (by omega)
  have em : nI q - nI q / hi 90 0 * hi 90 0 = nI (q % w) := by rw [hw]; exact cf_nmod (by omega) (by omega)
  have ed : nI q / hi 90 0 = nI (q / w) := by rw [hw]; exact cf_ndiv (by omega) (by omega)
  have hdv : q / w < h := (Nat.div_lt_iff_lt_mul (by omega)).mpr (by rw [Nat.mul_comm]; exact hq)
  have hml : q % w < w := Nat.mod_lt q (by omega)
  have hdm := Nat.div_add_mod q w
  have hcm : w * (q / w) = q / w * w := Nat.mul_comm _ _
  have hle : q / w * w + w ≤ w * h := by
    rw [← hcm, ← Nat.mul_succ]; exact Nat.mul_le_mul_left w hdv
  have n1 : ¬ nI q < 0 := nI_pos (by omega)
  have hd4 : d = 0 ∨ d = 1 ∨ d = 2 ∨ d = 3 := by omega
  unfold cf_step at k
  generalize q / w = a at *
  generalize q % w = b at *
  rcases hd4 with rfl | rfl | rfl | rfl
  · rw [if_pos rfl] at k
    refine w181_step_r ⟨n0, fun c => absurd c (by decide), fun _ => ⟨fun c => absurd c (by decide), fun _ => ⟨n0, fun c => absurd c (by decide), fun _ => ⟨fun _ => ⟨fun c => absurd c n1, fun _ => ?_⟩, fun c => absurd rfl c⟩⟩⟩⟩
    rw [em, ed, cf_add0, cf_addm]
    refine c182 K' ⟨fun c => c_retI ?_, fun c => c_retI ?_⟩
    · have := of_decide_eq_false (cf_B_eq c)
      rw [nI_toInt (by omega), cf_oI_toInt (by omega)] at this
      have h0 : a = 0 := by omega
      subst h0
      rw [Nat.zero_mul] at hcm
      rw [if_neg (by omega)] at k; exact k
    · have := of_decide_eq_true (cf_B_ne c)
      rw [nI_toInt (by omega), cf_oI_toInt (by omega)] at this
      obtain ⟨p, hp⟩ : ∃ p, a = p + 1 := ⟨a - 1, by omega⟩
      subst hp
      rw [Nat.add_mul, Nat.one_mul] at hcm
      rw [if_pos (by omega)] at k
      rw [cf_oS, hw, cf_nmul, nI_add]
      rw [show p * w + b = q - w by omega]; exact k
  · rw [if_neg (by decide), if_pos rfl] at k
    refine w181_step_r ⟨n0, fun _ => ⟨n0, fun c => absurd c (by decide), fun _ => ⟨fun c => absurd c (by decide), fun _ => ⟨fun c => absurd c n1, fun _ => ?_⟩⟩⟩, fun c => absurd rfl c⟩
    rw [em, ed, cf_add0, nI_1]
    refine c182 K' ⟨fun c => c_retI ?_, fun c => c_retI ?_⟩
    · have := of_decide_eq_false (cf_B_eq c)
      rw [nI_toInt (by omega), nI_toInt (by omega)] at this
      rw [if_neg (by omega)] at k; exact k
    · have := of_decide_eq_true (cf_B_ne c)
      rw [nI_toInt (by omega), nI_toInt (by omega)] at this
      rw [if_pos (by omega)] at k
      rw [hw, cf_nmul, nI_add]
      rw [show a * w + (b + 1) = q + 1 by omega]; exact k
  · rw [if_neg (by decide), if_neg (by decide), if_pos rfl] at k
    refine w181_step_r ⟨n0, fun c => absurd c (by decide), fun _ => ⟨fun c => absurd c (by decide), fun _ => ⟨n0, fun _ => ⟨fun c => absurd c n1, fun _ => ?_⟩, fun c => absurd rfl c⟩⟩⟩
    rw [em, ed, cf_add0, nI_1]
    refine c182 K' ⟨fun c => c_retI ?_, fun c => c_retI ?_⟩
    · have := of_decide_eq_false (cf_B_eq c)
      rw [nI_toInt (by omega), nI_toInt (by omega)] at this
      have h1 : a + 1 = h := by omega
      have h2 : w * h = a * w + w := by rw [← h1, Nat.mul_succ, hcm]
      rw [if_neg (by omega)] at k; exact k
    · have := of_decide_eq_true (cf_B_ne c)
      rw [nI_toInt (by omega), nI_toInt (by omega)] at this
      have h3 : w * (a + 1) + w ≤ w * h := by rw [← Nat.mul_succ]; exact Nat.mul_le_mul_left w (by omega)
      rw [Nat.mul_succ] at h3
      rw [if_pos (by omega)] at k
      rw [hw, cf_nmul, nI_add]
      rw [show (a + 1) * w + b = q + w by rw [Nat.add_mul, Nat.one_mul]; omega]; exact k
  · rw [if_neg (by decide), if_neg (by decide), if_neg (by decide)] at k
    refine w181_step_r ⟨n0, fun c => absurd c (by decide), fun _ => ⟨fun _ => ⟨n0, fun c => absurd c (by decide), fun _ => ⟨fun c => absurd c (by decide), fun _ => ⟨fun c => absurd c n1, fun _ => ?_⟩⟩⟩, fun c => absurd rfl c⟩⟩
    rw [em, ed, cf_add0, cf_addm]
    refine c182 K' ⟨fun c => c_retI ?_, fun c => c_retI ?_⟩
    · have := of_decide_eq_false (cf_B_eq c)
      rw [nI_toInt (by omega), cf_oI_toInt (by omega)] at this
      rw [if_neg (by omega)] at k; exact k
    · have := of_decide_eq_true (cf_B_ne c)
      rw [nI_toInt (by omega), cf_oI_toInt (by omega)] at this
      obtain ⟨p, hp⟩ : ∃ p, b = p + 1 := ⟨b - 1, by omega⟩
      rw [if_pos (by omega)] at k
      rw [hp, cf_oS, hw, cf_nmul, nI_add]
      rw [show a * w + p = q - 1 by omega]; exact k
end RXE
theorem cf_bt_ne {q : Nat} (h : q < 64) (x : Int64) : ¬ (cf_bt q ||| x) = 0 := by
  rw [cf_hne]
  exact ⟨q, h, by rw [cf_hor, cf_hbt, decide_eq_true h, decide_eq_true rfl]; rfl⟩
theorem cf_std_ne {w h : Nat} {two : Bool} {s : Nat} (hwh : w * h ≤ 64) (hs : cf_vs w h two s) : ¬ cf_std w h two s = 0 := by
  unfold cf_std
  have h1 := hs.1
  cases two with
  | false =>
    rw [cond_false, ← cf_or0 (cf_bt (s % 64))]; exact cf_bt_ne (by omega) 0
  | true =>
    rw [cond_true]
    have h2 := hs.2 rfl
    split
    · rename_i e; exact absurd e h2
    · exact cf_bt_ne (by omega) _
theorem cf_std_0 {w h s : Nat} (e : cf_step w h (s % 64) (cf_opp (s / 64 % 4)) = none) : cf_std w h true s = 0 := by
  unfold cf_std; rw [cond_true, e]
theorem cf_four_ne {w h s m b n c : Nat} (e : cf_tn w h s (cf_to s m) = some (b, n, c)) : ¬ cf_four w h s m = 0 := by
  unfold cf_four
  rw [e]
  dsimp only
  rw [cf_ora, cf_ora]
  exact cf_bt_ne (by omega) _
section RXE
variable {L : Nat} {t : List (Nat × Nat)} {hi : Nat → Nat → Int32} {hl : Nat → Nat → Int64} {v : Nat → Nat → Option Nat}
variable {RI : Int32 → (Nat → Nat → Int32) → (Nat → Nat → Int64) → (Nat → Nat → Option Nat) → Prop}
variable {RL : Int64 → (Nat → Nat → Int32) → (Nat → Nat → Int64) → (Nat → Nat → Option Nat) → Prop}
variable {RV : (Nat → Nat → Int32) → (Nat → Nat → Int64) → (Nat → Nat → Option Nat) → Prop}
theorem cf_rot (d j : Nat) (hd : d < 4) (hj : j < 4) : (nI d + nI j) - (nI d + nI j) / (4 : Int32) * (4 : Int32) = nI ((d + j) % 4) := by
  rw [nI_add, show (4 : Int32) = nI 4 from rfl, cf_nmod (by omega) (by decide)]
theorem c179 {w h : Nat} (K : cf_K4 w h hi) {kd q d : Nat} (hk : kd < 4) (hq : q < w * h) (hd : d < 4) (k : RL (cf_std w h (cf_two kd) (q + 64 * d)) hi hl v) : rx_CL L t 179 [.ref 90, .int (nI kd), .int (nI q), .int (nI d)] hi hl v RL := by
  have hwh := cf_wh4 K
  obtain ⟨g1, g2⟩ := cf_cod (show q < 64 by omega) hd
  unfold cf_std at k
  rw [g1, g2] at k
  refine w179_standing_r (c180 hk ⟨fun c => ?_, fun c => ?_⟩)
  · rw [cf_B_eq c, cond_false] at k
    exact c169 (by omega) (c_retL k)
  · rw [cf_B_ne c, cond_true] at k
    rw [show (2 : Int32) = nI 2 from rfl, cf_rot d 2 hd (by decide), show (d + 2) % 4 = cf_opp d from rfl]
    refine c181 K hq (cf_opp_lt d) ?_
    cases e : cf_step w h q (cf_opp d) with
    | none =>
      rw [e] at k
      exact ⟨fun c => absurd c (by decide), fun _ => c_retL k⟩
    | some b =>
      rw [e] at k
      have hb := cf_step_64 hwh hq e
      exact ⟨fun _ => c169 (by omega) (c169 hb (c_retL k)), fun c => absurd (nI_pos' (by omega)) c⟩
theorem c186 {kd m : Nat} (hk : kd < 4) (hm : m < 2 ^ 20) (k : RI (cf_B (cf_two kd && (decide (m = 3) || decide (m = 4)))) hi hl v) : rx_CI L t 186 [.ref 90, .int (nI kd), .int (nI m)] hi hl v RI := by
  have e3 : nI m = (3 : Int32) ↔ m = 3 := by rw [show (3 : Int32) = nI 3 from rfl, nI_eq (by omega) (by decide)]
  have e4 : nI m = (4 : Int32) ↔ m = 4 := by rw [show (4 : Int32) = nI 4 from rfl, nI_eq (by omega) (by decide)]
  refine w186_isTurn_r (c180 hk ⟨fun c => c_retI ?_, fun c => ⟨fun c2 => c_retI ?_, fun c2 => ⟨fun c3 => c_retI ?_, fun c3 => c_retI ?_⟩⟩⟩)
  · rw [cf_B_eq c, Bool.false_and] at k; exact k
  · rw [cf_B_ne c, Bool.true_and, decide_eq_true (e3.mp c2), Bool.true_or] at k; exact k
  · rw [cf_B_ne c, Bool.true_and, decide_eq_true (e4.mp c3), Bool.or_true] at k; exact k
  · rw [cf_B_ne c, Bool.true_and, decide_eq_false (mt e3.mpr c2), decide_eq_false (mt e4.mpr c3)] at k; exact k
theorem c185 {w h : Nat} (K : cf_K4 w h hi) {q d m : Nat} (hq : q < w * h) (hd : d < 4) (hm : m < 2 ^ 20) (k : RL (cf_four w h (q + 64 * d) m) hi hl v) : rx_CL L t 185 [.ref 90, .int (nI q), .int (nI d), .int (nI m)] hi hl v RL := by
  have hwh := cf_wh4 K
  obtain ⟨g1, g2⟩ := cf_cod (show q < 64 by omega) hd
  have e3 : nI m = (3 : Int32) ↔ m = 3 := by rw [show (3 : Int32) = nI 3 from rfl, nI_eq (by omega) (by decide)]
  unfold cf_four cf_tn at k
  rw [g1, g2] at k
  have main : ∀ to, to < 4 → cf_to (q + 64 * d) m = to → rx_CI L t 181 [.ref 90, .int (nI q), .int (nI (cf_opp d))] hi hl v (fun z2 hi2 hl2 v2 => (0 ≤ z2 → rx_CI L t 181 [.ref 90, .int z2, .int (nI to)] hi2 hl2 v2 (fun z4 hi4 hl4 v4 => rx_CI L t 181 [.ref 90, .int (nI q), .int (nI to)] hi4 hl4 v4 (fun z5 hi5 hl5 v5 => (z4 < 0 → ∃ z : Int64, some (Value.long 0) = some (.long z) ∧ rx_ok2 L t (rx_hp L t hi5 hl5 v5) (RL z)) ∧ (¬ z4 < 0 → ((0 ≤ z5 → rx_CL L t 169 [.int (nI q)] hi5 hl5 v5 (fun z8 hi8 hl8 v8 => rx_CL L t 169 [.int z2] hi8 hl8 v8 (fun z9 hi9 hl9 v9 => rx_CL L t 169 [.int z4] hi9 hl9 v9 (fun z10 hi10 hl10 v10 => rx_CL L t 169 [.int z5] hi10 hl10 v10 (fun z11 hi11 hl11 v11 => ∃ z : Int64, some (Value.long (((z8 ||| z9) ||| z10) ||| z11)) = some (.long z) ∧ rx_ok2 L t (rx_hp L t hi11 hl11 v11) (RL z)))))) ∧ (¬ 0 ≤ z5 → ∃ z : Int64, some (Value.long 0) = some (.long z) ∧ rx_ok2 L t (rx_hp L t hi5 hl5 v5) (RL z))))))) ∧ (¬ 0 ≤ z2 → rx_CI L t 181 [.ref 90, .int (nI q), .int (nI to)] hi2 hl2 v2 (fun z12 hi12 hl12 v12 => ∃ z : Int64, some (Value.long 0) = some (.long z) ∧ rx_ok2 L t (rx_hp L t hi12 hl12 v12) (RL z)))) := by
    intro to hto eto
    rw [eto] at k
    refine c181 K hq (cf_opp_lt d) ?_
    cases e : cf_step w h q (cf_opp d) with
    | none =>
      rw [e] at k
      exact ⟨fun c => absurd c (by decide), fun _ => c181 K hq hto (c_retL k)⟩
    | some b =>
      rw [e] at k
      dsimp only at k
      have hb := cf_step_lt hq e
      refine ⟨fun _ => c181 K hb hto (c181 K hq hto ?_), fun c => absurd (nI_pos' (by omega)) c⟩
      cases en : cf_step w h b to with
      | none =>
        rw [en] at k
        exact ⟨fun _ => c_retL k, fun c => absurd (by decide) c⟩
      | some n =>
        have hn := cf_step_64 hwh hb en
        refine ⟨fun c => absurd c (nI_pos (by omega)), fun _ => ?_⟩
        cases ec : cf_step w h q to with
        | none =>
          rw [en, ec] at k
          exact ⟨fun c => absurd c (by decide), fun _ => c_retL k⟩
        | some c =>
          rw [en, ec] at k
          have hc := cf_step_64 hwh hq ec
          exact ⟨fun _ => c169 (by omega) (c169 (by omega) (c169 hn (c169 hc (c_retL k)))), fun g => absurd (nI_pos' (by omega)) g⟩
  refine w185_four_r ⟨fun c => ?_, fun c => ?_⟩
  · have := main (cf_lf d) (by unfold cf_lf; omega) (by unfold cf_to; rw [if_pos (e3.mp c), g2])
    rw [show (2 : Int32) = nI 2 from rfl, cf_rot d 2 hd (by decide), show (3 : Int32) = nI 3 from rfl, cf_rot d 3 hd (by decide)]
    exact this
  · have := main (cf_rt d) (by unfold cf_rt; omega) (by unfold cf_to; rw [if_neg (mt e3.mpr c), g2])
    rw [show (2 : Int32) = nI 2 from rfl, cf_rot d 2 hd (by decide), show (1 : Int32) = nI 1 from rfl, cf_rot d 1 hd (by decide)]
    exact this
end RXE
