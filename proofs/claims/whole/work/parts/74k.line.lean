/-! line, slot, mean of both. -/
theorem cf_lnP {n : Nat} (hn : n ≤ 6) {hi : Nat → Nat → Int32} {v : Nat → Nat → Option Nat} (h : ∀ j, j < 40 → (v 6 j = none ∧ hi 114 j = -1) ∨ ∃ c, c < n ∧ v 6 j = some (rx_ct c) ∧ hi 114 j = nI c) : ∃ P : Nat → Nat, ∀ j, j < 40 → P j ≤ n ∧ v 6 j = (if P j = 0 then none else some (rx_ct (P j - 1))) ∧ hi 114 j = oI (P j) := by
  refine ⟨fun j => (hi 114 j + 1).toInt.toNat, fun j hj => ?_⟩
  have key : ∀ p, (hi 114 j + 1).toInt.toNat = p → (p ≤ n ∧ v 6 j = (if p = 0 then none else some (rx_ct (p - 1))) ∧ hi 114 j = oI p) → ((hi 114 j + 1).toInt.toNat ≤ n ∧ v 6 j = (if (hi 114 j + 1).toInt.toNat = 0 then none else some (rx_ct ((hi 114 j + 1).toInt.toNat - 1))) ∧ hi 114 j = oI (hi 114 j + 1).toInt.toNat) := by
    intro p e; subst e; exact id
  rcases h j hj with ⟨h1, h2⟩ | ⟨c, hc, h1, h2⟩
  · have : (hi 114 j + 1).toInt.toNat = 0 := by rw [h2]; rfl
    exact key 0 this ⟨by omega, by rw [if_pos rfl]; exact h1, h2⟩
  · have : (hi 114 j + 1).toInt.toNat = c + 1 := by rw [h2, show (1 : Int32) = nI 1 from rfl, nI_add, nI_toInt (by omega)]; rfl
    exact key (c + 1) this ⟨by omega, by rw [if_neg (by omega)]; exact h1, by rw [cf_oS]; exact h2⟩
def cf_fl1 (P : Nat → Nat) (i n : Nat) : Nat := n + (if P i = 0 then 0 else 1)
def cf_ln1 (P e : Nat → Nat) (i n : Nat) : Nat := n + (if P i = 0 then 0 else e (P i - 1))
theorem cf_fl1_le {P : Nat → Nat} {i n : Nat} (h : n ≤ i) : cf_fl1 P i n ≤ i + 1 := by
  unfold cf_fl1; split <;> omega
/-- a line of s places, kind k: what refuses a slot -/
def cf_slz (n s k : Nat) (kd : Nat → Nat) (a0 a1 : Int32) : Option Int32 := if cf_cn n a1 = 0 then some (-2) else if ¬ (0 ≤ a0.toInt ∧ a0.toInt < s) then some (-11) else if kd (cf_cn n a1 - 1) < k then some (-14) else none
section RXE
variable {L : Nat} {t : List (Nat × Nat)} {hi : Nat → Nat → Int32} {hl : Nat → Nat → Int64} {v : Nat → Nat → Option Nat}
variable {RI : Int32 → (Nat → Nat → Int32) → (Nat → Nat → Int64) → (Nat → Nat → Option Nat) → Prop}
variable {RV : (Nat → Nat → Int32) → (Nat → Nat → Int64) → (Nat → Nat → Option Nat) → Prop}
theorem c153 {v0 : Nat → Nat → Option Nat} {a0 a1 : Int32} (k : ∀ v2, (∀ a b, ¬ a = 6 → v2 a b = v0 a b) → (∀ j, j < 40 → v2 6 j = none) → RV (rx_u (rx_u hi 5 1 a0) 5 2 a1) hl v2) : rx_CV L t 153 [.ref 5, .int a0, .int a1] hi hl v0 RV := by
  have lp : ∀ d i, i + d = 40 → ∀ v : Nat → Nat → Option Nat, (∀ a b, ¬ a = 6 → v a b = v0 a b) → (∀ j, j < i → v 6 j = none) → rx_aw 153 12 [.ref 5, .int a0, .int a1, .int (nI i)] [] (rx_hp L t (rx_u (rx_u hi 5 1 a0) 5 2 a1) hl v) (fun r h2 => r = none ∧ rx_ok2 L t h2 RV) := by
    intro d
    induction d with
    | zero =>
      intro i hid v F W
      refine w153_begin_12 ⟨fun g => c_retV (k v F (fun j hj => W j (by omega))), fun g => absurd ?_ g⟩
      rw [show (40 : Int32) = nI 40 from rfl, cf_nle (by omega) (by omega)]; omega
    | succ d ih =>
      intro i hid v F W
      refine w153_begin_12 ⟨fun g => ?_, fun g => ⟨i, rfl, by omega, ?_⟩⟩
      · rw [show (40 : Int32) = nI 40 from rfl, cf_nle (by omega) (by omega)] at g; omega
      · rw [show (1 : Int32) = nI 1 from rfl, nI_add]
        refine ih (i + 1) (by omega) _ (fun a b q => ?_) (fun j hj => ?_)
        · rw [cf_ru_ne (by omega)]; exact F a b q
        · by_cases e : j = i
          · subst e; exact cf_ru_eq
          · rw [cf_ru_ne (by omega)]; exact W j (by omega)
  exact w153_begin (lp 40 0 (by omega) v0 (fun _ _ _ => rfl) (fun j hj => by omega))
def cf_lnz (a0 a1 : Int32) : Option Int32 := if ¬ (0 ≤ a0.toInt ∧ a0.toInt ≤ 3) ∨ 40 < a1.toInt then some (-2) else if a1.toInt < 0 then some (-13) else none
theorem cf_lnz_n {a0 a1 : Int32} (h : cf_lnz a0 a1 = none) : ∃ k s, k < 4 ∧ s ≤ 40 ∧ a0 = nI k ∧ a1 = nI s := by
  unfold cf_lnz at h
  by_cases q1 : ¬ (0 ≤ a0.toInt ∧ a0.toInt ≤ 3) ∨ 40 < a1.toInt
  · rw [if_pos q1] at h; cases h
  · rw [if_neg q1] at h
    by_cases q2 : a1.toInt < 0
    · rw [if_pos q2] at h; cases h
    · exact ⟨_, _, by omega, by omega, (cf_x (x := a0) (by omega)).1, (cf_x (x := a1) (by omega)).1⟩
theorem c152 {a0 a1 : Int32} (kr : ∀ z, cf_lnz a0 a1 = some z → RI z hi hl v) (kg : cf_lnz a0 a1 = none → ∀ v2, (∀ a b, ¬ a = 6 → v2 a b = v a b) → (∀ j, j < 40 → v2 6 j = none) → RI a1 (rx_u (rx_u hi 5 1 a0) 5 2 a1) hl v2) : rx_CI L t 152 [.ref 1, .int a0, .int a1] hi hl v RI := by
  have h0 : ((0 : Int32)).toInt = 0 := rfl
  have h3 : ((3 : Int32)).toInt = 3 := rfl
  have h4 : ((40 : Int32)).toInt = 40 := rfl
  unfold cf_lnz at kr kg
  refine w152_line ⟨fun g => c_retI (kr _ ?_), fun g => ⟨fun g2 => c_retI (kr _ ?_), fun g2 => ⟨fun g3 => ⟨fun g4 => ?_, fun g4 => c_retI (kr _ ?_)⟩, fun g3 => c_retI (kr _ ?_)⟩⟩⟩
  · rw [cf_lt] at g; rw [if_pos (by omega)]
  · rw [cf_lt] at g2; rw [if_pos (by omega)]
  · rw [cf_lt] at g g2; rw [cf_le'] at g3 g4
    exact c153 (fun v2 F W => c_retI (kg (by rw [if_neg (by omega), if_neg (by omega)]) v2 F W))
  · rw [cf_lt] at g g2; rw [cf_le'] at g3 g4; rw [if_neg (by omega), if_pos (by omega)]
  · rw [cf_le'] at g3; rw [if_pos (by omega)]
theorem c243 {a0 a1 : Int32} (kr : ∀ z, cf_lnz a0 a1 = some z → RI z hi hl v) (kg : cf_lnz a0 a1 = none → ∀ hi2, (∀ a b, ¬ a = 114 → ¬ (a = 90 ∧ (b = 30 ∨ b = 31)) → hi2 a b = hi a b) → hi2 90 30 = a1 → hi2 90 31 = a0 → (∀ j, j < 40 → hi2 114 j = -1) → RI a1 hi2 hl v) : rx_CI L t 243 [.ref 90, .int a0, .int a1] hi hl v RI := by
  have h0 : ((0 : Int32)).toInt = 0 := rfl
  have h3 : ((3 : Int32)).toInt = 3 := rfl
  have h4 : ((40 : Int32)).toInt = 40 := rfl
  unfold cf_lnz at kr kg
  refine w243_line_r ⟨fun g => c_retI (kr _ ?_), fun g => ⟨fun g2 => c_retI (kr _ ?_), fun g2 => ⟨fun g3 => ⟨fun g4 => ?_, fun g4 => c_retI (kr _ ?_)⟩, fun g3 => c_retI (kr _ ?_)⟩⟩⟩
  · rw [cf_lt] at g; rw [if_pos (by omega)]
  · rw [cf_lt] at g2; rw [if_pos (by omega)]
  · rw [cf_lt] at g g2; rw [cf_le'] at g3 g4
    have kg' := kg (by rw [if_neg (by omega), if_neg (by omega)])
    have lp : ∀ d i, i + d = 40 → ∀ hi2 : Nat → Nat → Int32, (∀ a b, ¬ a = 114 → hi2 a b = rx_u (rx_u hi 90 30 a1) 90 31 a0 a b) → (∀ j, j < i → hi2 114 j = -1) → rx_aw 243 37 [.ref 90, .int a0, .int a1, .int (nI i)] [] (rx_hp L t hi2 hl v) (fun r h2 => ∃ z : Int32, r = some (.int z) ∧ rx_ok2 L t h2 (RI z)) := by
      intro d
      induction d with
      | zero =>
        intro i hid hi2 F W
        refine w243_line_r_37 ⟨fun g => c_retI (kg' hi2 (fun a b q1 q2 => ?_) ?_ ?_ (fun j hj => W j (by omega))), fun g => absurd ?_ g⟩
        · rw [F a b q1, cf_ru_ne (by omega), cf_ru_ne (by omega)]
        · rw [F 90 30 (by omega), cf_ru_ne (by omega)]; exact cf_ru_eq
        · rw [F 90 31 (by omega)]; exact cf_ru_eq
        · rw [show (40 : Int32) = nI 40 from rfl, cf_nle (by omega) (by omega)]; omega
      | succ d ih =>
        intro i hid hi2 F W
        refine w243_line_r_37 ⟨fun g => ?_, fun g => ⟨i, rfl, by omega, ?_⟩⟩
        · rw [show (40 : Int32) = nI 40 from rfl, cf_nle (by omega) (by omega)] at g; omega
        · rw [show (1 : Int32) = nI 1 from rfl, nI_add]
          refine ih (i + 1) (by omega) _ (fun a b q => ?_) (fun j hj => ?_)
          · rw [cf_ru_ne (by omega)]; exact F a b q
          · by_cases e : j = i
            · subst e; exact cf_ru_eq
            · rw [cf_ru_ne (by omega)]; exact W j (by omega)
    exact lp 40 0 (by omega) _ (fun _ _ _ => rfl) (fun j hj => by omega)
  · rw [cf_lt] at g g2; rw [cf_le'] at g3 g4; rw [if_neg (by omega), if_pos (by omega)]
  · rw [cf_le'] at g3; rw [if_pos (by omega)]
theorem c155 {s n : Nat} {P : Nat → Nat} (hs : s ≤ 40) (hn : n ≤ 6) (e : hi 5 2 = nI s) (h : ∀ j, j < 40 → P j ≤ n ∧ v 6 j = (if P j = 0 then none else some (rx_ct (P j - 1)))) (k : RI (nI (cf_fol (cf_fl1 P) s 0 0)) hi hl v) : rx_CI L t 155 [.ref 5] hi hl v RI := by
  refine w155_filled (cf_lpg (f := cf_fl1 P) (P := fun i n => n ≤ i) (N := s) (A := fun n i => [.ref 5, .int (nI n), .int (nI i)]) (a0 := 0) (Nat.le_refl _) (fun i a _ h => cf_fl1_le h) (fun i m hi0 hm q => ?_) (fun hP => ?_))
  · refine w155_filled_4 ⟨fun g => ?_, fun g => ⟨i, rfl, by omega, ?_⟩⟩
    · rw [e, cf_nle (by omega) (by omega)] at g; omega
    · obtain ⟨h1, h2⟩ := h i (by omega)
      unfold cf_fl1 at q
      by_cases z : P i = 0
      · rw [if_pos z] at h2 q
        refine Or.inl ⟨h2, ?_⟩
        rw [show (0 : Int32) = nI 0 from rfl, show (1 : Int32) = nI 1 from rfl, nI_add, nI_add]; exact q
      · rw [if_neg z] at h2 q
        refine Or.inr ⟨_, by omega, h2, ?_⟩
        rw [show (1 : Int32) = nI 1 from rfl, nI_add, nI_add]; exact q
  · refine w155_filled_4 ⟨fun g => c_retI k, fun g => absurd ?_ g⟩
    rw [e, cf_nle (by omega) (by omega)]; omega
theorem c157 {S : cf_S} (V : cf_V S) (C : cf_C S hi) {s : Nat} {P : Nat → Nat} (hs : s ≤ 40) (e : hi 5 2 = nI s) (h : ∀ j, j < 40 → P j ≤ S 0 2 ∧ v 6 j = (if P j = 0 then none else some (rx_ct (P j - 1)))) (k : RI (nI (cf_fol (cf_ln1 P (S 4)) s 0 0)) hi hl v) : rx_CI L t 157 [.ref 5] hi hl v RI := by
  have hn := V.2.2.1
  refine w157_sumOfEnds (cf_lpg (f := cf_ln1 P (S 4)) (P := fun _ _ => True) (N := s) (A := fun n i => [.ref 5, .int (nI n), .int (nI i), rx_no]) (a0 := 0) trivial (fun _ _ _ _ => trivial) (fun i m hi0 hm q => ?_) (fun hP => ?_))
  · refine w157_sumOfEnds_4 ⟨fun g => ?_, fun g => ⟨i, rfl, by omega, ?_⟩⟩
    · rw [e, cf_nle (by omega) (by omega)] at g; omega
    · obtain ⟨h1, h2⟩ := h i (by omega)
      unfold cf_ln1 at q
      by_cases z : P i = 0
      · rw [if_pos z] at h2 q
        refine Or.inl ⟨h2, ?_⟩
        rw [show (0 : Int32) = nI 0 from rfl, show (1 : Int32) = nI 1 from rfl, nI_add, nI_add]; exact q
      · rw [if_neg z] at h2 q
        refine Or.inr ⟨_, by omega, h2, ?_⟩
        rw [(C.2.2.1 (P i - 1) (by omega)).2.2.1, show (1 : Int32) = nI 1 from rfl, nI_add, nI_add]; exact q
  · refine w157_sumOfEnds_4 ⟨fun g => c_retI k, fun g => absurd ?_ g⟩
    rw [e, cf_nle (by omega) (by omega)]; omega
theorem c156 {S : cf_S} (V : cf_V S) (C : cf_C S hi) {s : Nat} {P : Nat → Nat} (hs : s ≤ 40) (e : hi 5 2 = nI s) (h : ∀ j, j < 40 → P j ≤ S 0 2 ∧ v 6 j = (if P j = 0 then none else some (rx_ct (P j - 1)))) {x : Int32} (k0 : x = 0 → RI (-15) hi hl v) (k : ¬ x = 0 → RI (nI (cf_fol (cf_ln1 P (S 4)) s 0 0) / x) hi hl v) : rx_CI L t 156 [.ref 1, .int x] hi hl v RI := by
  refine w156_mean ⟨fun g => ⟨fun g2 => c_retI (k0 g2), fun g2 => c157 V C hs e h ⟨g2, c_retI (k g2)⟩⟩, fun g => absurd ?_ g⟩
  rw [e, show (0 : Int32) = nI 0 from rfl, cf_nle (by omega) (by omega)]; omega
theorem c245 {S : cf_S} (V : cf_V S) (M : cf_M S hi) {s : Nat} {P : Nat → Nat} (hs : s ≤ 40) (e : hi 90 30 = nI s) (h : ∀ j, j < 40 → P j ≤ S 0 2 ∧ hi 114 j = oI (P j)) {x : Int32} (k0 : x = 0 → RI (-15) hi hl v) (k : ¬ x = 0 → RI (nI (cf_fol (cf_ln1 P (S 4)) s 0 0) / x) hi hl v) : rx_CI L t 245 [.ref 90, .int x] hi hl v RI := by
  have hn := V.2.2.1
  refine w245_mean_r ⟨fun g => ⟨fun g2 => c_retI (k0 g2), fun g2 => ?_⟩, fun g => absurd ?_ g⟩
  · refine cf_lpg (f := cf_ln1 P (S 4)) (P := fun _ _ => True) (N := s) (A := fun n i => [.ref 90, .int x, .int (nI n), .int (nI i)]) (a0 := 0) trivial (fun _ _ _ _ => trivial) (fun i m hi0 hm q => ?_) (fun hP => ?_)
    · refine w245_mean_r_21 ⟨fun g => ?_, fun g => ⟨i, rfl, by omega, fun g3 => ?_, fun g3 => ⟨i, rfl, by omega, P i - 1, ?_, by have := (h i (by omega)).1; omega, ?_⟩⟩⟩
      · rw [e, cf_nle (by omega) (by omega)] at g; omega
      all_goals obtain ⟨h1, h2⟩ := h i (by omega)
      all_goals rw [h2, cf_oneg (by omega)] at g3
      all_goals unfold cf_ln1 at q
      · rw [if_pos g3] at q
        rw [show (0 : Int32) = nI 0 from rfl, show (1 : Int32) = nI 1 from rfl, nI_add, nI_add]; exact q
      · rw [h2, ← cf_oS, show P i - 1 + 1 = P i by omega]
      · rw [if_neg g3] at q
        rw [(M.2.2.2.2.2.1 (P i - 1) (by omega)).2.1, show (1 : Int32) = nI 1 from rfl, nI_add, nI_add]; exact q
    · refine w245_mean_r_21 ⟨fun g => ⟨g2, c_retI (k g2)⟩, fun g => absurd ?_ g⟩
      rw [e, cf_nle (by omega) (by omega)]; omega
  · rw [e, show (0 : Int32) = nI 0 from rfl, cf_nle (by omega) (by omega)]; omega
/-- a slot while there is a line -/
theorem c154 {S : cf_S} (V : cf_V S) (C : cf_C S hi) {s kd : Nat} {P : Nat → Nat} (hs : s ≤ 40) (hk : kd < 4) (e : hi 5 2 = nI s) (e1 : hi 5 1 = nI kd) (h : ∀ j, j < 40 → P j ≤ S 0 2 ∧ v 6 j = (if P j = 0 then none else some (rx_ct (P j - 1)))) {a0 a1 : Int32} (kr : ∀ z, cf_slz (S 0 2) s kd (S 3) a0 a1 = some z → RI z hi hl v)
    (kg : cf_slz (S 0 2) s kd (S 3) a0 a1 = none → ∀ j c, a0 = nI j → a1 = nI c → j < s → c < S 0 2 → RI (nI (cf_fol (cf_fl1 (fun i => if i = j then c + 1 else P i)) s 0 0)) hi hl (rx_u v 6 j (some (rx_ct c)))) : rx_CI L t 154 [.ref 1, .int a0, .int a1] hi hl v RI := by
  have hn := V.2.2.1
  have h0 : ((0 : Int32)).toInt = 0 := rfl
  unfold cf_slz at kr kg
  refine w154_slot (c59 V C ?_)
  by_cases hc0 : cf_cn (S 0 2) a1 = 0
  · rw [if_pos hc0]
    exact Or.inl ⟨rfl, c_retI (kr _ (by rw [if_pos hc0]))⟩
  rw [if_neg hc0]
  obtain ⟨ex, hcl⟩ := cf_cn_x (x := a1) hn (by omega)
  rw [if_neg hc0] at kr kg
  generalize hcc : cf_cn (S 0 2) a1 - 1 = c at *
  have v3 := (V.2.2.2.2.2.2.1 c hcl).1
  refine Or.inr ⟨c, by omega, rfl, fun g => ⟨fun g2 => c_retI (kr _ ?_), fun g2 => ⟨fun g3 => ⟨fun g4 => ⟨a0.toInt.toNat, ?_, ?_, ?_⟩, fun g4 => c_retI (kr _ ?_)⟩, fun g3 => c_retI (kr _ ?_)⟩⟩, fun g => absurd ?_ g⟩
  · rw [cf_lt] at g2; rw [if_pos (by omega)]
  all_goals try rw [cf_lt] at g2
  all_goals try rw [e, cf_lt, nI_toInt (by omega)] at g3
  · exact (cf_x (x := a0) (by omega)).1
  · omega
  · rw [e1, (C.2.2.1 c hcl).1, cf_nle (by omega) (by omega)] at g4
    have kg' := kg (by rw [if_neg (by omega), if_neg (by omega)]) a0.toInt.toNat c (cf_x (x := a0) (by omega)).1 ex (by omega) hcl
    refine c155 (P := fun i => if i = a0.toInt.toNat then c + 1 else P i) hs hn e (fun j hj => ?_) (c_retI kg')
    by_cases z : j = a0.toInt.toNat
    · subst z
      rw [if_pos rfl]
      refine ⟨by omega, ?_⟩
      rw [if_neg (by omega)]; exact cf_ru_eq
    · rw [if_neg z, cf_ru_ne (by omega)]; exact h j hj
  · rw [e1, (C.2.2.1 c hcl).1, cf_nle (by omega) (by omega)] at g4
    rw [if_neg (by omega), if_pos (by omega)]
  · rw [if_pos (by omega)]
  · rw [e, show (0 : Int32) = nI 0 from rfl, cf_nle (by omega) (by omega)]; omega
theorem c244 {S : cf_S} (V : cf_V S) (M : cf_M S hi) {s kd : Nat} {P : Nat → Nat} (hs : s ≤ 40) (hk : kd < 4) (e : hi 90 30 = nI s) (e1 : hi 90 31 = nI kd) (h : ∀ j, j < 40 → P j ≤ S 0 2 ∧ hi 114 j = oI (P j)) {a0 a1 : Int32} (kr : ∀ z, cf_slz (S 0 2) s kd (S 3) a0 a1 = some z → RI z hi hl v)
    (kg : cf_slz (S 0 2) s kd (S 3) a0 a1 = none → ∀ j c, a0 = nI j → a1 = nI c → j < s → c < S 0 2 → RI (nI (cf_fol (cf_fl1 (fun i => if i = j then c + 1 else P i)) s 0 0)) (rx_u hi 114 j (nI c)) hl v) : rx_CI L t 244 [.ref 90, .int a0, .int a1] hi hl v RI := by
  have hn := V.2.2.1
  have h0 : ((0 : Int32)).toInt = 0 := rfl
  unfold cf_slz at kr kg
  refine w244_slot_r (c161 V M ⟨fun g => c_retI (kr _ ?_), fun g => ?_⟩)
  · have := of_decide_eq_false (cf_B_eq g)
    rw [if_pos (by omega)]
  have hc0 := of_decide_eq_true (cf_B_ne g)
  obtain ⟨ex, hcl⟩ := cf_cn_x (x := a1) hn (by omega)
  rw [if_neg (by omega)] at kr kg
  generalize hcc : cf_cn (S 0 2) a1 - 1 = c at *
  have v3 := (V.2.2.2.2.2.2.1 c hcl).1
  have e3 := (M.2.2.2.2.2.1 c hcl).1
  refine ⟨fun g => ⟨fun g2 => c_retI (kr _ ?_), fun g2 => ⟨fun g3 => ⟨c, ex, by omega, fun g4 => ⟨a0.toInt.toNat, ?_, ?_, ?_⟩, fun g4 => c_retI (kr _ ?_)⟩, fun g3 => c_retI (kr _ ?_)⟩⟩, fun g => absurd ?_ g⟩
  · rw [cf_lt] at g2; rw [if_pos (by omega)]
  all_goals try rw [cf_lt] at g2
  all_goals try rw [e, cf_lt, nI_toInt (by omega)] at g3
  · exact (cf_x (x := a0) (by omega)).1
  · omega
  · rw [e1, e3, cf_nle (by omega) (by omega)] at g4
    have kg' := kg (by rw [if_neg (by omega), if_neg (by omega)]) a0.toInt.toNat c (cf_x (x := a0) (by omega)).1 ex (by omega) hcl
    generalize hj : a0.toInt.toNat = j at *
    rw [ex]
    refine cf_lpg (f := cf_fl1 (fun i => if i = j then c + 1 else P i)) (P := fun i n => n ≤ i) (N := s) (A := fun n i => [.ref 90, .int a0, .int (nI c), .int (nI n), .int (nI i)]) (a0 := 0) (Nat.le_refl _) (fun i a _ h => cf_fl1_le h) (fun i m hi0 hm q => ?_) (fun hP => ?_)
    · have ei : rx_u hi 114 j (nI c) 114 i = oI (if i = j then c + 1 else P i) := by
        by_cases z : i = j
        · subst z; rw [cf_ru_eq, if_pos rfl, cf_oS]
        · rw [cf_ru_ne (by omega), if_neg z]; exact (h i (by omega)).2
      have hle : (if i = j then c + 1 else P i) ≤ 6 := by
        have := (h i (by omega)).1
        split <;> omega
      refine w244_slot_r_64 ⟨fun g => ?_, fun g => ⟨i, rfl, by omega, fun g3 => ?_, fun g3 => ?_⟩⟩
      · rw [cf_ru_ne (by omega), e, cf_nle (by omega) (by omega)] at g; omega
      all_goals rw [ei, cf_oneg (by omega)] at g3
      all_goals unfold cf_fl1 at q
      · rw [if_pos g3] at q
        rw [show (0 : Int32) = nI 0 from rfl, show (1 : Int32) = nI 1 from rfl, nI_add, nI_add]; exact q
      · rw [if_neg g3] at q
        rw [show (1 : Int32) = nI 1 from rfl, nI_add, nI_add]; exact q
    · refine w244_slot_r_64 ⟨fun g => c_retI kg', fun g => absurd ?_ g⟩
      rw [cf_ru_ne (by omega), e, cf_nle (by omega) (by omega)]; omega
  · rw [e1, e3, cf_nle (by omega) (by omega)] at g4
    rw [if_neg (by omega), if_pos (by omega)]
  · rw [if_pos (by omega)]
  · rw [e, show (0 : Int32) = nI 0 from rfl, cf_nle (by omega) (by omega)]; omega
end RXE
theorem cf_pr_line {L : Nat} {t : List (Nat × Nat)} (a0 a1 : Int32) : cf_pr L t 152 243 [.int a0, .int a1] := by
  intro S ls hi hl v R
  obtain ⟨E1, E2, E3, E4, E5, E6⟩ := R.2.2.2
  refine c152 (fun z q => c243 (fun z2 q2 => ⟨?_, S, ls, R⟩) (fun q2 => ?_)) (fun q v2 Fv Wv => c243 (fun z2 q2 => ?_) (fun _ hi3 F3 e30 e31 W3 => ⟨rfl, ?_⟩))
  · rw [q] at q2; cases q2; rfl
  · rw [q] at q2; cases q2
  · rw [q] at q2; cases q2
  · have G : ∀ a b, ¬ a = 114 → ¬ (a = 90 ∧ (b = 30 ∨ b = 31)) → ¬ (a = 5 ∧ (b = 1 ∨ b = 2)) → hi3 a b = hi a b := fun a b q1 q2 q3 => by rw [F3 a b q1 q2, cf_ru_ne (by omega), cf_ru_ne (by omega)]
    obtain ⟨k, s, hk, hs, ek, es⟩ := cf_lnz_n q
    refine cf_rel_E R (fun a b q => ?_) ⟨?_, ?_, ?_, ?_, Or.inr ⟨s, k, hs, hk, ?_, e30.trans es, ?_, e31.trans ek, fun j hj => Or.inl ⟨Wv j hj, W3 j hj⟩⟩, ?_⟩
    · unfold cf_er at q; exact G a b (by omega) (by omega) (by omega)
    · rw [G _ _ (by omega) (by omega) (by omega), G _ _ (by omega) (by omega) (by omega)]; exact E1
    · refine cf_Et_ext E2 ?_ ?_ ?_ ?_ <;> (try intro b) <;> exact G _ _ (by omega) (by omega) (by omega)
    · refine cf_Eh_ext E3 ?_ ?_ ?_ ?_ <;> intro b <;> exact G _ _ (by omega) (by omega) (by omega)
    · refine cf_Em_ext E4 ?_ ?_ <;> intro b <;> exact G _ _ (by omega) (by omega) (by omega)
    · rw [F3 _ _ (by omega) (by omega), cf_ru_eq]; exact es
    · rw [F3 _ _ (by omega) (by omega), cf_ru_ne (by omega), cf_ru_eq]; exact ek
    · unfold cf_Ey; rw [Fv 1 7 (by omega)]; exact E6
theorem cf_pr_mean {L : Nat} {t : List (Nat × Nat)} (x : Int32) : cf_pr L t 156 245 [.int x] := by
  intro S ls hi hl v R
  obtain ⟨I, A, Z, E⟩ := id R
  have V := I.1
  have C := A.1.1.2.2.2.2.1
  have M := Z.1.2.2.1
  rcases E.2.2.2.2.1 with ⟨e1, e2⟩ | ⟨s, k, hs, hk, e1, e2, e3, e4, h⟩
  · refine w156_mean ⟨fun g => ?_, fun g => c_retI (w245_mean_r ⟨fun g => ?_, fun g => c_retI ⟨rfl, S, ls, R⟩⟩)⟩
    · rw [e1] at g; exact absurd g (by decide)
    · rw [e2] at g; exact absurd g (by decide)
  · obtain ⟨P, hP⟩ := cf_lnP V.2.2.1 h
    refine c156 V C hs e1 (fun j hj => ⟨(hP j hj).1, (hP j hj).2.1⟩) (fun q => c245 V M hs e2 (fun j hj => ⟨(hP j hj).1, (hP j hj).2.2⟩) (fun _ => ⟨rfl, S, ls, R⟩) (fun q2 => absurd q q2)) (fun q => c245 V M hs e2 (fun j hj => ⟨(hP j hj).1, (hP j hj).2.2⟩) (fun q2 => absurd q2 q) (fun _ => ⟨rfl, S, ls, R⟩))
theorem cf_pr_slot {L : Nat} {t : List (Nat × Nat)} (a0 a1 : Int32) : cf_pr L t 154 244 [.int a0, .int a1] := by
  intro S ls hi hl v R
  obtain ⟨I, A, Z, E⟩ := id R
  have V := I.1
  have C := A.1.1.2.2.2.2.1
  have M := Z.1.2.2.1
  obtain ⟨E1, E2, E3, E4, E5, E6⟩ := E
  rcases E5 with ⟨e1, e2⟩ | ⟨s, k, hs, hk, e1, e2, e3, e4, h⟩
  · refine w154_slot (c59 V C ?_)
    by_cases hc0 : cf_cn (S 0 2) a1 = 0
    · rw [if_pos hc0]
      refine Or.inl ⟨rfl, c_retI (w244_slot_r (c161 V M ⟨fun g => c_retI ⟨rfl, S, ls, R⟩, fun g => ?_⟩))⟩
      have := of_decide_eq_true (cf_B_ne g)
      omega
    · rw [if_neg hc0]
      have := (cf_cn_x (x := a1) V.2.2.1 (by omega)).2
      have := V.2.2.1
      refine Or.inr ⟨_, by omega, rfl, fun g => ?_, fun g => c_retI (w244_slot_r (c161 V M ⟨fun g => ?_, fun g => ⟨fun g => ?_, fun g => c_retI ⟨rfl, S, ls, R⟩⟩⟩))⟩
      · rw [e1] at g; exact absurd g (by decide)
      · have := of_decide_eq_false (cf_B_eq g); omega
      · rw [e2] at g; exact absurd g (by decide)
  · obtain ⟨P, hP⟩ := cf_lnP V.2.2.1 h
    refine c154 V C hs hk e1 e3 (fun j hj => ⟨(hP j hj).1, (hP j hj).2.1⟩) (fun z q => c244 V M hs hk e2 e4 (fun j hj => ⟨(hP j hj).1, (hP j hj).2.2⟩) (fun z2 q2 => ⟨?_, S, ls, R⟩) (fun q2 => ?_)) (fun q j c ej ec hj hc => c244 V M hs hk e2 e4 (fun j hj => ⟨(hP j hj).1, (hP j hj).2.2⟩) (fun z2 q2 => ?_) (fun _ j' c' ej' ec' hj' hc' => ?_))
    · rw [q] at q2; cases q2; rfl
    · rw [q] at q2; cases q2
    · rw [q] at q2; cases q2
    · have h6 := V.2.2.1
      rw [ej, nI_eq (by omega) (by omega)] at ej'
      rw [ec, nI_eq (by omega) (by omega)] at ec'
      subst ej' ec'
      refine ⟨rfl, cf_rel_E R (fun a b q => ?_) ⟨?_, ?_, ?_, ?_, Or.inr ⟨s, k, hs, hk, ?_, ?_, ?_, ?_, fun i hi0 => ?_⟩, ?_⟩⟩
      · unfold cf_er at q; exact cf_ru_ne (by omega)
      · rw [cf_ru_ne (by omega), cf_ru_ne (by omega)]; exact E1
      · refine cf_Et_ext E2 ?_ ?_ ?_ ?_ <;> (try intro b) <;> exact cf_ru_ne (by omega)
      · refine cf_Eh_ext E3 ?_ ?_ ?_ ?_ <;> intro b <;> exact cf_ru_ne (by omega)
      · refine cf_Em_ext E4 ?_ ?_ <;> intro b <;> exact cf_ru_ne (by omega)
      · rw [cf_ru_ne (by omega)]; exact e1
      · rw [cf_ru_ne (by omega)]; exact e2
      · rw [cf_ru_ne (by omega)]; exact e3
      · rw [cf_ru_ne (by omega)]; exact e4
      · by_cases z : i = j
        · subst z; exact Or.inr ⟨c, hc, cf_ru_eq, cf_ru_eq⟩
        · rw [cf_ru_ne (by omega), cf_ru_ne (by omega)]; exact h i hi0
      · unfold cf_Ey; rw [cf_ru_ne (by omega)]; exact E6
