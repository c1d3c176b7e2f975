/-! weight, at, shelved of both. -/
theorem cf_st_lt {S : cf_S} (V : cf_V S) {c : Nat} (hc : c < S 0 2) (u : Nat) : cf_st S u c < 2 ^ 20 := by
  have := ((cf_wv V u).1 c hc).2
  have := V.2.2.2.1
  omega
/-- behind tick 401 nothing changes -/
theorem cf_st_401 {S : cf_S} (V : cf_V S) {c : Nat} (hc : c < S 0 2) (u : Nat) : cf_st S (min u 401) c = cf_st S u c := by
  have := cf_set_lt V
  rw [← cf_st_min u hc, ← cf_st_min (min u 401) hc]
  congr 1
  omega
theorem cf_sp_401 {S : cf_S} (V : cf_V S) (s u : Nat) : cf_sp S (min u 401) s = cf_sp S u s := by
  have := cf_set_lt V
  rw [← cf_sp_min u s, ← cf_sp_min (min u 401) s]
  congr 1
  omega
def cf_wg (S : cf_S) (hs hn : Nat → Int32) (a0 : Int32) : Int32 := if ¬ (0 ≤ a0.toInt ∧ a0.toInt < 10) then -11 else if hs a0.toInt.toNat = 0 then -10
  else if hs a0.toInt.toNat = 2 then 5 + hn a0.toInt.toNat else if S 3 (hn a0.toInt.toNat).toInt.toNat = 0 then 10 else if S 3 (hn a0.toInt.toNat).toInt.toNat = 1 then
    (if cf_st S 402 (hn a0.toInt.toNat).toInt.toNat / 256 = 0 then 15 else 20 + oI (cf_st S 402 (hn a0.toInt.toNat).toInt.toNat / 256)) else if S 3 (hn a0.toInt.toNat).toInt.toNat = 2 then 30 else 12
/-- at -/
def cf_ata (S : cf_S) (a0 a1 a2 : Int32) : Int32 := if cf_cn (S 0 2) a0 = 0 ∨ a1.toInt < 0 ∨ ¬ (0 ≤ a2.toInt ∧ a2.toInt ≤ 3) then -2 else if a2.toInt = 0 then nI (cf_st S a1.toInt.toNat (cf_cn (S 0 2) a0 - 1) % 64) else if a2.toInt = 1 then nI (cf_st S a1.toInt.toNat (cf_cn (S 0 2) a0 - 1) / 64 % 4)
  else if a2.toInt = 2 then oI (cf_st S a1.toInt.toNat (cf_cn (S 0 2) a0 - 1) / 256) else nI (cf_mt S (cf_cn (S 0 2) a0 - 1) a1.toInt.toNat)
def cf_sha (S : cf_S) (a0 a1 : Int32) : Int32 := if ¬ (0 ≤ a0.toInt ∧ a0.toInt < S 0 3) ∨ a1.toInt < 0 then -2 else nI (cf_sp S a1.toInt.toNat a0.toInt.toNat)
section RXE
variable {L : Nat} {t : List (Nat × Nat)} {hi : Nat → Nat → Int32} {hl : Nat → Nat → Int64} {v : Nat → Nat → Option Nat}
variable {RI : Int32 → (Nat → Nat → Int32) → (Nat → Nat → Int64) → (Nat → Nat → Option Nat) → Prop}
theorem c147 {x : Int32} (k0 : ¬ 0 ≤ x → RI 0 hi hl v) (k1 : 0 ≤ x → RI (5 + x) hi hl v) : rx_CI L t 147 [.int x] hi hl v RI := w147_shelfWeight ⟨fun g => c_retI (k1 g), fun g => c_retI (k0 g)⟩
theorem c146 {S : cf_S} (X : cf_XR S hi hl) (H : ∀ j, j < 10 → cf_hk (S 0 2) (S 0 3) (hi 3 j) (hi 4 j)) {a0 : Int32} (k : RI (cf_wg S (hi 3) (hi 4) a0) hi hl v) : rx_CI L t 146 [.ref 1, .int a0] hi hl v RI := by
  have V := X.1.1
  have C := X.1.2.2.2.2.1
  have hn := V.2.2.1
  have h12 := V.2.2.2.1
  refine w146_weight (c143 (fun q => ⟨fun _ => c_retIe k ?_, fun q => absurd rfl q⟩) (fun j ej hj => ⟨fun q => absurd q (by decide), fun _ => ⟨j, ej, hj, j, ej, hj, fun g => ?_, fun g => ⟨j, ej, hj, fun g2 => ?_, fun g2 => c_retIe k ?_⟩⟩⟩))
  · unfold cf_wg; rw [if_pos q]
  all_goals subst ej
  all_goals have ej : (nI j).toInt.toNat = j := by rw [nI_toInt (by omega)]; rfl
  all_goals have hj0 : ¬ ¬ (0 ≤ (nI j).toInt ∧ (nI j).toInt < 10) := by rw [nI_toInt (by omega)]; omega
  all_goals unfold cf_wg at k
  all_goals rw [if_neg hj0, ej] at k
  · rw [g, if_neg (by decide), if_pos rfl] at k
    refine c147 (fun q => ?_) (fun q => c_retI k)
    rcases H j hj with w | ⟨w, c, hc, ec⟩ | ⟨w, c, hc, ec⟩
    · rw [w] at g; exact absurd g (by decide)
    · rw [w] at g; exact absurd g (by decide)
    · rw [ec] at q
      exact absurd (by rw [show (0 : Int32) = nI 0 from rfl, nI_leI (by omega) (by omega)]; omega) q
  · rw [g2, if_neg (by decide), if_neg (by decide)] at k
    rcases H j hj with w | ⟨w, c, hc, ec⟩ | ⟨w, c, hc, ec⟩
    · rw [w] at g2; exact absurd g2 (by decide)
    · have ecn : cf_cn (S 0 2) (hi 4 j) = c + 1 := by
        unfold cf_cn; rw [ec, nI_toInt (by omega), if_pos (by omega)]; rfl
      have ec2 : (hi 4 j).toInt.toNat = c := by rw [ec, nI_toInt (by omega)]; rfl
      rw [ec2] at k
      have e5 := (C.2.2.1 c hc).1
      have v3 := (V.2.2.2.2.2.2.1 c hc).1
      refine c59 V C ?_
      rw [ecn, if_neg (by omega)]
      refine Or.inr ⟨c, by omega, rfl, fun g3 => c_retIe k ?_, fun g3 => ⟨fun g4 => ?_, fun g4 => ⟨fun g5 => c_retIe k ?_, fun g5 => c_retIe k ?_⟩⟩⟩
      all_goals rw [e5, show (0 : Int32) = nI 0 from rfl, nI_eq (by omega) (by omega)] at g3
      · rw [if_pos g3]
      · rw [e5, show (1 : Int32) = nI 1 from rfl, nI_eq (by omega) (by omega)] at g4
        rw [if_neg g3, if_pos g4] at k
        rw [ec]
        refine c47R (j := 402) X hc (by omega) (c48 (by have := cf_st_lt V hc 402; omega) ?_)
        have lt := cf_st_lt V hc 402
        refine c147 (fun q => c_retIe k ?_) (fun q => c_retIe k ?_)
        · rw [cf_ole (by omega)] at q
          rw [if_pos (by omega)]; rfl
        · rw [cf_ole (by omega)] at q
          rw [if_neg (by omega), ← Int32.add_assoc]; rfl
      · rw [e5, show (1 : Int32) = nI 1 from rfl, nI_eq (by omega) (by omega)] at g4
        rw [e5, show (2 : Int32) = nI 2 from rfl, nI_eq (by omega) (by omega)] at g5
        rw [if_neg g3, if_neg g4, if_pos g5]
      · rw [e5, show (1 : Int32) = nI 1 from rfl, nI_eq (by omega) (by omega)] at g4
        rw [e5, show (2 : Int32) = nI 2 from rfl, nI_eq (by omega) (by omega)] at g5
        rw [if_neg g3, if_neg g4, if_neg g5]
    · rw [w] at g2; exact absurd g2 (by decide)
  · rcases H j hj with w | ⟨w, c, hc, ec⟩ | ⟨w, c, hc, ec⟩
    · unfold cf_wg; rw [if_neg hj0, ej, if_pos w]
    · exact absurd w g2
    · exact absurd w g
theorem c240 {S : cf_S} (V : cf_V S) (M : cf_M S hi) (N : cf_NW S hi hl) (H : ∀ j, j < 10 → cf_hk (S 0 2) (S 0 3) (hi 110 j) (hi 111 j)) {a0 : Int32} (k : RI (cf_wg S (hi 110) (hi 111) a0) hi hl v) : rx_CI L t 240 [.ref 90, .int a0] hi hl v RI := by
  have hn := V.2.2.1
  have h12 := V.2.2.2.1
  have h0 : ((0 : Int32)).toInt = 0 := rfl
  have h9 : ((9 : Int32)).toInt = 9 := rfl
  refine w240_weight_r ⟨fun g3 => c_retIe k ?_, fun g3 => ⟨fun g4 => ?_, fun g4 => c_retIe k ?_⟩⟩
  · rw [cf_lt] at g3; unfold cf_wg; rw [if_pos (by omega)]
  · rw [cf_lt] at g3
    rw [cf_le'] at g4
    obtain ⟨ej, _⟩ := cf_x (x := a0) (by omega)
    have hj : a0.toInt.toNat < 10 := by omega
    generalize a0.toInt.toNat = j at *
    subst ej
    have ej : (nI j).toInt.toNat = j := by rw [nI_toInt (by omega)]; rfl
    have hj0 : ¬ ¬ (0 ≤ (nI j).toInt ∧ (nI j).toInt < 10) := by rw [nI_toInt (by omega)]; omega
    unfold cf_wg at k
    rw [if_neg hj0, ej] at k
    refine ⟨j, rfl, hj, j, rfl, hj, fun g5 => c_retIe k ?_, fun g5 => ⟨fun g6 => c_retIe k ?_, fun g6 => ?_⟩⟩
    · rw [if_pos g5]
    · rw [if_neg g5, if_pos g6]
    · rw [if_neg g5, if_neg g6] at k
      rcases H j hj with w | ⟨w, c, hc, ec⟩ | ⟨w, c, hc, ec⟩
      · exact absurd w g5
      · have ec2 : (hi 111 j).toInt.toNat = c := by rw [ec, nI_toInt (by omega)]; rfl
        rw [ec2] at k
        have e5 := (M.2.2.2.2.2.1 c hc).1
        have v3 := (V.2.2.2.2.2.2.1 c hc).1
        have lt := cf_st_lt V hc 402
        have e3 : hi 103 (402 * c + 401) = oI (cf_st S 402 c / 256) := by
          rw [((N.1 c hc).1 401 (by omega)).2.2.1, ← cf_st_401 V hc 402]; rfl
        refine ⟨402 * c + 401, ?_, by omega, c, ec, by omega, fun g7 => c_retIe k ?_, fun g7 => ⟨c, ec, by omega, fun g8 => ⟨fun g9 => c_retIe k ?_, fun g9 => c_retIe k ?_⟩, fun g8 => ⟨c, ec, by omega, fun g9 => c_retIe k ?_, fun g9 => c_retIe k ?_⟩⟩⟩
        · rw [ec, show (402 : Int32) = nI 402 from rfl, cf_nmul, nI_add, show (1 : Int32) = nI 1 from rfl, cf_nsub (by omega)]
          congr 1
        all_goals rw [e5, show (0 : Int32) = nI 0 from rfl, nI_eq (by omega) (by omega)] at g7
        · rw [if_pos g7]
        all_goals rw [e5, show (1 : Int32) = nI 1 from rfl, nI_eq (by omega) (by omega)] at g8
        · rw [e3, cf_ole (by omega)] at g9
          rw [if_neg g7, if_pos g8, if_neg (by omega), e3]
        · rw [e3, cf_ole (by omega)] at g9
          rw [if_neg g7, if_pos g8, if_pos (by omega)]
        · rw [e5, show (2 : Int32) = nI 2 from rfl, nI_eq (by omega) (by omega)] at g9
          rw [if_neg g7, if_neg g8, if_pos g9]
        · rw [e5, show (2 : Int32) = nI 2 from rfl, nI_eq (by omega) (by omega)] at g9
          rw [if_neg g7, if_neg g8, if_neg g9]
      · exact absurd w g6
  · rw [cf_le'] at g4; unfold cf_wg; rw [if_pos (by omega)]
theorem c108 {S : cf_S} (X : cf_XR S hi hl) {a0 a1 a2 : Int32} (k : RI (cf_ata S a0 a1 a2) hi hl v) : rx_CI L t 108 [.ref 1, .int a0, .int a1, .int a2] hi hl v RI := by
  have V := X.1.1
  have C := X.1.2.2.2.2.1
  have hn := V.2.2.1
  have h0 : ((0 : Int32)).toInt = 0 := rfl
  have h1 : ((1 : Int32)).toInt = 1 := rfl
  have h2 : ((2 : Int32)).toInt = 2 := rfl
  have h3 : ((3 : Int32)).toInt = 3 := rfl
  refine w108_at (c59 V C ?_)
  by_cases hc0 : cf_cn (S 0 2) a0 = 0
  · rw [if_pos hc0]
    refine Or.inl ⟨rfl, c_retIe k ?_⟩
    unfold cf_ata; rw [if_pos (Or.inl hc0)]
  rw [if_neg hc0]
  obtain ⟨ex, hcl⟩ := cf_cn_x (x := a0) hn (by omega)
  refine Or.inr ⟨_, by omega, rfl, fun g => ?_, fun g => c_retIe k ?_⟩
  · rw [cf_le'] at g
    obtain ⟨ej, hj⟩ := cf_x (x := a1) (by omega)
    unfold cf_ata at k
    generalize hcc : cf_cn (S 0 2) a0 - 1 = c at *
    subst ex
    have lt := cf_st_lt V hcl a1.toInt.toNat
    rw [ej]
    refine c47R X hcl (by omega) ⟨fun g2 => c8 (c_retIe k ?_), fun g2 => ⟨fun g3 => c16 (by omega) (c_retIe k ?_), fun g3 => ⟨fun g4 => c48 (by omega) (c_retIe k ?_), fun g4 => ⟨fun g5 => c44 V C hcl (by omega) (c_retIe k ?_), fun g5 => c_retIe k ?_⟩⟩⟩⟩
    all_goals rw [cf_eqI] at g2
    · rw [if_neg (by omega), if_pos (by omega)]
    all_goals rw [cf_eqI] at g3
    · rw [if_neg (by omega), if_neg (by omega), if_pos (by omega)]
    all_goals rw [cf_eqI] at g4
    · rw [if_neg (by omega), if_neg (by omega), if_neg (by omega), if_pos (by omega)]
    all_goals rw [cf_eqI] at g5
    · rw [if_neg (by omega), if_neg (by omega), if_neg (by omega), if_neg (by omega)]
    · rw [if_pos (by omega)]
  · rw [cf_le'] at g
    unfold cf_ata; rw [if_pos (by omega)]
theorem c219 {x : Int32} (hx : 0 ≤ x.toInt) (k : RI (nI (min x.toInt.toNat 401)) hi hl v) : rx_CI L t 219 [.int x] hi hl v RI := by
  have h4 : ((402 : Int32)).toInt = 402 := rfl
  obtain ⟨ej, hj⟩ := cf_x hx
  refine w219_tickOf_r ⟨fun g => c_retIe k ?_, fun g => c_retIe k ?_⟩
  · rw [cf_lt] at g
    rw [Nat.min_eq_left (by omega), ← ej]
  · rw [cf_lt] at g
    rw [Nat.min_eq_right (by omega)]; rfl
theorem c218 {S : cf_S} (V : cf_V S) (M : cf_M S hi) (N : cf_NW S hi hl) {a0 a1 a2 : Int32} (k : RI (cf_ata S a0 a1 a2) hi hl v) : rx_CI L t 218 [.ref 90, .int a0, .int a1, .int a2] hi hl v RI := by
  have hn := V.2.2.1
  have h0 : ((0 : Int32)).toInt = 0 := rfl
  have h1 : ((1 : Int32)).toInt = 1 := rfl
  have h2 : ((2 : Int32)).toInt = 2 := rfl
  have h3 : ((3 : Int32)).toInt = 3 := rfl
  refine w218_at_r (c161 V M ⟨fun g => c_retIe k ?_, fun g => ?_⟩)
  · have := of_decide_eq_false (cf_B_eq g)
    unfold cf_ata; rw [if_pos (by omega)]
  have hc0 := of_decide_eq_true (cf_B_ne g)
  obtain ⟨ex, hcl⟩ := cf_cn_x (x := a0) hn (by omega)
  unfold cf_ata at k
  generalize hcc : cf_cn (S 0 2) a0 - 1 = c at *
  refine ⟨fun g2 => c_retIe k ?_, fun g2 => ⟨fun g3 => c_retIe k ?_, fun g3 => ⟨fun g4 => ?_, fun g4 => c_retIe k ?_⟩⟩⟩
  · rw [cf_lt] at g2; rw [if_pos (by omega)]
  · rw [cf_lt] at g3; rw [if_pos (by omega)]
  · rw [cf_lt] at g2 g3
    rw [cf_le'] at g4
    rw [if_neg (by omega)] at k
    subst ex
    have nw := (N.1 c hcl).1 (min a1.toInt.toNat 401) (by omega)
    rw [cf_st_401 V hcl] at nw
    have ix : (402 : Int32) * nI c + nI (min a1.toInt.toNat 401) = nI (402 * c + min a1.toInt.toNat 401) := cf_402
    refine c219 (by omega) ⟨fun g5 => ⟨_, ix, by omega, c_retIe k ?_⟩, fun g5 => ⟨fun g6 => ⟨_, ix, by omega, c_retIe k ?_⟩, fun g6 => ⟨fun g7 => ⟨_, ix, by omega, c_retIe k ?_⟩, fun g7 => ?_⟩⟩⟩
    all_goals rw [cf_eqI] at g5
    · rw [if_pos (by omega)]; exact nw.1.symm
    all_goals rw [cf_eqI] at g6
    · rw [if_neg (by omega), if_pos (by omega)]; exact nw.2.1.symm
    all_goals rw [cf_eqI] at g7
    · rw [if_neg (by omega), if_neg (by omega), if_pos (by omega)]; exact nw.2.2.1.symm
    · rw [if_neg (by omega), if_neg (by omega), if_neg (by omega)] at k
      obtain ⟨ej, hj⟩ := cf_x (x := a1) (by omega)
      have v4 := (V.2.2.2.2.2.2.1 c hcl).2.2.2.1
      rcases Nat.lt_or_ge a1.toInt.toNat (2 ^ 20) with q | q
      · rw [ej]
        exact c194 V M hcl q (c_retI k)
      · refine w194_moveAt_r ⟨c, rfl, by omega, fun g8 => c_retI (c_retIe k ?_), fun g8 => ?_⟩
        · unfold cf_mt; rw [if_neg (by omega)]; rfl
        · rw [(M.2.2.2.2.2.1 c hcl).2.1, cf_le', nI_toInt (by omega)] at g8; omega
  · rw [cf_le'] at g4; rw [if_pos (by omega)]
theorem c109 {S : cf_S} (X : cf_XR S hi hl) {a0 a1 : Int32} (k : RI (cf_sha S a0 a1) hi hl v) : rx_CI L t 109 [.ref 1, .int a0, .int a1] hi hl v RI := by
  have V := X.1.1
  have C := X.1.2.2.2.2.1
  have hn := V.2.2.2.1
  have h0 : ((0 : Int32)).toInt = 0 := rfl
  unfold cf_sha at k
  refine w109_shelved ⟨fun g => c_retIe k ?_, fun g => ⟨fun g2 => c_retIe k ?_, fun g2 => ⟨fun g3 => ?_, fun g3 => c_retIe k ?_⟩⟩⟩
  · rw [cf_lt] at g; rw [if_pos (by omega)]
  all_goals rw [C.2.1, cf_le', nI_toInt (by omega)] at g2
  · rw [if_pos (by omega)]
  · rw [cf_le'] at g3
    rw [cf_lt] at g
    rw [if_neg (by omega)] at k
    rw [(cf_x (x := a0) (by omega)).1, (cf_x (x := a1) (by omega)).1]
    exact c38R X (by omega) (cf_x (x := a1) (by omega)).2 (c_retI k)
  · rw [cf_le'] at g3; rw [if_pos (by omega)]
theorem c220 {S : cf_S} (V : cf_V S) (M : cf_M S hi) (N : cf_NW S hi hl) {a0 a1 : Int32} (k : RI (cf_sha S a0 a1) hi hl v) : rx_CI L t 220 [.ref 90, .int a0, .int a1] hi hl v RI := by
  have hn := V.2.2.2.1
  have h0 : ((0 : Int32)).toInt = 0 := rfl
  unfold cf_sha at k
  refine w220_shelved_r ⟨fun g => c_retIe k ?_, fun g => ⟨fun g2 => c_retIe k ?_, fun g2 => ⟨fun g3 => ?_, fun g3 => c_retIe k ?_⟩⟩⟩
  · rw [cf_lt] at g; rw [if_pos (by omega)]
  all_goals rw [M.2.2.1, cf_le', nI_toInt (by omega)] at g2
  · rw [if_pos (by omega)]
  · rw [cf_le'] at g3
    rw [cf_lt] at g
    rw [if_neg (by omega)] at k
    obtain ⟨es, _⟩ := cf_x (x := a0) (by omega)
    have hs : a0.toInt.toNat < S 0 3 := by omega
    generalize a0.toInt.toNat = s at *
    refine c219 (by omega) ⟨402 * s + min a1.toInt.toNat 401, by rw [es]; exact cf_402, by omega, c_retIe k ?_⟩
    rw [N.2 s hs _ (by omega), cf_sp_401 V]
  · rw [cf_le'] at g3; rw [if_pos (by omega)]
end RXE
theorem cf_wg_eq {S : cf_S} {hs hn hs2 hn2 : Nat → Int32} (e1 : ∀ j, j < 10 → hs2 j = hs j) (e2 : ∀ j, j < 10 → hn2 j = hn j) (a0 : Int32) : cf_wg S hs2 hn2 a0 = cf_wg S hs hn a0 := by
  unfold cf_wg
  by_cases q : 0 ≤ a0.toInt ∧ a0.toInt < 10
  · rw [e1 _ (by omega), e2 _ (by omega)]
  · rw [if_pos q, if_pos q]
theorem cf_pr_weight {L : Nat} {t : List (Nat × Nat)} (a0 : Int32) : cf_pr L t 146 240 [.int a0] := by
  intro S ls hi hl v R
  obtain ⟨I, A, Z, E⟩ := id R
  have E3 := E.2.2.1
  refine c146 A.1 (fun j hj => (E3 j hj).2.2) (c240 I.1 Z.1.2.2.1 Z.1.2.2.2.2 (fun j hj => ?_) ⟨?_, S, ls, R⟩)
  · rw [(E3 j hj).1, (E3 j hj).2.1]; exact (E3 j hj).2.2
  · exact cf_wg_eq (fun j hj => (E3 j hj).1) (fun j hj => (E3 j hj).2.1) a0
theorem cf_pr_at {L : Nat} {t : List (Nat × Nat)} (a0 a1 a2 : Int32) : cf_pr L t 108 218 [.int a0, .int a1, .int a2] := by
  intro S ls hi hl v R
  obtain ⟨I, A, Z, E⟩ := id R
  exact c108 A.1 (c218 I.1 Z.1.2.2.1 Z.1.2.2.2.2 ⟨rfl, S, ls, R⟩)
theorem cf_pr_shelved {L : Nat} {t : List (Nat × Nat)} (a0 a1 : Int32) : cf_pr L t 109 220 [.int a0, .int a1] := by
  intro S ls hi hl v R
  obtain ⟨I, A, Z, E⟩ := id R
  exact c109 A.1 (c220 I.1 Z.1.2.2.1 Z.1.2.2.2.2 ⟨rfl, S, ls, R⟩)
