/-! take, weight of both. -/
/-- take: d what is hung (0, or cart and 1 with its kind, or SHELF) -/
def cf_tk (S : cf_S) (hs hn : Nat → Int32) (a0 a1 : Int32) : Int32 := if ¬ (0 ≤ a1.toInt ∧ a1.toInt ≤ 4) then -2 else if ¬ (0 ≤ a0.toInt ∧ a0.toInt < 10) then -11 else if hs a0.toInt.toNat = 0 then -10
  else if (a1.toInt = 4 ∧ hs a0.toInt.toNat = 2) ∨ (¬ a1.toInt = 4 ∧ hs a0.toInt.toNat = 1 ∧ a1.toInt ≤ S 3 (hn a0.toInt.toNat).toInt.toNat) then hn a0.toInt.toNat else -12
section RXE
variable {L : Nat} {t : List (Nat × Nat)} {hi : Nat → Nat → Int32} {hl : Nat → Nat → Int64} {v : Nat → Nat → Option Nat}
variable {RI : Int32 → (Nat → Nat → Int32) → (Nat → Nat → Int64) → (Nat → Nat → Option Nat) → Prop}
theorem c_retIe {e z : Int32} (k : RI z hi hl v) (h : z = e) : ∃ z : Int32, (some (Value.int e)) = some (.int z) ∧ rx_ok2 L t (rx_hp L t hi hl v) (RI z) := by
  subst h; exact c_retI k
def cf_hk (n m : Nat) (s x : Int32) : Prop := s = 0 ∨ (s = 1 ∧ ∃ c, c < n ∧ x = nI c) ∨ (s = 2 ∧ ∃ c, c < m ∧ x = nI c)
theorem c145 {S : cf_S} (V : cf_V S) (C : cf_C S hi) (H : ∀ j, j < 10 → cf_hk (S 0 2) (S 0 3) (hi 3 j) (hi 4 j)) {a0 a1 : Int32} (k : RI (cf_tk S (hi 3) (hi 4) a0 a1) hi hl v) : rx_CI L t 145 [.ref 1, .int a0, .int a1] hi hl v RI := by
  have hn := V.2.2.1
  have h0 : ((0 : Int32)).toInt = 0 := rfl
  have h3 : ((3 : Int32)).toInt = 3 := rfl
  have h4 : ((4 : Int32)).toInt = 4 := rfl
  refine w145_take ⟨fun g => c_retIe k ?_, fun g => ⟨fun g2 => ?_, fun g2 => c_retIe k ?_⟩⟩
  · rw [cf_lt] at g; unfold cf_tk; rw [if_pos (by omega)]
  · rw [cf_lt] at g
    rw [cf_le'] at g2
    refine c143 (fun q => ⟨fun _ => c_retIe k ?_, fun q => absurd rfl q⟩) (fun j ej hj => ⟨fun q => absurd q (by decide), fun _ => ⟨j, ej, hj, fun g3 => c_retIe k ?_, fun g3 => ⟨j, ej, hj, fun g4 => ⟨j, ej, hj, c59 V C ?_⟩, fun g4 => ⟨fun g5 => c_retIe k ?_, fun g5 => ⟨j, ej, hj, fun g6 => ⟨j, ej, hj, c_retIe k ?_⟩, fun g6 => c_retIe k ?_⟩⟩⟩⟩⟩)
    · unfold cf_tk; rw [if_neg (by omega), if_pos q]
    all_goals subst ej
    all_goals have ej : (nI j).toInt.toNat = j := by rw [nI_toInt (by omega)]; rfl
    all_goals have hj0 : ¬ ¬ (0 ≤ (nI j).toInt ∧ (nI j).toInt < 10) := by rw [nI_toInt (by omega)]; omega
    · unfold cf_tk; rw [if_neg (by omega), if_neg hj0, ej, if_pos g3]
    · have hz : cf_tk S (hi 3) (hi 4) (nI j) a1 = if (¬ a1.toInt = 4 ∧ a1.toInt ≤ S 3 (hi 4 j).toInt.toNat) then hi 4 j else -12 := by
        unfold cf_tk
        rw [if_neg (by omega), if_neg hj0, ej, if_neg g3, g4]
        by_cases w : ¬ a1.toInt = 4 ∧ a1.toInt ≤ S 3 (hi 4 j).toInt.toNat
        · rw [if_pos w, if_pos (Or.inr ⟨w.1, rfl, w.2⟩)]
        · rw [if_neg w, if_neg (fun q => by rcases q with q | q; exact absurd q.2 (by decide); exact w ⟨q.1, q.2.2⟩)]
      rw [hz] at k
      rcases H j hj with q | ⟨q, c, hc, ec⟩ | ⟨q, c, hc, ec⟩
      · rw [q] at g4; exact absurd g4 (by decide)
      · have ecn : cf_cn (S 0 2) (hi 4 j) = c + 1 := by
          unfold cf_cn; rw [ec, nI_toInt (by omega), if_pos (by omega)]; rfl
        rw [ecn, if_neg (by omega)]
        have ec2 : (hi 4 j).toInt.toNat = c := by rw [ec, nI_toInt (by omega)]; rfl
        rw [ec2] at k
        have e5 := (C.2.2.1 c hc).1
        have v3 := (V.2.2.2.2.2.2.1 c hc).1
        refine Or.inr ⟨c, by omega, rfl, fun g5 => ⟨fun g6 => c_retIe k ?_, fun g6 => ⟨j, rfl, hj, c_retIe k ?_⟩⟩, fun g5 => ⟨j, rfl, hj, fun g6 => ?_, fun g6 => c_retIe k ?_⟩⟩
        · rw [e5, cf_lt, nI_toInt (by omega)] at g6
          rw [if_neg (by omega)]
        · rw [e5, cf_lt, nI_toInt (by omega)] at g6
          rw [cf_le'] at g5
          rw [if_pos (by omega)]
        · rw [q] at g6; exact absurd g6 (by decide)
        · rw [cf_le'] at g5
          rw [if_neg (by omega)]
      · rw [q] at g4; exact absurd g4 (by decide)
    · rw [cf_le'] at g5
      unfold cf_tk; rw [if_neg (by omega), if_neg hj0, ej, if_neg g3, if_neg (fun q => by rcases q with q | q; omega; exact g4 q.2.1)]
    · rw [cf_le'] at g5
      unfold cf_tk; rw [if_neg (by omega), if_neg hj0, ej, if_neg g3, if_pos (Or.inl ⟨by omega, g6⟩)]
    · rw [cf_le'] at g5
      unfold cf_tk; rw [if_neg (by omega), if_neg hj0, ej, if_neg g3, if_neg (fun q => by rcases q with q | q; exact g6 q.2; omega)]
  · rw [cf_le'] at g2; unfold cf_tk; rw [if_pos (by omega)]
theorem c239 {S : cf_S} (V : cf_V S) (M : cf_M S hi) (H : ∀ j, j < 10 → cf_hk (S 0 2) (S 0 3) (hi 110 j) (hi 111 j)) {a0 a1 : Int32} (k : RI (cf_tk S (hi 110) (hi 111) a0 a1) hi hl v) : rx_CI L t 239 [.ref 90, .int a0, .int a1] hi hl v RI := by
  have hn := V.2.2.1
  have h0 : ((0 : Int32)).toInt = 0 := rfl
  have h9 : ((9 : Int32)).toInt = 9 := rfl
  have h4 : ((4 : Int32)).toInt = 4 := rfl
  refine w239_take_r ⟨fun g => c_retIe k ?_, fun g => ⟨fun g2 => ⟨fun g3 => c_retIe k ?_, fun g3 => ⟨fun g4 => ?_, fun g4 => c_retIe k ?_⟩⟩, fun g2 => c_retIe k ?_⟩⟩
  · rw [cf_lt] at g; unfold cf_tk; rw [if_pos (by omega)]
  · rw [cf_lt] at g g3; rw [cf_le'] at g2; unfold cf_tk; rw [if_neg (by omega), if_pos (by omega)]
  · rw [cf_lt] at g g3
    rw [cf_le'] at g2 g4
    obtain ⟨ej, _⟩ := cf_x (x := a0) (by omega)
    have hj : a0.toInt.toNat < 10 := by omega
    generalize a0.toInt.toNat = j at *
    subst ej
    have ej : (nI j).toInt.toNat = j := by rw [nI_toInt (by omega)]; rfl
    have hj0 : ¬ ¬ (0 ≤ (nI j).toInt ∧ (nI j).toInt < 10) := by rw [nI_toInt (by omega)]; omega
    refine ⟨j, rfl, hj, fun g5 => c_retIe k ?_, fun g5 => ⟨fun g6 => ⟨j, rfl, hj, fun g7 => ⟨j, rfl, hj, c_retIe k ?_⟩, fun g7 => c_retIe k ?_⟩, fun g6 => ⟨j, rfl, hj, fun g7 => ⟨j, rfl, hj, ?_⟩, fun g7 => c_retIe k ?_⟩⟩⟩
    · unfold cf_tk; rw [if_neg (by omega), if_neg hj0, ej, if_pos g5]
    · rw [cf_eqI] at g6
      unfold cf_tk; rw [if_neg (by omega), if_neg hj0, ej, if_neg g5, if_pos (Or.inl ⟨by omega, g7⟩)]
    · rw [cf_eqI] at g6
      unfold cf_tk; rw [if_neg (by omega), if_neg hj0, ej, if_neg g5, if_neg (fun q => by rcases q with q | q; exact g7 q.2; omega)]
    · rw [cf_eqI] at g6
      have hz : cf_tk S (hi 110) (hi 111) (nI j) a1 = if (¬ a1.toInt = 4 ∧ a1.toInt ≤ S 3 (hi 111 j).toInt.toNat) then hi 111 j else -12 := by
        unfold cf_tk
        rw [if_neg (by omega), if_neg hj0, ej, if_neg g5, g7]
        by_cases w : ¬ a1.toInt = 4 ∧ a1.toInt ≤ S 3 (hi 111 j).toInt.toNat
        · rw [if_pos w, if_pos (Or.inr ⟨w.1, rfl, w.2⟩)]
        · rw [if_neg w, if_neg (fun q => by rcases q with q | q; exact absurd q.2 (by decide); exact w ⟨q.1, q.2.2⟩)]
      rw [hz] at k
      rcases H j hj with q | ⟨q, c, hc, ec⟩ | ⟨q, c, hc, ec⟩
      · rw [q] at g7; exact absurd g7 (by decide)
      · have ec2 : (hi 111 j).toInt.toNat = c := by rw [ec, nI_toInt (by omega)]; rfl
        rw [ec2] at k
        have e5 := (M.2.2.2.2.2.1 c hc).1
        have v3 := (V.2.2.2.2.2.2.1 c hc).1
        refine ⟨c, ec, by omega, fun g8 => c_retIe k ?_, fun g8 => ⟨j, rfl, hj, c_retIe k ?_⟩⟩
        · rw [e5, cf_lt, nI_toInt (by omega)] at g8
          rw [if_neg (by omega)]
        · rw [e5, cf_lt, nI_toInt (by omega)] at g8
          rw [if_pos (by omega)]
      · rw [q] at g7; exact absurd g7 (by decide)
    · rw [cf_eqI] at g6
      unfold cf_tk; rw [if_neg (by omega), if_neg hj0, ej, if_neg g5, if_neg (fun q => by rcases q with q | q; omega; exact g7 q.2.1)]
  · rw [cf_lt] at g g3; rw [cf_le'] at g2 g4; unfold cf_tk; rw [if_neg (by omega), if_pos (by omega)]
  · rw [cf_le'] at g2; unfold cf_tk; rw [if_pos (by omega)]
end RXE
theorem cf_tk_eq {S : cf_S} {hs hn hs2 hn2 : Nat → Int32} (e1 : ∀ j, j < 10 → hs2 j = hs j) (e2 : ∀ j, j < 10 → hn2 j = hn j) (a0 a1 : Int32) : cf_tk S hs2 hn2 a0 a1 = cf_tk S hs hn a0 a1 := by
  unfold cf_tk
  by_cases q : 0 ≤ a0.toInt ∧ a0.toInt < 10
  · rw [e1 _ (by omega), e2 _ (by omega)]
  · rw [if_pos q, if_pos q]
theorem cf_pr_take {L : Nat} {t : List (Nat × Nat)} (a0 a1 : Int32) : cf_pr L t 145 239 [.int a0, .int a1] := by
  intro S ls hi hl v R
  obtain ⟨I, A, Z, E⟩ := id R
  have E3 := E.2.2.1
  refine c145 I.1 A.1.1.2.2.2.2.1 (fun j hj => (E3 j hj).2.2) (c239 I.1 Z.1.2.2.1 (fun j hj => ?_) ⟨?_, S, ls, R⟩)
  · rw [(E3 j hj).1, (E3 j hj).2.1]; exact (E3 j hj).2.2
  · exact cf_tk_eq (fun j hj => (E3 j hj).1) (fun j hj => (E3 j hj).2.1) a0 a1
