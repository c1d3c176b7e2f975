/-! safe of the class. -/
def cf_acs (B : Int64) (f : Nat → Int64) (c : Nat) : Nat → Int64
  | 0 => B
  | i + 1 => if i = c then cf_acs B f c i else cf_acs B f c i ||| f i
theorem cf_acs_has {B : Int64} {f : Nat → Int64} {c q : Nat} : ∀ {n : Nat}, cf_has (cf_acs B f c n) q = true ↔ cf_has B q = true ∨ ∃ o, o < n ∧ ¬ o = c ∧ cf_has (f o) q = true
  | 0 => ⟨fun h => Or.inl h, fun h => by
      rcases h with h | ⟨o, h, _⟩
      · exact h
      · omega⟩
  | n + 1 => by
    rw [cf_acs]
    by_cases e : n = c
    · rw [if_pos e, cf_acs_has]
      constructor
      · rintro (h | ⟨o, h1, h2, h3⟩)
        · exact Or.inl h
        · exact Or.inr ⟨o, by omega, h2, h3⟩
      · rintro (h | ⟨o, h1, h2, h3⟩)
        · exact Or.inl h
        · exact Or.inr ⟨o, by omega, h2, h3⟩
    · rw [if_neg e, cf_hor, Bool.or_eq_true, cf_acs_has]
      constructor
      · rintro ((h | ⟨o, h1, h2, h3⟩) | h)
        · exact Or.inl h
        · exact Or.inr ⟨o, by omega, h2, h3⟩
        · exact Or.inr ⟨n, by omega, e, h⟩
      · rintro (h | ⟨o, h1, h2, h3⟩)
        · exact Or.inl (Or.inl h)
        · by_cases z : o = n
          · subst z; exact Or.inr h3
          · exact Or.inl (Or.inr ⟨o, by omega, h2, h3⟩)
def cf_shc (S : cf_S) (c : Nat) : Int64 := cf_acs (cf_bar S ||| cf_sq S 0 0) (fun o => cf_b1 (S 5 o) ||| cf_bt (S 9 o % 64)) c (S 0 2)
def cf_shd (S : cf_S) (c : Nat) : Int64 := cf_acs (cf_bar S ||| cf_sq S 0 0) (fun o => cf_sd S 0 o ||| cf_b1 (S 5 o)) c (S 0 2)
/-- a cart's END SQUARE can be reached -/
def cf_rs (S : cf_S) (c : Nat) (sh : Int64) : Prop := ∃ n, cf_rn (S 0 0) (S 0 1) (cf_opn (S 0 0) (S 0 1) sh) (S 9 c % 64) n (S 5 c - 1)
section RXE
variable {L : Nat} {t : List (Nat × Nat)} {hi : Nat → Nat → Int32} {hl : Nat → Nat → Int64} {v : Nat → Nat → Option Nat}
variable {RI : Int32 → (Nat → Nat → Int32) → (Nat → Nat → Int64) → (Nat → Nat → Option Nat) → Prop}
theorem c119 {S : cf_S} (X : cf_XR S hi hl) {c : Nat} (hc : c < S 0 2) (h5 : 0 < S 5 c) (k : ∀ b : Bool, (b = true ↔ cf_rs S c (cf_shc S c)) → RI (cf_B b) hi hl v) : rx_CI L t 119 [.ref 1, .ref (rx_ct c)] hi hl v RI := by
  have V := X.1.1
  have C := X.1.2.2.2.2.1
  have K1 := X.1.2.1
  have K3 := X.1.2.2.2.1
  have h6 := V.2.2.1
  have hwh := cf_V_wh V
  have hC := C.2.2.1 c hc
  obtain ⟨_, vs, _, _, v5, _⟩ := V.2.2.2.2.2.2.1 c hc
  refine w119_hasOpenPath (by omega) (c37 (j := 0) (x := 0) X (by omega) (by omega) ?_)
  rw [X.1.2.2.2.2.2.2.2]
  refine cf_lph (g := fun i => cf_acs (cf_bar S ||| cf_sq S 0 0) (fun o => cf_b1 (S 5 o) ||| cf_bt (S 9 o % 64)) c i) (N := S 0 2) (A := fun z i => [.ref 1, .ref (rx_ct c), .long z, rx_no, .int (nI i), rx_no]) (fun i hi0 w => ?_) ?_
  · have hCi := C.2.2.1 i hi0
    obtain ⟨_, vsi, _, _, v5i, _⟩ := V.2.2.2.2.2.2.1 i hi0
    refine w119_hasOpenPath_21 (by omega) ⟨fun g => ?_, fun g => ⟨i, rfl, by omega, fun g2 => ?_, fun g2 => ?_⟩⟩
    · rw [C.1, cf_nle (by omega) (by omega)] at g; omega
    all_goals rw [cf_ct_inj] at g2
    · rw [cf_acs, if_pos g2] at w
      rw [show nI i + 1 = nI (i + 1) from nI_add i 1]; exact w
    · rw [cf_acs, if_neg g2] at w
      rw [hCi.2.2.2.1, show nI i + 1 = nI (i + 1) from nI_add i 1]
      refine c9o (by omega) ?_
      rw [hCi.2.1]
      exact c8 (c9 (by omega) w)
  · refine w119_hasOpenPath_21 (by omega) ⟨fun _ => ?_, fun g => absurd ?_ g⟩
    · rw [hC.2.1]
      refine c8 (c9 (by omega) ?_)
      have hin : cf_in (S 0 0) (S 0 1) (hl 7 2 &&& (cf_shc S c ^^^ (-1 : Int64))) := by
        intro q hq
        rw [cf_hand, Bool.and_eq_true] at hq
        rcases Nat.lt_or_ge q 64 with z | z
        · have := (K3 q z).1
          rw [hq.1] at this
          exact of_decide_eq_true this.symm
        · have := hq.2
          rw [cf_hnot, decide_eq_false (by omega)] at this
          cases this
      have eop : cf_has (hl 7 2 &&& (cf_shc S c ^^^ (-1 : Int64))) = cf_opn (S 0 0) (S 0 1) (cf_shc S c) := by
        funext q
        unfold cf_opn
        rw [cf_hand, cf_hnot]
        rcases Nat.lt_or_ge q 64 with z | z
        · rw [(K3 q z).1, decide_eq_true z, Bool.true_and]
        · rw [decide_eq_false (show ¬ q < 64 by omega), Bool.false_and, Bool.and_false, decide_eq_false (show ¬ q < S 0 0 * S 0 1 by omega), Bool.false_and]
      refine c120 K1 K3 hin ?_
      rw [hC.2.2.2.1]
      refine c9o (by omega) ?_
      have eb : cf_b1 (S 5 c) = cf_bt (S 5 c - 1) := by unfold cf_b1; rw [if_neg (by omega)]
      rw [eb]
      have key : cf_has (cf_fld (S 0 0) (S 0 1) (cf_bt (S 9 c % 64)) (hl 7 2 &&& (cf_shc S c ^^^ (-1 : Int64))) 64) (S 5 c - 1) = true ↔ cf_rs S c (cf_shc S c) := by
        rw [cf_fld_64 hwh hin (by omega), eop]; rfl
      refine ⟨fun g => c_retI (k false ?_), fun g => c_retI (k true ?_)⟩
      all_goals rw [cf_cmp0] at g
      · have g' := (cf_ab (show S 5 c - 1 < 64 by omega)).mp g
        constructor
        · intro z; cases z
        · intro z
          have := key.mpr z
          exact absurd (this.symm.trans g') (by decide)
      · constructor
        · intro _
          refine key.mp ?_
          apply Classical.byContradiction
          intro z
          rw [← cf_not_true] at z
          exact g ((cf_ab (show S 5 c - 1 < 64 by omega)).mpr z)
        · intro _; rfl
    · rw [C.1, cf_nle (by omega) (by omega)]; omega
theorem c118 {S : cf_S} (X : cf_XR S hi hl) (k : ∀ b : Bool, (b = true ↔ (∀ c, c < S 0 2 → S 3 c ≤ 1 ∧ S 6 c = 0) ∧ ∀ c, c < S 0 2 → 0 < S 5 c → cf_rs S c (cf_shc S c)) → RI (cf_B b) hi hl v) : rx_CI L t 118 [.ref 1] hi hl v RI := by
  have V := X.1.1
  have C := X.1.2.2.2.2.1
  have h6 := V.2.2.1
  have hwh := cf_V_wh V
  have l2 : (∀ c, c < S 0 2 → S 3 c ≤ 1 ∧ S 6 c = 0) → ∀ d i, i + d = S 0 2 → (∀ c, c < i → 0 < S 5 c → cf_rs S c (cf_shc S c)) → rx_aw 118 48 [.ref 1, .int (nI i), rx_no] [] (rx_hp L t hi hl v) (fun r h2 => ∃ z : Int32, r = some (.int z) ∧ rx_ok2 L t h2 (RI z)) := by
    intro hA d
    induction d with
    | zero =>
      intro i hid hB
      refine w118_safe_48 ⟨fun _ => c_retI (k true ⟨fun _ => ⟨hA, fun c hc => hB c (by omega)⟩, fun _ => rfl⟩), fun g => absurd ?_ g⟩
      rw [C.1, cf_nle (by omega) (by omega)]; omega
    | succ d ih =>
      intro i hid hB
      have hi0 : i < S 0 2 := by omega
      have v5 := (V.2.2.2.2.2.2.1 i hi0).2.2.2.2.1
      have nx : (0 < S 5 i → cf_rs S i (cf_shc S i)) → rx_aw 118 48 [.ref 1, .int (nI i + 1), rx_no] [] (rx_hp L t hi hl v) (fun r h2 => ∃ z : Int32, r = some (.int z) ∧ rx_ok2 L t h2 (RI z)) := fun z => by
        rw [show nI i + 1 = nI (i + 1) from nI_add i 1]
        refine ih (i + 1) (by omega) (fun c hc => ?_)
        by_cases e : c = i
        · subst e; exact z
        · exact hB c (by omega)
      refine w118_safe_48 ⟨fun g => ?_, fun _ => ⟨i, rfl, by omega, fun g => nx (fun z => ?_), fun g => ⟨i, rfl, by omega, ?_⟩⟩⟩
      · rw [C.1, cf_nle (by omega) (by omega)] at g; omega
      all_goals rw [(C.2.2.1 i hi0).2.2.2.1, cf_oneg (by omega)] at g
      · omega
      · refine c119 X hi0 (by omega) (fun b hb => ⟨fun z => c_retI (k false ?_), fun z => nx (fun _ => hb.mp (cf_B_ne z))⟩)
        constructor
        · intro y; cases y
        · intro y
          have := hb.mpr (y.2 i hi0 (by omega))
          rw [cf_B_eq z] at this; exact this
  have l1 : ∀ d i, i + d = S 0 2 → (∀ c, c < i → S 3 c ≤ 1 ∧ S 6 c = 0) → rx_aw 118 2 [.ref 1, .int (nI i), rx_no] [] (rx_hp L t hi hl v) (fun r h2 => ∃ z : Int32, r = some (.int z) ∧ rx_ok2 L t h2 (RI z)) := by
    intro d
    induction d with
    | zero =>
      intro i hid hA
      refine w118_safe_2 ⟨fun _ => l2 (fun c hc => hA c (by omega)) (S 0 2) 0 (by omega) (fun c hc => by omega), fun g => absurd ?_ g⟩
      rw [C.1, cf_nle (by omega) (by omega)]; omega
    | succ d ih =>
      intro i hid hA
      have hi0 : i < S 0 2 := by omega
      obtain ⟨v3, _, _, _, _, v6, _⟩ := V.2.2.2.2.2.2.1 i hi0
      have h12 := V.2.2.2.1
      have no : ¬ (S 3 i ≤ 1 ∧ S 6 i = 0) → ∃ z : Int32, some (Value.int 0) = some (.int z) ∧ rx_ok2 L t (rx_hp L t hi hl v) (RI z) := fun z => c_retI (k false ⟨fun y => (by cases y), fun y => absurd (y.1 i hi0) z⟩)
      refine w118_safe_2 ⟨fun g => ?_, fun _ => ⟨i, rfl, by omega, fun g => no ?_, fun g => ⟨fun g2 => ?_, fun g2 => no ?_⟩⟩⟩
      · rw [C.1, cf_nle (by omega) (by omega)] at g; omega
      all_goals rw [(C.2.2.1 i hi0).1, show (1 : Int32) = nI 1 from rfl, cf_lt, nI_toInt (by omega), nI_toInt (by omega)] at g
      · omega
      all_goals rw [(C.2.2.1 i hi0).2.2.2.2.1, cf_oneg (by omega)] at g2
      · rw [show nI i + 1 = nI (i + 1) from nI_add i 1]
        refine ih (i + 1) (by omega) (fun c hc => ?_)
        by_cases e : c = i
        · subst e; exact ⟨by omega, g2⟩
        · exact hA c (by omega)
      · omega
  exact w118_safe (l1 (S 0 2) 0 (by omega) (fun c hc => by omega))
end RXE
