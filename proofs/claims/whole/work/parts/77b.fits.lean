/-! Told.fits. -/
def cf_jo (S : cf_S) (c : Nat) (pl : Nat → Nat) (l : Nat) (hold : Int64) (u s : Nat) : Bool := !decide (s + 1 = l) && cf_has hold (if cf_fo S c s = true then cf_sp S u s else pl s)
def cf_jf (S : cf_S) (c : Nat) (pl : Nat → Nat) (l : Nat) (hold : Int64) (u : Nat) : Bool := decide ((hold &&& cf_bar S) = 0) && (decide (S 3 c = 1 ∧ l = 0) || !cf_any (cf_jo S c pl l hold u) (S 0 3))
section RXE
variable {L : Nat} {t : List (Nat × Nat)} {hi : Nat → Nat → Int32} {hl : Nat → Nat → Int64} {v : Nat → Nat → Option Nat}
variable {RI : Int32 → (Nat → Nat → Int32) → (Nat → Nat → Int64) → (Nat → Nat → Option Nat) → Prop}
theorem c104 {S : cf_S} (X : cf_XR S hi hl) {c l u : Nat} {pl : Nat → Nat} {hold : Int64} (hc : c < S 0 2) (T : cf_tl2 S c pl hi) (hl' : l ≤ S 0 3) (hu : u < 2 ^ 31) (k : RI (cf_B (cf_jf S c pl l hold u)) hi hl v) : rx_CI L t 104 [.ref 84, .ref (rx_ct c), .int (oI l), .long hold, .int (nI u)] hi hl v RI := by
  have V := X.1.1
  have C := X.1.2.2.2.2.1
  have h6 := V.2.2.1
  have h12 := V.2.2.2.1
  have hwh := cf_V_wh V
  have hC := C.2.2.1 c hc
  have v3 := (V.2.2.2.2.2.2.1 c hc).1
  unfold cf_jf at k
  have lp : (hold &&& cf_bar S) = 0 → ¬ (S 3 c = 1 ∧ l = 0) → ∀ d i, i + d = S 0 3 → cf_any (cf_jo S c pl l hold u) i = false → rx_aw 104 38 [.ref 84, .ref (rx_ct c), .int (oI l), .long hold, rx_no, .int (nI u), .int 0, .int (nI i), rx_no] [] (rx_hp L t hi hl v) (fun r h2 => ∃ z : Int32, r = some (.int z) ∧ rx_ok2 L t h2 (RI z)) := by
    intro hb hk d
    rw [decide_eq_true hb, decide_eq_false hk, Bool.true_and, Bool.false_or] at k
    induction d with
    | zero =>
      intro i hid ha
      have : i = S 0 3 := by omega
      subst this
      refine w104_fits_38 (by omega) ⟨fun _ => c_retIe k (by rw [ha]; rfl), fun g => absurd ?_ g⟩
      rw [C.2.1, cf_nle (by omega) (by omega)]; omega
    | succ d ih =>
      intro i hid ha
      have hi0 : i < S 0 3 := by omega
      obtain ⟨t1, t2, t3⟩ := T i hi0
      have sp := (cf_wv V u).2 i hi0
      have nx : cf_jo S c pl l hold u i = false → rx_aw 104 38 [.ref 84, .ref (rx_ct c), .int (oI l), .long hold, rx_no, .int (nI u), .int 0, .int (nI i + 1), rx_no] [] (rx_hp L t hi hl v) (fun r h2 => ∃ z : Int32, r = some (.int z) ∧ rx_ok2 L t h2 (RI z)) := fun z => by
        rw [show nI i + 1 = nI (i + 1) from nI_add i 1]
        exact ih (i + 1) (by omega) (by rw [cf_any, ha, z]; rfl)
      have no : cf_jo S c pl l hold u i = true → ∃ z : Int32, some (Value.int 0) = some (.int z) ∧ rx_ok2 L t (rx_hp L t hi hl v) (RI z) := fun z => c_retIe k (by rw [cf_any_true hi0 z]; rfl)
      have eil : (nI i = oI l) ↔ i + 1 = l := by
        constructor
        · intro z
          have := (cf_oneq (a := l) (b := i) (by omega) (by omega)).mp z.symm
          omega
        · intro z; subst z; exact (cf_oS i).symm
      refine w104_fits_38 (by omega) ⟨fun g => ?_, fun _ => ⟨fun _ => ⟨i, rfl, by omega, fun g => ⟨i, rfl, by omega, fun g2 => nx ?_, fun g2 => ?_⟩, fun g => c38R X hi0 hu ⟨fun g2 => nx ?_, fun g2 => c9 (by omega) ⟨fun g3 => nx ?_, fun g3 => no ?_⟩⟩⟩, fun z => absurd rfl z⟩⟩
      · rw [C.2.1, cf_nle (by omega) (by omega)] at g; omega
      · rw [eil] at g2
        unfold cf_jo; rw [decide_eq_true g2]; rfl
      · rw [eil] at g2
        rw [t3] at g
        rw [t1]
        refine c9 t2 ⟨fun g3 => nx ?_, fun g3 => no ?_⟩
        all_goals rw [cf_cmp0, cf_ab t2] at g3
        all_goals unfold cf_jo
        all_goals rw [cf_B_eq g, if_neg (by decide), decide_eq_false g2]
        · rw [g3]; rfl
        · rw [cf_not_true] at g3; rw [Classical.not_not.mp g3]; rfl
      · rw [eil] at g2
        unfold cf_jo; rw [decide_eq_true g2]; rfl
      all_goals rw [eil] at g2
      all_goals rw [t3] at g
      all_goals rw [cf_cmp0, cf_ab (by omega)] at g3
      all_goals unfold cf_jo
      all_goals rw [cf_B_ne g, if_pos rfl, decide_eq_false g2]
      · rw [g3]; rfl
      · rw [cf_not_true] at g3; rw [Classical.not_not.mp g3]; rfl
  refine w104_fits (by omega) ⟨fun g => ⟨fun g2 => ⟨fun g3 => ?_, fun g3 => ?_⟩, fun g2 => ?_⟩, fun g => c_retIe k ?_⟩
  all_goals rw [cf_cmp0, X.1.2.2.2.2.2.2.2] at g
  · rw [cf_ole (by omega)] at g3
    exact lp g (by omega) (S 0 3) 0 (by omega) rfl
  · rw [cf_ole (by omega)] at g3
    rw [hC.1, show (1 : Int32) = nI 1 from rfl, nI_eq (by omega) (by omega)] at g2
    refine w104_fits_38 (by omega) ⟨fun _ => c_retIe k ?_, fun _ => ⟨fun z => absurd z (by decide), fun _ => c_retIe k ?_⟩⟩
    · rw [decide_eq_true g, decide_eq_true (show S 3 c = 1 ∧ l = 0 by omega)]; rfl
    · rw [decide_eq_true g, decide_eq_true (show S 3 c = 1 ∧ l = 0 by omega)]; rfl
  · rw [hC.1, show (1 : Int32) = nI 1 from rfl, nI_eq (by omega) (by omega)] at g2
    exact lp g (by omega) (S 0 3) 0 (by omega) rfl
  · rw [decide_eq_false g]; rfl
end RXE
