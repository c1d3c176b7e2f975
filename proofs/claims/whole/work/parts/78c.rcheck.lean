/-! CartFloorModel.check: the loop over the ticks. -/
/-- the first bad tick of the last d of 402, or T -/
def cf_fb (bad : Nat → Bool) (T : Nat) : Nat → Int32
  | 0 => nI T
  | d + 1 => if bad (401 - d) = true then -10 - nI (401 - d) else cf_fb bad T d
/-- bad at a tick, in the reference's world -/
def cf_vb (S : cf_S) (ck nl T c u : Nat) : Bool := (decide (0 < u) && decide (u ≤ T) && !cf_vm S ck nl (u - 1) c) || !cf_fit S (cf_vt S ck nl) (cf_vp S ck nl) (cf_vh S ck nl) c u || cf_mta (S 0 2) (cf_vd S ck nl) (cf_vh S ck nl) c u
section RXE
variable {L : Nat} {t : List (Nat × Nat)} {hi : Nat → Nat → Int32} {hl : Nat → Nat → Int64} {v : Nat → Nat → Option Nat}
variable {Q : Option Value → rx_H → Prop}
theorem g214 {S : cf_S} (V : cf_V S) (M : cf_M S hi) {ck nl T c : Nat} (N : cf_N S ck nl hi hl) (hc : c < S 0 2) (hT : T ≤ 400) (e25 : hi 90 25 = nI T) (k : rx_CV L t 200 [.ref 90, .int 1] (rx_u hi 90 35 (-1)) hl v (fun hi8 hl8 v8 => Q (some (.int (cf_fb (cf_vb S ck nl T c) T 402))) (rx_hp L t hi8 hl8 v8))) : ∀ d e, d + e = 402 → rx_aw 214 48 [.ref 90, .int (nI c), .int (cf_fb (cf_vb S ck nl T c) T d), .int (oI e), rx_no] [] (rx_hp L t hi hl v) Q := by
  have h6 := V.2.2.1
  intro d e
  induction e generalizing d with
  | zero =>
    intro hd
    have : d = 402 := by omega
    subst this
    exact w214_check_r_48 ⟨fun _ => k, fun z => absurd (by decide) z⟩
  | succ e ih =>
    intro hd
    have he : 401 - d = e := by omega
    have W := cf_RW_N V N
    have em1 : nI e + (-1) = oI e := by
      cases e with
      | zero => rfl
      | succ e => rw [cf_oS, ← nI_add e 1, Int32.add_assoc]; exact (congrArg (fun z => nI e + z) (show (nI 1 : Int32) + -1 = 0 by decide)).trans (by show nI e + 0 = nI e; exact nI_add e 0)
    have bd : cf_vb S ck nl T c e = true → rx_aw 214 48 [.ref 90, .int (nI c), .int (-10 - nI e), .int (nI e + (-1)), rx_no] [] (rx_hp L t hi hl v) Q := fun z => by
      have := ih (d + 1) (by omega)
      rw [cf_fb, he, if_pos z] at this
      rw [em1]; exact this
    have ok : cf_vb S ck nl T c e = false → rx_aw 214 48 [.ref 90, .int (nI c), .int (cf_fb (cf_vb S ck nl T c) T d), .int (nI e + (-1)), rx_no] [] (rx_hp L t hi hl v) Q := fun z => by
      have := ih (d + 1) (by omega)
      rw [cf_fb, he, if_neg (by rw [z]; decide)] at this
      rw [em1]; exact this
    rw [cf_oS]
    have n0 : ¬ nI e < 0 := by rw [show (0 : Int32) = nI 0 from rfl, cf_lt, nI_toInt (by omega), nI_toInt (by omega)]; omega
    have tail : (decide (0 < e) && decide (e ≤ T) && !cf_vm S ck nl (e - 1) c) = false → rx_me 173 [.ref 90, .int (nI c), .int (nI e)] (rx_hp L t hi hl v) (fun r h2 => ∃ z10 : Int32, r = some (.int z10) ∧ rx_ok2 L t h2 (fun hi10 hl10 v10 => ((z10 = 0 → rx_aw 214 48 [.ref 90, .int (nI c), .int (-10 - nI e), .int (nI e + (-1)), rx_no] [] (rx_hp L t hi10 hl10 v10) Q) ∧ (¬ (z10 = 0) → rx_me 174 [.ref 90, .int (nI c), .int (nI e)] (rx_hp L t hi10 hl10 v10) (fun r h2 => ∃ z12 : Int32, r = some (.int z12) ∧ rx_ok2 L t h2 (fun hi12 hl12 v12 => ((z12 = 0 → rx_aw 214 48 [.ref 90, .int (nI c), .int (cf_fb (cf_vb S ck nl T c) T d), .int (nI e + (-1)), rx_no] [] (rx_hp L t hi12 hl12 v12) Q) ∧ (¬ (z12 = 0) → rx_aw 214 48 [.ref 90, .int (nI c), .int (-10 - nI e), .int (nI e + (-1)), rx_no] [] (rx_hp L t hi12 hl12 v12) Q)))))))) := fun z => by
      refine c173 V M W hc (by omega) ⟨fun y => bd ?_, fun y => c174 M.2.1 W h6 hc (by omega) ⟨fun y2 => ok ?_, fun y2 => bd ?_⟩⟩
      · unfold cf_vb; rw [cf_B_eq y, Bool.not_false, Bool.or_true, Bool.true_or]
      · unfold cf_vb; rw [z, cf_B_ne y, cf_B_eq y2]; rfl
      · unfold cf_vb; rw [cf_B_ne y2, Bool.or_true]
    refine w214_check_r_48 ⟨fun y => absurd y n0, fun _ => ⟨fun y => tail ?_, fun y => ⟨fun y2 => tail ?_, fun y2 => ⟨402 * c + (e - 1), ?_, by omega, fun y3 => bd ?_, fun y3 => tail ?_⟩⟩⟩⟩
    all_goals rw [show (0 : Int32) = nI 0 from rfl, cf_nle (by omega) (by omega)] at y
    · rw [decide_eq_false (by omega)]; rfl
    all_goals rw [e25, cf_lt, nI_toInt (by omega), nI_toInt (by omega)] at y2
    · rw [decide_eq_false (show ¬ e ≤ T by omega), Bool.and_false]; rfl
    · rw [cf_402, show (1 : Int32) = nI 1 from rfl, cf_nsub (by omega)]
      congr 1; omega
    all_goals rw [(N.1 c hc).2 (e - 1) (by omega)] at y3
    · unfold cf_vb; rw [decide_eq_true (show 0 < e by omega), decide_eq_true (show e ≤ T by omega), cf_B_eq y3]; rfl
    · rw [cf_B_ne y3, Bool.not_true, Bool.and_false]
end RXE
