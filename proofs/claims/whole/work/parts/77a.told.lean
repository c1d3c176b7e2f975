/-! Told: what is foreign, liftable; fits, carry. -/
/-- a SHELF that another cart carries at some tick -/
def cf_fo (S : cf_S) (c s : Nat) : Bool := cf_any (fun o => !decide (o = c) && cf_any (fun u => decide (cf_st S u o / 256 = s + 1)) (cf_set S + 1)) (S 0 2)
/-- what Told knows: where each SHELF is, and which ones are foreign -/
def cf_tl2 (S : cf_S) (c : Nat) (pl : Nat → Nat) (hi : Nat → Nat → Int32) : Prop := ∀ s, s < S 0 3 → hi 86 s = nI (pl s) ∧ pl s < 64 ∧ hi 87 s = cf_B (cf_fo S c s)
section RXE
variable {L : Nat} {t : List (Nat × Nat)} {hl : Nat → Nat → Int64} {v : Nat → Nat → Option Nat}
variable {RI : Int32 → (Nat → Nat → Int32) → (Nat → Nat → Int64) → (Nat → Nat → Option Nat) → Prop}
variable {RV : (Nat → Nat → Int32) → (Nat → Nat → Int64) → (Nat → Nat → Option Nat) → Prop}
theorem c102 {hi0 : Nat → Nat → Int32} {S : cf_S} (X0 : cf_XR S hi0 hl) {c : Nat} (hc : c < S 0 2) (k : ∀ hi2, (∀ a b, ¬ a = 86 → ¬ a = 87 → hi2 a b = hi0 a b) → cf_tl2 S c (S 12) hi2 → RV hi2 hl v) : rx_CV L t 102 [.ref 84, .ref (rx_ct c)] hi0 hl v RV := by
  have V := X0.1.1
  have h6 := V.2.2.1
  have h12 := V.2.2.2.1
  have hwh := cf_V_wh V
  have hT := cf_set_lt V
  have XR : ∀ hi : Nat → Nat → Int32, (∀ a b, ¬ a = 86 → ¬ a = 87 → hi a b = hi0 a b) → cf_XR S hi hl := fun hi F => cf_A_XR X0 (fun a b _ _ => F a b (by omega) (by omega)) (fun _ _ _ _ => rfl)
  -- part of the carts, part of the ticks
  let fp : Nat → Nat → Nat → Bool := fun i u s => cf_any (fun o => !decide (o = c) && cf_any (fun u => decide (cf_st S u o / 256 = s + 1)) (cf_set S + 1)) i || (!decide (i = c) && cf_any (fun u => decide (cf_st S u i / 256 = s + 1)) u)
  have l43 : ∀ d i, i + d = S 0 2 → ∀ hi : Nat → Nat → Int32, (∀ a b, ¬ a = 86 → ¬ a = 87 → hi a b = hi0 a b) → (∀ s, s < S 0 3 → hi 86 s = nI (S 12 s) ∧ hi 87 s = cf_B (fp i 0 s)) → rx_aw 102 43 [.ref 84, .ref (rx_ct c), .int (nI i), rx_no, rx_no] [] (rx_hp L t hi hl v) (fun r h2 => r = none ∧ rx_ok2 L t h2 RV) := by
    intro d
    induction d with
    | zero =>
      intro i hid hi F W
      have : i = S 0 2 := by omega
      subst this
      have C := (XR hi F).1.2.2.2.2.1
      refine w102_findForeign_43 (by omega) ⟨fun _ => c_retV (k hi F (fun s hs => ⟨(W s hs).1, ?_, ?_⟩)), fun g => absurd ?_ g⟩
      · have := V.2.2.2.2.2.2.2 s hs; omega
      · rw [(W s hs).2]
        have e : fp (S 0 2) 0 s = cf_fo S c s := by
          show (_ || (_ && false)) = _
          rw [Bool.and_false, Bool.or_false]; rfl
        rw [e]
      · rw [C.1, cf_nle (by omega) (by omega)]; omega
    | succ d ih =>
      intro i hid hi F W
      have C := (XR hi F).1.2.2.2.2.1
      have hi0' : i < S 0 2 := by omega
      refine w102_findForeign_43 (by omega) ⟨fun g => ?_, fun _ => ?_⟩
      · rw [C.1, cf_nle (by omega) (by omega)] at g; omega
      -- the ticks of one cart
      have nxt : ∀ hi' : Nat → Nat → Int32, (∀ a b, ¬ a = 86 → ¬ a = 87 → hi' a b = hi0 a b) → (∀ s, s < S 0 3 → hi' 86 s = nI (S 12 s) ∧ hi' 87 s = cf_B (fp (i + 1) 0 s)) → rx_aw 102 43 [.ref 84, .ref (rx_ct c), .int (nI i + 1), rx_no, rx_no] [] (rx_hp L t hi' hl v) (fun r h2 => r = none ∧ rx_ok2 L t h2 RV) := fun hi' F' W' => by
        rw [show nI i + 1 = nI (i + 1) from nI_add i 1]
        exact ih (i + 1) (by omega) hi' F' W'
      have fin : ∀ s, (¬ i = c → fp i (cf_set S + 1) s = fp (i + 1) 0 s) ∧ (i = c → fp i 0 s = fp (i + 1) 0 s) := by
        intro s
        constructor
        · intro e
          show (_ || _) = ((_ || _) || (_ && false))
          rw [Bool.and_false, Bool.or_false]
        · intro e
          show (_ || (_ && false)) = ((_ || (!decide (i = c) && _)) || (_ && false))
          rw [decide_eq_true e]
          simp only [Bool.not_true, Bool.false_and, Bool.and_false, Bool.or_false]
      have l56 : ∀ e u, u + e = cf_set S + 1 → ∀ hi' : Nat → Nat → Int32, (∀ a b, ¬ a = 86 → ¬ a = 87 → hi' a b = hi0 a b) → (∀ s, s < S 0 3 → hi' 86 s = nI (S 12 s) ∧ hi' 87 s = cf_B (fp i u s)) → (i = c → u = 0) → rx_aw 102 56 [.ref 84, .ref (rx_ct c), .int (nI i), .int (nI u), rx_no] [] (rx_hp L t hi' hl v) (fun r h2 => r = none ∧ rx_ok2 L t h2 RV) := by
        intro e
        induction e with
        | zero =>
          intro u hu hi' F' W' hcu
          have : u = cf_set S + 1 := by omega
          subst this
          refine w102_findForeign_56 (by omega) ⟨fun _ => nxt hi' F' (fun s hs => ⟨(W' s hs).1, ?_⟩), fun g => absurd ?_ g⟩
          · rw [(W' s hs).2, (fin s).1 (fun z => by have := hcu z; omega)]
          · rw [cf_Rs (XR hi' F') (by omega), cf_lt, nI_toInt (by omega), nI_toInt (by omega)]; omega
        | succ e ihe =>
          intro u hu hi' F' W' hcu
          have X' := XR hi' F'
          have C' := X'.1.2.2.2.2.1
          have lt := cf_st_lt V hi0' u
          have ldm := ((cf_wv V u).1 i hi0').2
          refine w102_findForeign_56 (by omega) ⟨fun g => ?_, fun _ => ⟨i, rfl, by omega, fun g => nxt hi' F' (fun s hs => ⟨(W' s hs).1, ?_⟩), fun g => ⟨i, rfl, by omega, u, rfl, by omega, ?_⟩⟩⟩
          · rw [cf_Rs X' (by omega), cf_lt, nI_toInt (by omega), nI_toInt (by omega)] at g; omega
          · rw [cf_ct_inj] at g
            have := hcu g
            subst this
            rw [(W' s hs).2, (fin s).2 g]
          · rw [cf_ct_inj] at g
            rw [((X'.2.2.1 i hi0').1 u (by omega)).1]
            have up : ∀ hi2 : Nat → Nat → Int32, (∀ a b, ¬ a = 86 → ¬ a = 87 → hi2 a b = hi0 a b) → (∀ s, s < S 0 3 → hi2 86 s = nI (S 12 s) ∧ hi2 87 s = cf_B (fp i u s || decide (cf_st S u i / 256 = s + 1))) → rx_aw 102 56 [.ref 84, .ref (rx_ct c), .int (nI i), .int (nI u + 1), rx_no] [] (rx_hp L t hi2 hl v) (fun r h2 => r = none ∧ rx_ok2 L t h2 RV) := fun hi2 F2 W2 => by
              rw [show nI u + 1 = nI (u + 1) from nI_add u 1]
              refine ihe (u + 1) (by omega) hi2 F2 (fun s hs => ⟨(W2 s hs).1, ?_⟩) (fun z => absurd z g)
              rw [(W2 s hs).2]
              congr 1
              show ((_ || (_ && _)) || _) = (_ || (_ && (_ || _)))
              rw [decide_eq_false g, Bool.not_false, Bool.true_and, Bool.true_and, Bool.or_assoc]
            refine c48 (by omega) ⟨fun y => up hi' F' (fun s hs => ⟨(W' s hs).1, ?_⟩), fun y => ⟨fun y2 => ?_, fun y2 => ⟨cf_st S u i / 256 - 1, ?_, by omega, up _ (fun a b q1 q2 => by rw [cf_ru_ne (by omega)]; exact F' a b q1 q2) (fun s hs => ?_)⟩⟩⟩
            · rw [cf_oneg (by omega)] at y
              rw [(W' s hs).2, decide_eq_false (show ¬ cf_st S u i / 256 = s + 1 by omega), Bool.or_false]
            all_goals rw [cf_oneg (by omega)] at y
            all_goals have eo : oI (cf_st S u i / 256) = nI (cf_st S u i / 256 - 1) := by rw [← cf_oS, show cf_st S u i / 256 - 1 + 1 = cf_st S u i / 256 by omega]
            · rw [C'.2.1, eo, cf_nle (by omega) (by omega)] at y2; omega
            · exact eo
            · refine ⟨by rw [cf_ru_ne (by omega)]; exact (W' s hs).1, ?_⟩
              by_cases z : s = cf_st S u i / 256 - 1
              · subst z
                rw [cf_ru_eq, decide_eq_true (by omega), Bool.or_true]; rfl
              · rw [cf_ru_ne (by omega), (W' s hs).2, decide_eq_false (by omega), Bool.or_false]
      exact l56 (cf_set S + 1) 0 (by omega) hi F W (fun _ => rfl)
  have l2 : ∀ d i, i + d = S 0 3 → ∀ hi : Nat → Nat → Int32, (∀ a b, ¬ a = 86 → ¬ a = 87 → hi a b = hi0 a b) → (∀ s, s < i → hi 86 s = nI (S 12 s) ∧ hi 87 s = 0) → rx_aw 102 2 [.ref 84, .ref (rx_ct c), .int (nI i), rx_no, rx_no] [] (rx_hp L t hi hl v) (fun r h2 => r = none ∧ rx_ok2 L t h2 RV) := by
    intro d
    induction d with
    | zero =>
      intro i hid hi F W
      have C := (XR hi F).1.2.2.2.2.1
      refine w102_findForeign_2 (by omega) ⟨fun _ => l43 (S 0 2) 0 (by omega) hi F (fun s hs => ⟨(W s (by omega)).1, ?_⟩), fun g => absurd ?_ g⟩
      · rw [(W s (by omega)).2]
        have e : fp 0 0 s = false := by
          show (false || (_ && false)) = false
          rw [Bool.and_false]; rfl
        rw [e]; rfl
      · rw [C.2.1, cf_nle (by omega) (by omega)]; omega
    | succ d ih =>
      intro i hid hi F W
      have X := XR hi F
      refine w102_findForeign_2 (by omega) ⟨fun g => ?_, fun _ => c38R (j := 0) X (by omega) (by omega) ⟨i, rfl, by omega, i, rfl, by omega, ?_⟩⟩
      · rw [X.1.2.2.2.2.1.2.1, cf_nle (by omega) (by omega)] at g; omega
      · rw [show nI i + 1 = nI (i + 1) from nI_add i 1, show vp_nar .boolean (0 : Int32) = 0 from rfl]
        refine ih (i + 1) (by omega) _ (fun a b q1 q2 => by rw [cf_ru_ne (by omega), cf_ru_ne (by omega)]; exact F a b q1 q2) (fun s hs => ?_)
        by_cases e : s = i
        · subst e
          exact ⟨by rw [cf_ru_ne (by omega), cf_ru_eq]; rfl, cf_ru_eq⟩
        · rw [cf_ru_ne (by omega), cf_ru_ne (by omega), cf_ru_ne (by omega), cf_ru_ne (by omega)]
          exact W s (by omega)
  exact w102_findForeign (by omega) (l2 (S 0 3) 0 (by omega) hi0 (fun _ _ _ _ => rfl) (fun s hs => by omega))
theorem c103 {hi : Nat → Nat → Int32} {S : cf_S} (V : cf_V S) (C : cf_C S hi) {c q : Nat} {pl : Nat → Nat} (T : cf_tl2 S c pl hi) (hq : q < 64) (k : RI (oI (cf_ff (fun s => !cf_fo S c s && decide (pl s = q)) (S 0 3))) hi hl v) : rx_CI L t 103 [.ref 84, .int (nI q)] hi hl v RI := by
  have h12 := V.2.2.2.1
  have lp : ∀ d i, i + d = S 0 3 → cf_ff (fun s => !cf_fo S c s && decide (pl s = q)) i = 0 → rx_aw 103 2 [.ref 84, .int (nI q), .int (nI i)] [] (rx_hp L t hi hl v) (fun r h2 => ∃ z : Int32, r = some (.int z) ∧ rx_ok2 L t h2 (RI z)) := by
    intro d
    induction d with
    | zero =>
      intro i hid hz
      have : i = S 0 3 := by omega
      subst this
      refine w103_liftable_2 ⟨fun _ => c_retIe k (by rw [hz]; rfl), fun g => absurd ?_ g⟩
      rw [C.2.1, cf_nle (by omega) (by omega)]; omega
    | succ d ih =>
      intro i hid hz
      obtain ⟨t1, t2, t3⟩ := T i (by omega)
      have nx : (!cf_fo S c i && decide (pl i = q)) = false → rx_aw 103 2 [.ref 84, .int (nI q), .int (nI i + 1)] [] (rx_hp L t hi hl v) (fun r h2 => ∃ z : Int32, r = some (.int z) ∧ rx_ok2 L t h2 (RI z)) := fun z => by
        rw [show nI i + 1 = nI (i + 1) from nI_add i 1]
        exact ih (i + 1) (by omega) (by rw [cf_ff, if_pos hz, z]; rfl)
      refine w103_liftable_2 ⟨fun g => ?_, fun _ => ⟨i, rfl, by omega, fun g => ⟨i, rfl, by omega, fun g2 => c_retIe k ?_, fun g2 => nx ?_⟩, fun g => nx ?_⟩⟩
      · rw [C.2.1, cf_nle (by omega) (by omega)] at g; omega
      all_goals rw [t3] at g
      all_goals try rw [t1, nI_eq (by omega) (by omega)] at g2
      · rw [cf_ff_at hz (by rw [cf_B_eq g, decide_eq_true g2]; rfl) (S 0 3) (by omega), cf_oS]
      · rw [decide_eq_false g2, Bool.and_false]
      · rw [cf_B_ne g]; rfl
  exact w103_liftable (lp (S 0 3) 0 (by omega) rfl)
theorem c105 {hi : Nat → Nat → Int32} {S : cf_S} (V : cf_V S) (C : cf_C S hi) {l q : Nat} (hl' : l ≤ S 0 3) (k : RV (if l = 0 then hi else rx_u hi 86 (l - 1) (nI q)) hl v) : rx_CV L t 105 [.ref 84, .int (oI l), .int (nI q)] hi hl v RV := by
  have h12 := V.2.2.2.1
  refine w105_carry ⟨fun g => c_retV ?_, fun g => ⟨fun g2 => ?_, fun g2 => ⟨l - 1, ?_, by omega, c_retV ?_⟩⟩⟩
  all_goals rw [cf_oneg (by omega)] at g
  · rw [if_pos g] at k; exact k
  all_goals have eo : oI l = nI (l - 1) := by rw [← cf_oS, show l - 1 + 1 = l by omega]
  · rw [C.2.1, eo, cf_nle (by omega) (by omega)] at g2; omega
  · exact eo
  · rw [if_neg g] at k; exact k
end RXE
