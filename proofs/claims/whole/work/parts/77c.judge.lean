/-! Told.judge: the class's check. -/
def cf_jl (S : cf_S) (c : Nat) (pl : Nat → Nat) (s : Nat) : Nat := cf_ff (fun x => !cf_fo S c x && decide (pl x = s % 64)) (S 0 3)
def cf_jp (pl : Nat → Nat) (s : Nat) : Nat → Nat := fun x => if x + 1 = s / 256 then s % 64 else pl x
/-- d ticks from u on; s the STANCE, pl the SHELVES, bf and sw what is held from before -/
def cf_jr (S : cf_S) (c : Nat) (mv : Nat → Nat) (T : Nat) : Nat → Nat → Nat → (Nat → Nat) → Int64 → Int64 → Int32
  | 0, _, _, _, _, _ => nI T
  | d + 1, u, s, pl, bf, sw =>
    if (!cf_jf S c pl (s / 256) (cf_std (S 0 0) (S 0 1) (cf_two (S 3 c)) s ||| sw ||| cf_tq (S 0 0) (S 0 1) (S 3 c) s (mv u)) u || cf_mts S c bf (cf_std (S 0 0) (S 0 1) (cf_two (S 3 c)) s) (cf_std (S 0 0) (S 0 1) (cf_two (S 3 c)) s ||| sw ||| cf_tq (S 0 0) (S 0 1) (S 3 c) s (mv u)) u) = true then -10 - nI u
    else match cf_aft (S 0 0) (S 0 1) (S 1) (S 3 c) s (mv u) (cf_jl S c pl s) with
      | none => -10 - nI (u + 1)
      | some r => cf_jr S c mv T d (u + 1) r (cf_jp pl r) (cf_std (S 0 0) (S 0 1) (cf_two (S 3 c)) s) (cf_tq (S 0 0) (S 0 1) (S 3 c) s (mv u))
def cf_tmv (T : Nat) (tm : Nat → Nat) (u : Nat) : Nat := if u < T then tm u else 0
section RXE
variable {L : Nat} {t : List (Nat × Nat)} {hl : Nat → Nat → Int64} {v : Nat → Nat → Option Nat}
variable {RI : Int32 → (Nat → Nat → Int32) → (Nat → Nat → Int64) → (Nat → Nat → Option Nat) → Prop}
theorem c101 {hi0 : Nat → Nat → Int32} {S : cf_S} (X0 : cf_XR S hi0 hl) {c T : Nat} {tm : Nat → Nat} (hc : c < S 0 2) (hT : T ≤ 400) (e5 : hi0 84 5 = nI T) (htm : ∀ j, j < T → tm j < 7 ∧ hi0 85 j = nI (tm j)) (k : ∀ hi2, (∀ a b, ¬ a = 86 → ¬ a = 87 → hi2 a b = hi0 a b) → RI (cf_jr S c (cf_tmv T tm) T (max T (cf_set S) + 2) 0 (S 9 c) (S 12) 0 0) hi2 hl v) : rx_CI L t 101 [.ref 84, .ref (rx_ct c)] hi0 hl v RI := by
  have V := X0.1.1
  have h6 := V.2.2.1
  have h12 := V.2.2.2.1
  have hwh := cf_V_wh V
  have hset := cf_set_lt V
  obtain ⟨v3, v9, vl, _⟩ := V.2.2.2.2.2.2.1 c hc
  have XR : ∀ hi : Nat → Nat → Int32, (∀ a b, ¬ a = 86 → ¬ a = 87 → hi a b = hi0 a b) → cf_XR S hi hl := fun hi F => cf_A_XR X0 (fun a b _ _ => F a b (by omega) (by omega)) (fun _ _ _ _ => rfl)
  have lp : ∀ d u, u + d = max T (cf_set S) + 2 → ∀ (s : Nat) (pl : Nat → Nat) (bf sw : Int64) (hi : Nat → Nat → Int32), (∀ a b, ¬ a = 86 → ¬ a = 87 → hi a b = hi0 a b) → cf_tl2 S c pl hi → cf_vs (S 0 0) (S 0 1) (cf_two (S 3 c)) s → s / 256 ≤ S 0 3 → cf_jr S c (cf_tmv T tm) T d u s pl bf sw = cf_jr S c (cf_tmv T tm) T (max T (cf_set S) + 2) 0 (S 9 c) (S 12) 0 0 →
      rx_aw 101 36 [.ref 84, .ref (rx_ct c), .int (nI s), .long bf, rx_no, .long sw, rx_no, .int (nI (max T (cf_set S) + 1)), .int (nI u), rx_no, rx_no, rx_no, rx_no, rx_no, rx_no, rx_no, rx_no] [] (rx_hp L t hi hl v) (fun r h2 => ∃ z : Int32, r = some (.int z) ∧ rx_ok2 L t h2 (RI z)) := by
    intro d
    induction d with
    | zero =>
      intro u hud s pl bf sw hi F Tl hs hld he
      refine w101_judge_36 (by omega) ⟨fun _ => c_retIe (k hi F) ?_, fun g => absurd ?_ g⟩
      · rw [← he, F 84 5 (by omega) (by omega), e5]; rfl
      · rw [cf_lt, nI_toInt (by omega), nI_toInt (by omega)]; omega
    | succ d ih =>
      intro u hud s pl bf sw hi F Tl hs hld he
      have X := XR hi F
      have C := X.1.2.2.2.2.1
      have hC := C.2.2.1 c hc
      have ek : hi (rx_ct c) 5 = nI (S 3 c) := hC.1
      have slt : s < 2 ^ 20 := by omega
      have hff : cf_jl S c pl s ≤ 12 := by
        have := cf_ff_le (fun x => !cf_fo S c x && decide (pl x = s % 64)) (S 0 3)
        unfold cf_jl; omega
      rw [cf_jr] at he
      -- what is left, for the MOVE m
      have rest : ∀ m, m = cf_tmv T tm u → m < 7 → rx_CI L t 8 [.int (nI s)] hi hl v (fun z4 hi4 hl4 v4 => rx_CI L t 103 [.ref 84, .int z4] hi4 hl4 v4 (fun z5 hi5 hl5 v5 => rx_CI L t 49 [.ref 7, .int (nI (S 3 c)), .int (nI s), .int (nI m), .int z5] hi5 hl5 v5 (fun z6 hi6 hl6 v6 => rx_CL L t 53 [.ref 7, .int (hi6 (rx_ct c) 5), .int (nI s), .int (nI m)] hi6 hl6 v6 (fun z7 hi7 hl7 v7 => rx_CL L t 42 [.ref 7, .int (hi7 (rx_ct c) 5), .int (nI s)] hi7 hl7 v7 (fun z8 hi8 hl8 v8 => rx_CI L t 48 [.int (nI s)] hi8 hl8 v8 (fun z9 hi9 hl9 v9 => rx_CI L t 104 [.ref 84, .ref (rx_ct c), .int z9, .long ((z8 ||| sw) ||| z7), .int (nI u)] hi9 hl9 v9 (fun z10 hi10 hl10 v10 => (z10 = 0 → ∃ z : Int32, some (Value.int (-10 - nI u)) = some (.int z) ∧ rx_ok2 L t (rx_hp L t hi10 hl10 v10) (RI z)) ∧ (¬ z10 = 0 → rx_CI L t 92 [.ref 13, .ref (rx_ct c), .long bf, .long z8, .long ((z8 ||| sw) ||| z7), .int (nI u)] hi10 hl10 v10 (fun z12 hi12 hl12 v12 => (z12 = 0 → (0 ≤ z6 → rx_CI L t 48 [.int z6] hi12 hl12 v12 (fun z15 hi15 hl15 v15 => rx_CI L t 8 [.int z6] hi15 hl15 v15 (fun z16 hi16 hl16 v16 => rx_CV L t 105 [.ref 84, .int z15, .int z16] hi16 hl16 v16 (fun hi17 hl17 v17 => rx_aw 101 36 [.ref 84, .ref (rx_ct c), .int z6, .long z8, rx_no, .long z7, rx_no, .int (nI (max T (cf_set S) + 1)), .int (nI u + 1), rx_no, rx_no, rx_no, rx_no, rx_no, rx_no, rx_no, rx_no] [] (rx_hp L t hi17 hl17 v17) (fun r h2 => ∃ z : Int32, r = some (.int z) ∧ rx_ok2 L t h2 (RI z)))))) ∧ (¬ 0 ≤ z6 → ∃ z : Int32, some (Value.int (-10 - (nI u + 1))) = some (.int z) ∧ rx_ok2 L t (rx_hp L t hi12 hl12 v12) (RI z))) ∧ (¬ z12 = 0 → ∃ z : Int32, some (Value.int (-10 - nI u)) = some (.int z) ∧ rx_ok2 L t (rx_hp L t hi12 hl12 v12) (RI z))))))))))) := by
        intro m em hm
        rw [← em] at he
        refine c8 (c103 V C Tl (by omega) (c49 X.1.2.1 X.1.2.2.1 (gr := S 1) (fun q hq => ⟨X.1.2.2.2.2.2.1 q hq, V.2.2.2.2.1 q⟩) v3 hs slt hm (by unfold cf_jl at hff; omega) ?_))
        rw [ek]
        refine c53 X.1.2.2.1 v3 hs.1 (by omega) ?_
        rw [ek]
        refine c42 X.1.2.1 X.1.2.2.1 v3 hs.1 (c48 (by omega) (c104 X hc Tl hld (by omega) ⟨fun y => ?_, fun y => c92 X hc (by omega) ⟨fun y2 => ⟨fun y3 => ?_, fun y3 => ?_⟩, fun y2 => ?_⟩⟩))
        · have y' := cf_B_eq y
          rw [if_pos (by rw [y']; rfl)] at he
          exact c_retIe (k hi F) he.symm
        all_goals have y' := cf_B_ne y
        · have y2' := cf_B_eq y2
          rw [if_neg (by rw [y', y2']; decide)] at he
          cases e1 : cf_aft (S 0 0) (S 0 1) (S 1) (S 3 c) s m (cf_jl S c pl s) with
          | none =>
            have e1' : cf_aft (S 0 0) (S 0 1) (S 1) (S 3 c) s m (cf_ff (fun x => !cf_fo S c x && decide (pl x = s % 64)) (S 0 3)) = none := e1
            rw [e1'] at y3; exact absurd y3 (by decide)
          | some r =>
            have e1' : cf_aft (S 0 0) (S 0 1) (S 1) (S 3 c) s m (cf_ff (fun x => !cf_fo S c x && decide (pl x = s % 64)) (S 0 3)) = some r := e1
            rw [e1'] at y3 ⊢
            rw [e1] at he
            have hr := cf_aft_vs (M := S 0 3) hwh hs hm hld (cf_ff_le _ _) e1'
            have hr64 := hr.1.1
            refine c48 (a := r) (by omega) (c8 (a := r) (c105 V C hr.2 ?_))
            rw [show nI u + 1 = nI (u + 1) from nI_add u 1]
            refine ih (u + 1) (by omega) r (cf_jp pl r) _ _ _ (fun a b q1 q2 => ?_) (fun x hx => ?_) hr.1 hr.2 he
            · by_cases z : r / 256 = 0
              · rw [if_pos z]; exact F a b q1 q2
              · rw [if_neg z, cf_ru_ne (by omega)]; exact F a b q1 q2
            · obtain ⟨t1, t2, t3⟩ := Tl x hx
              unfold cf_jp
              by_cases z : r / 256 = 0
              · rw [if_pos z, if_neg (by omega)]; exact ⟨t1, t2, t3⟩
              · rw [if_neg z]
                by_cases w : x + 1 = r / 256
                · rw [if_pos w]
                  refine ⟨?_, by omega, by rw [cf_ru_ne (by omega)]; exact t3⟩
                  rw [show r / 256 - 1 = x by omega]; exact cf_ru_eq
                · rw [if_neg w, cf_ru_ne (by omega), cf_ru_ne (by omega)]; exact ⟨t1, t2, t3⟩
        · have y2' := cf_B_eq y2
          rw [if_neg (by rw [y', y2']; decide)] at he
          cases e1 : cf_aft (S 0 0) (S 0 1) (S 1) (S 3 c) s m (cf_jl S c pl s) with
          | none =>
            rw [e1] at he
            refine c_retIe (k hi F) (he.symm.trans ?_)
            show -10 - nI (u + 1) = _
            rw [show nI u + 1 = nI (u + 1) from nI_add u 1]
          | some r =>
            have e1' : cf_aft (S 0 0) (S 0 1) (S 1) (S 3 c) s m (cf_ff (fun x => !cf_fo S c x && decide (pl x = s % 64)) (S 0 3)) = some r := e1
            have hr := cf_aft_vs (M := S 0 3) hwh hs hm hld (cf_ff_le _ _) e1'
            rw [e1'] at y3
            exfalso; apply y3
            show 0 ≤ nI r
            rw [show (0 : Int32) = nI 0 from rfl, cf_nle (by omega) (by omega)]; omega
        · rw [if_pos (by rw [cf_B_ne y2, Bool.or_true])] at he
          exact c_retIe (k hi F) he.symm
      refine w101_judge_36 (by omega) ⟨fun g => ?_, fun _ => ⟨fun g => ?_, fun g => ⟨u, rfl, ?_, ?_⟩⟩⟩
      · rw [cf_lt, nI_toInt (by omega), nI_toInt (by omega)] at g; omega
      all_goals rw [F 84 5 (by omega) (by omega), e5, cf_nle (by omega) (by omega)] at g
      · rw [ek]
        exact rest 0 (by unfold cf_tmv; rw [if_neg (by omega)]) (by omega)
      · omega
      · rw [ek, F 85 u (by omega) (by omega), (htm u (by omega)).2]
        exact rest (tm u) (by unfold cf_tmv; rw [if_pos (by omega)]) (htm u (by omega)).1
  refine w101_judge (by omega) (c102 X0 hc (fun hi2 F Tl => ?_))
  have C2 := (XR hi2 F).1.2.2.2.2.1
  have em : (if hi2 84 5 < hi2 13 5 then hi2 13 5 else hi2 84 5) + 1 = nI (max T (cf_set S) + 1) := by
    rw [F 84 5 (by omega) (by omega), e5, cf_Rs (XR hi2 F) (by omega)]
    by_cases z : T < cf_set S
    · rw [if_pos (by rw [cf_lt, nI_toInt (by omega), nI_toInt (by omega)]; omega), Nat.max_eq_right (by omega)]; exact nI_add _ 1
    · rw [if_neg (by rw [cf_lt, nI_toInt (by omega), nI_toInt (by omega)]; omega), Nat.max_eq_left (by omega)]; exact nI_add _ 1
  rw [em, (C2.2.2.1 c hc).2.1]
  exact lp (max T (cf_set S) + 2) 0 (by omega) (S 9 c) (S 12) 0 0 hi2 F Tl v9 vl rfl
end RXE
