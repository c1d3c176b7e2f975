/-! about, digest of both. -/
def cf_fol {α : Type} (f : Nat → α → α) : Nat → Nat → α → α
  | 0, _, n => n
  | d + 1, i, n => cf_fol f d (i + 1) (f i n)
theorem cf_lpg {α : Type} {f : Nat → α → α} {P : Nat → α → Prop} {N m pc : Nat} {A : α → Nat → List Value} {H : rx_H} {Q : Option Value → rx_H → Prop} {a0 : α} (p0 : P 0 a0) (hp : ∀ i a, i < N → P i a → P (i + 1) (f i a)) (st : ∀ i a, i < N → P i a → rx_aw m pc (A (f i a) (i + 1)) [] H Q → rx_aw m pc (A a i) [] H Q) (en : P N (cf_fol f N 0 a0) → rx_aw m pc (A (cf_fol f N 0 a0) N) [] H Q) : rx_aw m pc (A a0 0) [] H Q := by
  have lp : ∀ d i a, i + d = N → P i a → cf_fol f d i a = cf_fol f N 0 a0 → rx_aw m pc (A a i) [] H Q := by
    intro d
    induction d with
    | zero =>
      intro i a hid hP he
      have : i = N := by omega
      subst this
      rw [← he] at en
      exact en hP
    | succ d ih =>
      intro i a hid hP he
      exact st i a (by omega) hP (ih (i + 1) _ (by omega) (hp i a (by omega) hP) he)
  exact lp N 0 a0 (by omega) p0 rfl
def cf_tn1 (S : cf_S) (c i n : Nat) : Nat := n + (if cf_itn (S 3 c) (cf_st S i c / 64 % 4) (S (20 + c) i) = true then 1 else 0)
def cf_tns (S : cf_S) (c : Nat) : Nat := cf_fol (cf_tn1 S c) (S 4 c) 0 0
theorem cf_tn1_le {S : cf_S} {c i n : Nat} (h : n ≤ i) : cf_tn1 S c i n ≤ i + 1 := by
  unfold cf_tn1
  split <;> omega
def cf_aba (S : cf_S) (a0 a1 : Int32) : Int32 := if cf_cn (S 0 2) a0 = 0 ∨ ¬ (0 ≤ a1.toInt ∧ a1.toInt ≤ 5) then -2 else if a1.toInt = 0 then nI (S 3 (cf_cn (S 0 2) a0 - 1)) else if a1.toInt = 1 then nI (S 4 (cf_cn (S 0 2) a0 - 1)) else if a1.toInt = 2 then nI (cf_tns S (cf_cn (S 0 2) a0 - 1))
  else if a1.toInt = 3 then cf_B (cf_op S (cf_cn (S 0 2) a0 - 1)) else if a1.toInt = 4 then nI (S 8 (cf_cn (S 0 2) a0 - 1)) else oI (S 5 (cf_cn (S 0 2) a0 - 1))
def cf_dg1 (S : cf_S) (c : Nat) (u : Nat) (x : Int64) : Int64 := x * 31 + Int32.toInt64 (nI (S (20 + c) u)) + 1
def cf_dg2 (S : cf_S) (c : Nat) (x : Int64) : Int64 := cf_fol (cf_dg1 S c) (S 4 c) 0 x
def cf_dig (S : cf_S) : Int64 := cf_fol (cf_dg2 S) (S 0 2) 0 0
section RXE
variable {L : Nat} {t : List (Nat × Nat)} {hi : Nat → Nat → Int32} {hl : Nat → Nat → Int64} {v : Nat → Nat → Option Nat}
variable {RI : Int32 → (Nat → Nat → Int32) → (Nat → Nat → Int64) → (Nat → Nat → Option Nat) → Prop}
variable {RL : Int64 → (Nat → Nat → Int32) → (Nat → Nat → Int64) → (Nat → Nat → Option Nat) → Prop}
theorem c111 {S : cf_S} (X : cf_XR S hi hl) {c : Nat} (hc : c < S 0 2) (k : RI (nI (cf_tns S c)) hi hl v) : rx_CI L t 111 [.ref (rx_ct c)] hi hl v RI := by
  have V := X.1.1
  have h6 := V.2.2.1
  have hC := X.1.2.2.2.2.1.2.2.1 c hc
  obtain ⟨hkd, _, _, v4, _, _, _, _, v7⟩ := V.2.2.2.2.2.2.1 c hc
  have hset := cf_set_mx hc
  refine w111_turns (by omega) (cf_lpg (f := cf_tn1 S c) (P := fun i n => n ≤ i) (N := S 4 c) (A := fun n i => [.ref (rx_ct c), .int (nI n), .int (nI i)]) (a0 := 0) (Nat.le_refl _) (fun i a _ h => cf_tn1_le h) (fun i n hi0 hn q => ?_) (fun hP => ?_))
  · refine w111_turns_4 (by omega) ⟨fun g => ?_, fun g => ⟨i, rfl, by omega, ?_⟩⟩
    · rw [hC.2.2.1, cf_nle (by omega) (by omega)] at g; omega
    · have lt := cf_st_lt V hc i
      have m7 := v7 i hi0
      rw [((X.2.2.1 c hc).1 i (by omega)).1]
      refine c16 (by omega) ⟨i, rfl, by omega, ?_⟩
      rw [hC.1, hC.2.2.2.2.2.2.2 i hi0]
      refine c81 hkd (by omega) (by omega) ⟨fun g2 => ?_, fun g2 => ?_⟩
      all_goals unfold cf_tn1 at q
      · rw [if_neg (by rw [cf_B_eq g2]; decide)] at q
        rw [show (1 : Int32) = nI 1 from rfl, nI_add]; exact q
      · rw [if_pos (cf_B_ne g2)] at q
        rw [show (1 : Int32) = nI 1 from rfl, nI_add, nI_add]; exact q
  · refine w111_turns_4 (by omega) ⟨fun g => c_retI k, fun g => absurd ?_ g⟩
    rw [hC.2.2.1, cf_nle (by omega) (by omega)]; omega
theorem c222 {S : cf_S} (V : cf_V S) (M : cf_M S hi) (N : cf_NW S hi hl) {c : Nat} (hc : c < S 0 2) (k : RI (nI (cf_tns S c)) hi hl v) : rx_CI L t 222 [.ref 90, .int (nI c)] hi hl v RI := by
  have h6 := V.2.2.1
  have hM := M.2.2.2.2.2.1 c hc
  obtain ⟨hkd, _, _, v4, _, _, _, _, v7⟩ := V.2.2.2.2.2.2.1 c hc
  refine w222_turnsIn_r (cf_lpg (f := cf_tn1 S c) (P := fun i n => n ≤ i) (N := S 4 c) (A := fun n i => [.ref 90, .int (nI c), .int (nI n), .int (nI i), rx_no]) (a0 := 0) (Nat.le_refl _) (fun i a _ h => cf_tn1_le h) (fun i n hi0 hn q => ?_) (fun hP => ?_))
  · refine w222_turnsIn_r_4 ⟨c, rfl, by omega, fun g => ?_, fun g => ?_⟩
    · rw [hM.2.1, cf_nle (by omega) (by omega)] at g; omega
    · have m7 := v7 i hi0
      have em : cf_mt S c i = S (20 + c) i := by unfold cf_mt; rw [if_pos hi0]
      refine c194 V M hc (by omega) ?_
      rw [em]
      refine ⟨fun g2 => ?_, fun g2 => ⟨c, rfl, by omega, 402 * c + i, cf_402, by omega, ?_⟩⟩
      all_goals rw [cf_lt, nI_toInt (by omega)] at g2
      all_goals have h4 : ((4 : Int32)).toInt = 4 := rfl
      all_goals unfold cf_tn1 at q
      · have ef : cf_itn (S 3 c) (cf_st S i c / 64 % 4) (S (20 + c) i) = false := by
          unfold cf_itn
          rw [decide_eq_false (show ¬ S (20 + c) i = 3 by omega), decide_eq_false (show ¬ S (20 + c) i = 4 by omega), decide_eq_false (show ¬ S (20 + c) i ≤ 4 by omega)]
          cases cf_two (S 3 c) <;> simp
        rw [if_neg (by rw [ef]; decide)] at q
        rw [show (0 : Int32) = nI 0 from rfl, show (1 : Int32) = nI 1 from rfl, nI_add, nI_add]; exact q
      · rw [hM.1, ((N.1 c hc).1 i (by omega)).2.1]
        refine c189 hkd (by omega) (by omega) ?_
        have eb : nI n + cf_B (cf_itn (S 3 c) (cf_st S i c / 64 % 4) (S (20 + c) i)) = nI (n + (if cf_itn (S 3 c) (cf_st S i c / 64 % 4) (S (20 + c) i) = true then 1 else 0)) := by
          cases cf_itn (S 3 c) (cf_st S i c / 64 % 4) (S (20 + c) i) with
          | true => exact nI_add n 1
          | false => exact nI_add n 0
        rw [eb, show (1 : Int32) = nI 1 from rfl, nI_add]; exact q
  · refine w222_turnsIn_r_4 ⟨c, rfl, by omega, fun g => c_retI k, fun g => absurd ?_ g⟩
    rw [hM.2.1, cf_nle (by omega) (by omega)]; omega
theorem c110 {S : cf_S} (X : cf_XR S hi hl) {a0 a1 : Int32} (k : RI (cf_aba S a0 a1) hi hl v) : rx_CI L t 110 [.ref 1, .int a0, .int a1] hi hl v RI := by
  have V := X.1.1
  have C := X.1.2.2.2.2.1
  have h6 := V.2.2.1
  have h0 : ((0 : Int32)).toInt = 0 := rfl
  have h1 : ((1 : Int32)).toInt = 1 := rfl
  have h2 : ((2 : Int32)).toInt = 2 := rfl
  have h3 : ((3 : Int32)).toInt = 3 := rfl
  have h4 : ((4 : Int32)).toInt = 4 := rfl
  have h5 : ((5 : Int32)).toInt = 5 := rfl
  refine w110_about (c59 V C ?_)
  by_cases hc0 : cf_cn (S 0 2) a0 = 0
  · rw [if_pos hc0]
    refine Or.inl ⟨rfl, c_retIe k ?_⟩
    unfold cf_aba; rw [if_pos (Or.inl hc0)]
  rw [if_neg hc0]
  obtain ⟨ex, hcl⟩ := cf_cn_x (x := a0) h6 (by omega)
  unfold cf_aba at k
  generalize hcc : cf_cn (S 0 2) a0 - 1 = c at *
  have hC := C.2.2.1 c hcl
  refine Or.inr ⟨c, by omega, rfl, fun g => c_retIe k ?_, fun g0 => ⟨fun g => c_retIe k ?_, fun g1 => ⟨fun g => c111 X hcl (c_retIe k ?_), fun g2 => ⟨fun g => c62 V C hcl ⟨fun e => c_retIe k ?_, fun e => c_retIe k ?_⟩, fun g3 => ⟨fun g => c_retIe k ?_, fun g4 => ⟨fun g => c_retIe k ?_, fun g5 => c_retIe k ?_⟩⟩⟩⟩⟩⟩
  · rw [cf_eqI] at g; rw [if_neg (by omega), if_pos (by omega), hC.1]
  all_goals rw [cf_eqI] at g0
  · rw [cf_eqI] at g; rw [if_neg (by omega), if_neg (by omega), if_pos (by omega), hC.2.2.1]
  all_goals rw [cf_eqI] at g1
  · rw [cf_eqI] at g; rw [if_neg (by omega), if_neg (by omega), if_neg (by omega), if_pos (by omega)]
  all_goals rw [cf_eqI] at g2
  · rw [cf_eqI] at g; rw [if_neg (by omega), if_neg (by omega), if_neg (by omega), if_neg (by omega), if_pos (by omega), e]
  · rw [cf_eqI] at g; rw [if_neg (by omega), if_neg (by omega), if_neg (by omega), if_neg (by omega), if_pos (by omega), cf_B_ne e]; rfl
  all_goals rw [cf_eqI] at g3
  · rw [cf_eqI] at g; rw [if_neg (by omega), if_neg (by omega), if_neg (by omega), if_neg (by omega), if_neg (by omega), if_pos (by omega), hC.2.2.2.2.2.1]
  all_goals rw [cf_eqI] at g4
  · rw [cf_eqI] at g; rw [if_neg (by omega), if_neg (by omega), if_neg (by omega), if_neg (by omega), if_neg (by omega), if_neg (by omega), hC.2.2.2.1]
  · rw [cf_eqI] at g5; rw [if_pos (by omega)]
theorem c221 {S : cf_S} (V : cf_V S) (M : cf_M S hi) (N : cf_NW S hi hl) {a0 a1 : Int32} (k : RI (cf_aba S a0 a1) hi hl v) : rx_CI L t 221 [.ref 90, .int a0, .int a1] hi hl v RI := by
  have h6 := V.2.2.1
  have h0 : ((0 : Int32)).toInt = 0 := rfl
  have h1 : ((1 : Int32)).toInt = 1 := rfl
  have h2 : ((2 : Int32)).toInt = 2 := rfl
  have h3 : ((3 : Int32)).toInt = 3 := rfl
  have h4 : ((4 : Int32)).toInt = 4 := rfl
  have h5 : ((5 : Int32)).toInt = 5 := rfl
  refine w221_about_r (c161 V M ⟨fun g => c_retIe k ?_, fun g => ?_⟩)
  · have := of_decide_eq_false (cf_B_eq g)
    unfold cf_aba; rw [if_pos (by omega)]
  have hc0 := of_decide_eq_true (cf_B_ne g)
  obtain ⟨ex, hcl⟩ := cf_cn_x (x := a0) h6 (by omega)
  unfold cf_aba at k
  generalize hcc : cf_cn (S 0 2) a0 - 1 = c at *
  have hM := M.2.2.2.2.2.1 c hcl
  have h6c : c < 6 := by omega
  have hc0' : ¬ cf_cn (S 0 2) a0 = 0 := by omega
  generalize cf_cn (S 0 2) a0 = cc at *
  subst ex
  refine ⟨fun g => ⟨c, rfl, h6c, c_retIe k ?_⟩, fun g0 => ⟨fun g => ⟨c, rfl, h6c, c_retIe k ?_⟩, fun g1 => ⟨fun g => c222 V M N hcl (c_retIe k ?_), fun g2 => ⟨fun g => c162 V M hcl ⟨fun e => c_retIe k ?_, fun e => c_retIe k ?_⟩, fun g3 => ⟨fun g => ⟨c, rfl, h6c, c_retIe k ?_⟩, fun g4 => ⟨fun g => ⟨c, rfl, h6c, fun e => c_retIe k ?_, fun e => ⟨c, rfl, h6c, c_retIe k ?_⟩⟩, fun g5 => c_retIe k ?_⟩⟩⟩⟩⟩⟩
  · rw [cf_eqI] at g; rw [if_neg (by omega), if_pos (by omega), hM.1]
  all_goals rw [cf_eqI] at g0
  · rw [cf_eqI] at g; rw [if_neg (by omega), if_neg (by omega), if_pos (by omega), hM.2.1]
  all_goals rw [cf_eqI] at g1
  · rw [cf_eqI] at g; rw [if_neg (by omega), if_neg (by omega), if_neg (by omega), if_pos (by omega)]
  all_goals rw [cf_eqI] at g2
  · rw [cf_eqI] at g; rw [if_neg (by omega), if_neg (by omega), if_neg (by omega), if_neg (by omega), if_pos (by omega), e]
  · rw [cf_eqI] at g; rw [if_neg (by omega), if_neg (by omega), if_neg (by omega), if_neg (by omega), if_pos (by omega), cf_B_ne e]; rfl
  all_goals rw [cf_eqI] at g3
  · rw [cf_eqI] at g; rw [if_neg (by omega), if_neg (by omega), if_neg (by omega), if_neg (by omega), if_neg (by omega), if_pos (by omega), hM.2.2.2.2.2.1]
  all_goals rw [cf_eqI] at g4
  · rw [cf_eqI] at g
    rw [hM.2.2.1] at e
    have := of_decide_eq_false (cf_B_eq e)
    rw [if_neg (by omega), if_neg (by omega), if_neg (by omega), if_neg (by omega), if_neg (by omega), if_neg (by omega), show S 5 c = 0 by omega]; rfl
  · rw [cf_eqI] at g
    rw [hM.2.2.1] at e
    have q := of_decide_eq_true (cf_B_ne e)
    rw [if_neg (by omega), if_neg (by omega), if_neg (by omega), if_neg (by omega), if_neg (by omega), if_neg (by omega), (hM.2.2.2.1 q).1, ← cf_oS, show S 5 c - 1 + 1 = S 5 c by omega]
  · rw [cf_eqI] at g5; rw [if_pos (by omega)]
theorem c117 {S : cf_S} (V : cf_V S) (C : cf_C S hi) (k : RL (cf_dig S) hi hl v) : rx_CL L t 117 [.ref 1] hi hl v RL := by
  have h6 := V.2.2.1
  refine w117_digest (cf_lpg (f := cf_dg2 S) (P := fun _ _ => True) (N := S 0 2) (A := fun x i => [.ref 1, .long x, rx_no, .int (nI i), rx_no, rx_no]) (a0 := 0) trivial (fun _ _ _ _ => trivial) (fun c x hc _ q => ?_) (fun _ => ?_))
  · have hC := C.2.2.1 c hc
    have v4 := (V.2.2.2.2.2.2.1 c hc).2.2.2.1
    refine w117_digest_4 ⟨fun g => ?_, fun g => ⟨c, rfl, by omega, ?_⟩⟩
    · rw [C.1, cf_nle (by omega) (by omega)] at g; omega
    refine cf_lpg (f := cf_dg1 S c) (P := fun _ _ => True) (N := S 4 c) (A := fun x i => [.ref 1, .long x, rx_no, .int (nI c), .ref (rx_ct c), .int (nI i)]) (a0 := x) trivial (fun _ _ _ _ => trivial) (fun u x hu _ q => ?_) (fun _ => ?_)
    · refine w117_digest_29 (by omega) ⟨fun g => ?_, fun g => ⟨u, rfl, by omega, ?_⟩⟩
      · rw [hC.2.2.1, cf_nle (by omega) (by omega)] at g; omega
      · rw [hC.2.2.2.2.2.2.2 u hu, show (1 : Int32) = nI 1 from rfl, nI_add]; exact q
    · refine w117_digest_29 (by omega) ⟨fun g => ?_, fun g => absurd ?_ g⟩
      · rw [show (1 : Int32) = nI 1 from rfl, nI_add]; exact q
      · rw [hC.2.2.1, cf_nle (by omega) (by omega)]; omega
  · refine w117_digest_4 ⟨fun g => c_retL k, fun g => absurd ?_ g⟩
    rw [C.1, cf_nle (by omega) (by omega)]; omega
theorem c224 {S : cf_S} (V : cf_V S) (M : cf_M S hi) (k : RL (cf_dig S) hi hl v) : rx_CL L t 224 [.ref 90] hi hl v RL := by
  have h6 := V.2.2.1
  refine w224_digest_r (cf_lpg (f := cf_dg2 S) (P := fun _ _ => True) (N := S 0 2) (A := fun x i => [.ref 90, .long x, rx_no, .int (nI i), rx_no]) (a0 := 0) trivial (fun _ _ _ _ => trivial) (fun c x hc _ q => ?_) (fun _ => ?_))
  · have hM := M.2.2.2.2.2.1 c hc
    have v4 := (V.2.2.2.2.2.2.1 c hc).2.2.2.1
    refine w224_digest_r_4 ⟨fun g => ?_, fun g => ?_⟩
    · rw [M.2.1, cf_nle (by omega) (by omega)] at g; omega
    refine cf_lpg (f := cf_dg1 S c) (P := fun _ _ => True) (N := S 4 c) (A := fun x i => [.ref 90, .long x, rx_no, .int (nI c), .int (nI i)]) (a0 := x) trivial (fun _ _ _ _ => trivial) (fun u x hu _ q => ?_) (fun _ => ?_)
    · refine w224_digest_r_15 ⟨c, rfl, by omega, fun g => ?_, fun g => c194 V M hc (by omega) ?_⟩
      · rw [hM.2.1, cf_nle (by omega) (by omega)] at g; omega
      · have em : cf_mt S c u = S (20 + c) u := by unfold cf_mt; rw [if_pos hu]
        unfold cf_dg1 at q
        rw [em, Int64.mul_comm, show (1 : Int32) = nI 1 from rfl, nI_add]; exact q
    · refine w224_digest_r_15 ⟨c, rfl, by omega, fun g => ?_, fun g => absurd ?_ g⟩
      · rw [show (1 : Int32) = nI 1 from rfl, nI_add]; exact q
      · rw [hM.2.1, cf_nle (by omega) (by omega)]; omega
  · refine w224_digest_r_4 ⟨fun g => c_retL k, fun g => absurd ?_ g⟩
    rw [M.2.1, cf_nle (by omega) (by omega)]; omega
end RXE
theorem cf_pr_about {L : Nat} {t : List (Nat × Nat)} (a0 a1 : Int32) : cf_pr L t 110 221 [.int a0, .int a1] := by
  intro S ls hi hl v R
  obtain ⟨I, A, Z, E⟩ := id R
  exact c110 A.1 (c221 I.1 Z.1.2.2.1 Z.1.2.2.2.2 ⟨rfl, S, ls, R⟩)
/-- a call that answers with a long -/
def cf_prl (L : Nat) (t : List (Nat × Nat)) (a b : Nat) (as : List Value) : Prop := ∀ S ls hi hl v, cf_rel t S ls hi hl v → rx_CL L t a (.ref 1 :: as) hi hl v (fun z hi2 hl2 v2 => rx_CL L t b (.ref 90 :: as) hi2 hl2 v2 (fun z2 hi3 hl3 v3 => z2 = z ∧ cf_Rel t hi3 hl3 v3))
theorem cf_pr_digest {L : Nat} {t : List (Nat × Nat)} : cf_prl L t 117 224 [] := by
  intro S ls hi hl v R
  obtain ⟨I, A, Z, E⟩ := id R
  exact c117 I.1 A.1.1.2.2.2.2.1 (c224 I.1 Z.1.2.2.1 ⟨rfl, S, ls, R⟩)
