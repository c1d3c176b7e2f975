/-! safe of the reference, and of both. -/
def cf_gbo (S : cf_S) (c o : Nat) : Bool := !decide (o = c) && (cf_has (cf_sd S 0 o) (S 5 c - 1) || decide (S 5 o = S 5 c))
def cf_sf1 (S : cf_S) (c : Nat) : Prop := S 6 c = 0 ∧ cf_any (cf_gbo S c) (S 0 2) = false ∧ cf_rs S c (cf_shd S c)
theorem cf_RM_125 {S : cf_S} {hi hi2 : Nat → Nat → Int32} {hl : Nat → Nat → Int64} (Z : cf_RM S hi hl) (F : ∀ a b, ¬ a = 125 → hi2 a b = hi a b) : cf_RM S hi2 hl := cf_RM_ext Z (fun b _ => F 90 b (by omega)) (fun a b q1 q2 => F a b (by omega)) (fun _ _ _ _ => rfl)
section RXE
variable {L : Nat} {t : List (Nat × Nat)} {hl : Nat → Nat → Int64} {v : Nat → Nat → Option Nat}
variable {RI : Int32 → (Nat → Nat → Int32) → (Nat → Nat → Int64) → (Nat → Nat → Option Nat) → Prop}
theorem c226 {hi : Nat → Nat → Int32} {S : cf_S} (Z : cf_RM S hi hl) {c : Nat} (hc : c < S 0 2) (h5 : 0 < S 5 c) (k : ∀ b : Bool, (b = true ↔ cf_sf1 S c) → ∀ hi2, (∀ a b, ¬ a = 125 → hi2 a b = hi a b) → RI (cf_B b) hi2 hl v) : rx_CI L t 226 [.ref 90, .int (nI c)] hi hl v RI := by
  obtain ⟨V, H, M, K, N⟩ := Z
  have h6 := V.2.2.1
  have h12 := V.2.2.2.1
  have hwh := cf_V_wh V
  have hM := M.2.2.2.2.2.1 c hc
  obtain ⟨_, vs, _, _, v5, v6, _⟩ := V.2.2.2.2.2.2.1 c hc
  have e97 := (hM.2.2.2.1 h5).1
  have e98 := (hM.2.2.2.1 h5).2
  have lp : ∀ b0 : Bool, (b0 = true ↔ S 6 c = 0) → ∀ d i, i + d = S 0 2 → rx_aw 226 31 [.ref 90, .int (nI c), .long (cf_acs (cf_bar S ||| cf_sq S 0 0) (fun o => cf_sd S 0 o ||| cf_b1 (S 5 o)) c i), rx_no, .int (cf_B (b0 && !cf_any (cf_gbo S c) i)), .int (nI i)] [] (rx_hp L t hi hl v) (fun r h2 => ∃ z : Int32, r = some (.int z) ∧ rx_ok2 L t h2 (RI z)) := by
    intro b0 hb0 d
    induction d with
    | zero =>
      intro i hid
      have : i = S 0 2 := by omega
      subst this
      have no : (b0 && !cf_any (cf_gbo S c) (S 0 2)) = true ↔ S 6 c = 0 ∧ cf_any (cf_gbo S c) (S 0 2) = false := by
        rw [Bool.and_eq_true, hb0]
        cases cf_any (cf_gbo S c) (S 0 2) with
        | true => exact ⟨fun z => absurd z.2 (by decide), fun z => absurd z.2 (by decide)⟩
        | false => exact ⟨fun z => ⟨z.1, rfl⟩, fun z => ⟨z.1, rfl⟩⟩
      refine w226_isSafe_r_31 ⟨fun _ => ⟨fun z => c_retI (k false ?_ hi (fun _ _ _ => rfl)), fun z => ⟨402 * c, ?_, by omega, c, rfl, by omega, ?_⟩⟩, fun g => absurd ?_ g⟩
      · constructor
        · intro y; cases y
        · intro y
          have := no.mpr ⟨y.1, y.2.1⟩
          rw [cf_B_eq z] at this; cases this
      · rw [show (402 : Int32) = nI 402 from rfl, cf_nmul]
      · have z' := no.mp (cf_B_ne z)
        have e101 : hi 101 (402 * c) = nI (S 9 c % 64) := hM.2.2.2.2.2.2.2.1
        rw [e101, e97]
        refine c227 M.1 vs.1 (by omega) (fun b hb hi2 F => ⟨fun y => c_retI (k false ?_ hi2 F), fun y => c_retI (k true ?_ hi2 F)⟩)
        · constructor
          · intro q; cases q
          · intro q
            have := hb.mpr q.2.2
            rw [cf_B_eq y] at this; exact this
        · exact ⟨fun _ => ⟨z'.1, z'.2, hb.mp (cf_B_ne y)⟩, fun _ => rfl⟩
      · rw [M.2.1, cf_nle (by omega) (by omega)]; omega
    | succ d ih =>
      intro i hid
      have hi0 : i < S 0 2 := by omega
      have hMi := M.2.2.2.2.2.1 i hi0
      obtain ⟨_, _, _, _, v5i, _⟩ := V.2.2.2.2.2.2.1 i hi0
      have ei : (402 : Int32) * nI i = nI (402 * i) := by rw [show (402 : Int32) = nI 402 from rfl, cf_nmul]
      have e105 : hl 105 (402 * i) = cf_sd S 0 i := ((N.1 i hi0).1 0 (by omega)).2.2.2.1
      have ihn := ih (i + 1) (by omega)
      rw [cf_any] at ihn
      refine w226_isSafe_r_31 ⟨fun g => ?_, fun _ => ⟨fun g => ?_, fun g => ⟨402 * i, ei, by omega, i, rfl, by omega, fun g2 => ⟨402 * i, ei, by omega, c, rfl, by omega, ?_⟩, fun g2 => ⟨i, rfl, by omega, ?_⟩⟩⟩⟩
      · rw [M.2.1, cf_nle (by omega) (by omega)] at g; omega
      all_goals rw [nI_eq (by omega) (by omega)] at g
      · have hb : cf_gbo S c i = false := by unfold cf_gbo; rw [decide_eq_true g]; rfl
        rw [cf_acs, if_pos g, hb, Bool.or_false] at ihn
        rw [show nI i + 1 = nI (i + 1) from nI_add i 1]; exact ihn
      · have g2' := of_decide_eq_false (cf_B_eq ((hMi.2.2.1).symm.trans g2))
        have s5 : S 5 i = 0 := by omega
        have ef : cf_sd S 0 i ||| cf_b1 (S 5 i) = cf_sd S 0 i ||| 0 := by rw [s5]; rfl
        rw [cf_acs, if_neg g, ef] at ihn
        rw [e97]
        refine c169 (by omega) ?_
        rw [e105, show nI i + 1 = nI (i + 1) from nI_add i 1]
        refine ⟨fun y => ⟨i, rfl, by omega, fun y2 => ?_, fun y2 => absurd g2 y2⟩, fun y => ?_⟩
        all_goals rw [cf_cmp0, cf_ab (by omega)] at y
        · have hb : cf_gbo S c i = false := by unfold cf_gbo; rw [y, decide_eq_false (show ¬ S 5 i = S 5 c by omega), Bool.or_false, Bool.and_false]
          rw [hb, Bool.or_false] at ihn
          rw [cf_Ba1]; exact ihn
        · have hb : cf_gbo S c i = true := by unfold cf_gbo; rw [cf_not_true] at y; rw [Classical.not_not.mp y, decide_eq_false g]; rfl
          rw [hb, Bool.or_true, Bool.not_true, Bool.and_false] at ihn
          rw [cf_Ba0]; exact ihn
      · have g2' := of_decide_eq_true (cf_B_ne (fun z => g2 ((hMi.2.2.1).trans z)))
        have e97i := (hMi.2.2.2.1 g2').1
        have ef : cf_sd S 0 i ||| cf_b1 (S 5 i) = cf_sd S 0 i ||| cf_bt (S 5 i - 1) := by unfold cf_b1; rw [if_neg (by omega)]
        rw [cf_acs, if_neg g, ef] at ihn
        rw [e97i]
        refine c169 (by omega) ⟨402 * i, ei, by omega, c, rfl, by omega, ?_⟩
        rw [e97]
        refine c169 (by omega) ?_
        rw [e105, show nI i + 1 = nI (i + 1) from nI_add i 1]
        refine ⟨fun y => ⟨i, rfl, by omega, fun y2 => absurd y2 g2, fun y2 => ⟨i, rfl, by omega, c, rfl, by omega, fun y3 => ?_, fun y3 => ?_⟩⟩, fun y => ?_⟩
        all_goals rw [cf_cmp0, cf_ab (by omega)] at y
        all_goals try rw [e97, e97i, nI_eq (by omega) (by omega)] at y3
        · have hb : cf_gbo S c i = true := by unfold cf_gbo; rw [decide_eq_true (show S 5 i = S 5 c by omega), decide_eq_false g, Bool.or_true]; rfl
          rw [hb, Bool.or_true, Bool.not_true, Bool.and_false] at ihn
          rw [cf_Ba0]; exact ihn
        · have hb : cf_gbo S c i = false := by unfold cf_gbo; rw [y, decide_eq_false (show ¬ S 5 i = S 5 c by omega), Bool.or_false, Bool.and_false]
          rw [hb, Bool.or_false] at ihn
          rw [cf_Ba1]; exact ihn
        · have hb : cf_gbo S c i = true := by unfold cf_gbo; rw [cf_not_true] at y; rw [Classical.not_not.mp y, decide_eq_false g]; rfl
          rw [hb, Bool.or_true, Bool.not_true, Bool.and_false] at ihn
          rw [cf_Ba0]; exact ihn
  refine w226_isSafe_r (c167 V M (c171 (j := 0) (x := 0) M.2.2.1 h12 (cf_RW_NW V N) (by omega) (by omega) ⟨c, rfl, by omega, fun z => ?_, fun z => ?_⟩))
  all_goals rw [e98, cf_ole (by omega)] at z
  · exact lp false ⟨fun y => (by cases y), fun y => by omega⟩ (S 0 2) 0 (by omega)
  · exact lp true ⟨fun _ => by omega, fun _ => rfl⟩ (S 0 2) 0 (by omega)
theorem c225 {hi0 : Nat → Nat → Int32} {S : cf_S} (Z0 : cf_RM S hi0 hl) (k : ∀ b : Bool, (b = true ↔ ∀ c, c < S 0 2 → S 3 c ≤ 1 ∧ (0 < S 5 c → cf_sf1 S c)) → ∀ hi2, (∀ a b, ¬ a = 125 → hi2 a b = hi0 a b) → RI (cf_B b) hi2 hl v) : rx_CI L t 225 [.ref 90] hi0 hl v RI := by
  have V := Z0.1
  have h6 := V.2.2.1
  have lp : ∀ d i, i + d = S 0 2 → ∀ (b : Bool) (hi : Nat → Nat → Int32), (∀ a b, ¬ a = 125 → hi a b = hi0 a b) → (b = true ↔ ∀ c, c < i → S 3 c ≤ 1 ∧ (0 < S 5 c → cf_sf1 S c)) → rx_aw 225 4 [.ref 90, .int (cf_B b), .int (nI i)] [] (rx_hp L t hi hl v) (fun r h2 => ∃ z : Int32, r = some (.int z) ∧ rx_ok2 L t h2 (RI z)) := by
    intro d
    induction d with
    | zero =>
      intro i hid b hi F hb
      have : i = S 0 2 := by omega
      subst this
      refine w225_safe_r_4 ⟨fun _ => ⟨cf_B01 b, c_retI (k b hb hi F)⟩, fun g => absurd ?_ g⟩
      rw [F _ _ (by omega), Z0.2.2.1.2.1, cf_nle (by omega) (by omega)]; omega
    | succ d ih =>
      intro i hid b hi F hb
      have hii : i < S 0 2 := by omega
      have Z := cf_RM_125 Z0 F
      have M := Z.2.2.1
      have hM := M.2.2.2.2.2.1 i hii
      have v3 := (V.2.2.2.2.2.2.1 i hii).1
      have nx1 : ∀ hi' : Nat → Nat → Int32, (∀ a b, ¬ a = 125 → hi' a b = hi0 a b) → (S 3 i ≤ 1 ∧ (0 < S 5 i → cf_sf1 S i)) → rx_aw 225 4 [.ref 90, .int (cf_B b &&& 1), .int (nI i + 1)] [] (rx_hp L t hi' hl v) (fun r h2 => ∃ z : Int32, r = some (.int z) ∧ rx_ok2 L t h2 (RI z)) := fun hi' F' z => by
        rw [cf_Ba1, show nI i + 1 = nI (i + 1) from nI_add i 1]
        refine ih (i + 1) (by omega) b hi' F' (hb.trans ⟨fun y c hc => ?_, fun y c hc => y c (by omega)⟩)
        by_cases e : c = i
        · subst e; exact z
        · exact y c (by omega)
      have nx0 : ∀ hi' : Nat → Nat → Int32, (∀ a b, ¬ a = 125 → hi' a b = hi0 a b) → ¬ (S 3 i ≤ 1 ∧ (0 < S 5 i → cf_sf1 S i)) → rx_aw 225 4 [.ref 90, .int (cf_B b &&& 0), .int (nI i + 1)] [] (rx_hp L t hi' hl v) (fun r h2 => ∃ z : Int32, r = some (.int z) ∧ rx_ok2 L t h2 (RI z)) := fun hi' F' z => by
        rw [cf_Ba0, show nI i + 1 = nI (i + 1) from nI_add i 1]
        exact ih (i + 1) (by omega) false hi' F' ⟨fun y => (by cases y), fun y => absurd (y i (by omega)) z⟩
      refine w225_safe_r_4 ⟨fun g => ?_, fun _ => ⟨i, rfl, by omega, fun g => nx0 hi F ?_, fun g => ⟨i, rfl, by omega, fun g2 => nx1 hi F ?_, fun g2 => ?_⟩⟩⟩
      · rw [M.2.1, cf_nle (by omega) (by omega)] at g; omega
      all_goals rw [hM.1, show (1 : Int32) = nI 1 from rfl, cf_lt, nI_toInt (by omega), nI_toInt (by omega)] at g
      · intro z; omega
      · rw [hM.2.2.1] at g2
        have := of_decide_eq_false (cf_B_eq g2)
        exact ⟨by omega, fun z => absurd z this⟩
      · rw [hM.2.2.1] at g2
        have s5 := of_decide_eq_true (cf_B_ne g2)
        refine c226 Z hii s5 (fun b' hb' hi2 F2 => ⟨fun z => nx0 hi2 (fun a b q => (F2 a b q).trans (F a b q)) (fun w => ?_), fun z => nx1 hi2 (fun a b q => (F2 a b q).trans (F a b q)) ⟨by omega, fun _ => hb'.mp (cf_B_ne z)⟩⟩)
        have := hb'.mpr (w.2 s5)
        rw [cf_B_eq z] at this; cases this
  exact w225_safe_r (lp (S 0 2) 0 (by omega) true hi0 (fun _ _ _ => rfl) ⟨fun _ c hc => by omega, fun _ => rfl⟩)
end RXE
theorem cf_safe_eq {S : cf_S} {ls : Nat} (I : cf_Ir ls S) : ((∀ c, c < S 0 2 → S 3 c ≤ 1 ∧ S 6 c = 0) ∧ ∀ c, c < S 0 2 → 0 < S 5 c → cf_rs S c (cf_shc S c)) ↔ ∀ c, c < S 0 2 → S 3 c ≤ 1 ∧ (0 < S 5 c → cf_sf1 S c) := by
  have V := I.1
  have E4 := I.2.2.2.2.2.2.2
  have hwh := cf_V_wh V
  have eqs : (∀ c, c < S 0 2 → S 3 c ≤ 1) → ∀ c q, cf_has (cf_shc S c) q = cf_has (cf_shd S c) q := by
    intro hk c q
    have : cf_has (cf_shc S c) q = true ↔ cf_has (cf_shd S c) q = true := by
      unfold cf_shc cf_shd
      rw [cf_acs_has, cf_acs_has]
      have e : ∀ o, o < S 0 2 → (cf_has (cf_b1 (S 5 o) ||| cf_bt (S 9 o % 64)) q = true ↔ cf_has (cf_sd S 0 o ||| cf_b1 (S 5 o)) q = true) := by
        intro o ho
        have h2 : cf_two (S 3 o) = false := by unfold cf_two; exact decide_eq_false (by have := hk o ho; omega)
        have esd : cf_sd S 0 o = cf_bt (S 9 o % 64) := by
          show cf_std (S 0 0) (S 0 1) (cf_two (S 3 o)) (S 9 o) = _
          rw [h2]; rfl
        rw [esd, Int64.or_comm]
      constructor
      · rintro (h | ⟨o, h1, h2, h3⟩)
        · exact Or.inl h
        · exact Or.inr ⟨o, h1, h2, (e o h1).mp h3⟩
      · rintro (h | ⟨o, h1, h2, h3⟩)
        · exact Or.inl h
        · exact Or.inr ⟨o, h1, h2, (e o h1).mpr h3⟩
    cases h1 : cf_has (cf_shc S c) q <;> cases h2 : cf_has (cf_shd S c) q
    · rfl
    · rw [h1, h2] at this; exact absurd (this.mpr rfl) (by decide)
    · rw [h1, h2] at this; exact absurd (this.mp rfl) (by decide)
    · rfl
  have rse : (∀ c, c < S 0 2 → S 3 c ≤ 1) → ∀ c, (cf_rs S c (cf_shc S c) ↔ cf_rs S c (cf_shd S c)) := by
    intro hk c
    unfold cf_rs
    have : cf_opn (S 0 0) (S 0 1) (cf_shc S c) = cf_opn (S 0 0) (S 0 1) (cf_shd S c) := by
      funext q; unfold cf_opn; rw [eqs hk c q]
    rw [this]
  constructor
  · rintro ⟨hA, hB⟩ c hc
    have hk : ∀ c, c < S 0 2 → S 3 c ≤ 1 := fun c hc => (hA c hc).1
    refine ⟨hk c hc, fun h5 => ?_⟩
    have rs := (rse hk c).mp (hB c hc h5)
    refine ⟨(hA c hc).2, cf_any_false (fun o ho => ?_), rs⟩
    obtain ⟨n, hn⟩ := rs
    have op := cf_rn_op hn
    unfold cf_opn at op
    rw [Bool.and_eq_true] at op
    have ns : cf_has (cf_shd S c) (S 5 c - 1) = false := by
      have := op.2
      revert this
      cases cf_has (cf_shd S c) (S 5 c - 1) <;> decide
    rw [cf_not_true] at ns
    unfold cf_gbo
    by_cases e : o = c
    · rw [decide_eq_true e]; rfl
    · rw [decide_eq_false e, Bool.not_false, Bool.true_and, Bool.or_eq_false_iff]
      have v5 := (V.2.2.2.2.2.2.1 c hc).2.2.2.2.1
      constructor
      · rw [cf_not_true]
        intro z
        apply ns
        unfold cf_shd
        rw [cf_acs_has]
        exact Or.inr ⟨o, ho, e, by rw [cf_hor, z]; rfl⟩
      · refine decide_eq_false (fun z => ns ?_)
        unfold cf_shd
        rw [cf_acs_has]
        refine Or.inr ⟨o, ho, e, ?_⟩
        unfold cf_b1
        rw [if_neg (by omega), cf_hor, cf_hbt, z, decide_eq_true (show S 5 c - 1 < 64 by omega), decide_eq_true rfl, Bool.and_true, Bool.or_true]
  · intro hA
    have hk : ∀ c, c < S 0 2 → S 3 c ≤ 1 := fun c hc => (hA c hc).1
    refine ⟨fun c hc => ⟨hk c hc, ?_⟩, fun c hc h5 => (rse hk c).mpr ((hA c hc).2 h5).2.2⟩
    rcases Nat.eq_zero_or_pos (S 5 c) with z | z
    · exact Classical.byContradiction fun w => E4 c hc w z
    · exact ((hA c hc).2 z).1
theorem cf_pr_safe {L : Nat} {t : List (Nat × Nat)} : cf_pr L t 118 225 [] := by
  intro S ls hi hl v R
  obtain ⟨I, A, Z, E⟩ := id R
  refine c118 A.1 (fun b hb => c225 Z.1 (fun b' hb' hi2 F => ⟨?_, S, ls, I, cf_A_ext A (fun a b z1 z2 => F a b (by omega)) (fun _ _ _ _ => rfl), ⟨cf_RM_125 Z.1 F, (F 90 48 (by omega)).trans Z.2⟩, cf_E_ext E (fun a b z => F a b (by unfold cf_er at z; omega)) (fun _ => rfl) rfl⟩))
  have : b = true ↔ b' = true := hb.trans ((cf_safe_eq I).trans hb'.symm)
  cases b <;> cases b'
  · rfl
  · exact absurd (this.mpr rfl) (by decide)
  · exact absurd (this.mp rfl) (by decide)
  · rfl
