/-! TROUBLED, in the class and in the reference. -/
theorem cf_set_mx {S : cf_S} {c : Nat} (hc : c < S 0 2) : S 4 c + 1 ≤ cf_set S := by
  unfold cf_set
  have := cf_le_mx (f := S 4) hc
  omega
theorem cf_blk_set {S : cf_S} {c l u : Nat} (hu : cf_set S ≤ u) : cf_blk S c l u = cf_blk S c l (cf_set S) := by
  have e1 : cf_oth S c u = cf_oth S c (cf_set S) := by
    unfold cf_oth
    refine cf_un_eq (fun o ho => ?_)
    rw [← cf_hd_min u ho, Nat.min_eq_right hu]
  have e2 : cf_sq S u l = cf_sq S (cf_set S) l := by
    unfold cf_sq
    refine cf_un_eq (fun s _ => ?_)
    rw [← cf_sp_min u s, Nat.min_eq_right hu]
  unfold cf_blk
  rw [e1, e2]
theorem cf_bad_set {S : cf_S} (V : cf_V S) {c u : Nat} (hc : c < S 0 2) (hu : cf_set S ≤ u) (h : cf_bad S c (cf_set S) = false) : cf_bad S c u = false := by
  by_cases e : u = cf_set S
  · rw [e]; exact h
  · obtain ⟨h1, _⟩ := (cf_bad_iff V hc).mp h
    have est : cf_st S u c = cf_st S (cf_set S) c := by rw [← cf_st_min u hc, Nat.min_eq_right hu]
    have ehd : cf_hd S u c = cf_hd S (cf_set S) c := by rw [← cf_hd_min u hc, Nat.min_eq_right hu]
    rw [cf_bad_iff V hc, ehd, est, cf_blk_set hu]
    have sd : ∀ w, cf_set S ≤ w → ∀ o, o < S 0 2 → cf_sd S w o = cf_sd S (cf_set S) o := fun w hw o ho => by rw [← cf_sd_min w ho, Nat.min_eq_right hw]
    refine ⟨h1, cf_nsw_stay (by rw [sd u hu c hc, sd (u - 1) (by omega) c hc]) (fun o ho hne => ?_)⟩
    rw [sd u hu c hc, sd u hu o ho]
    rw [cf_dj] at h1 ⊢
    intro p hp q
    have hwh := cf_V_wh V
    have hpl := cf_hd_in V hc p (cf_sd_hd hp)
    apply h1 p (cf_sd_hd hp)
    rw [cf_blk_gT (by omega), cf_gT_hd ho hne (cf_sd_hd q), Bool.or_true]
theorem cf_mts_iff {S : cf_S} (V : cf_V S) {c u : Nat} (hc : c < S 0 2) (hu : 0 < u) (h1 : (cf_hd S u c &&& cf_blk S c (cf_st S u c / 256) u) = 0) : cf_mts S c (cf_sd S (u - 1) c) (cf_sd S u c) (cf_hd S u c) u = cf_bad S c u := by
  have hwh := cf_V_wh V
  have dj : ∀ o, o < S 0 2 → ¬ o = c → (cf_hd S u o &&& cf_hd S u c) = 0 := by
    intro o ho hne
    rw [cf_dj] at h1 ⊢
    intro p hp q
    have hpl := cf_hd_in V hc p q
    apply h1 p q
    rw [cf_blk_gT (by omega), cf_gT_hd ho hne hp, Bool.or_true]
  have eb : ∀ b b' : Bool, (b = false ↔ b' = false) → b = b' := by decide
  apply eb
  rw [cf_bad_iff V hc]
  unfold cf_mts
  constructor
  · intro h
    refine ⟨h1, Or.inr (fun o ho hne => ?_)⟩
    rw [cf_not_true]
    intro q
    have := cf_any_true (p := fun o => !decide (o = c) && (decide (¬ (cf_hd S u o &&& cf_hd S u c) = 0) || (decide (0 < u) && cf_swap (cf_sd S (u - 1) c) (cf_sd S u c) (cf_sd S (u - 1) o) (cf_sd S u o)))) ho (by
      show (!decide (o = c) && (decide (¬ (cf_hd S u o &&& cf_hd S u c) = 0) || (decide (0 < u) && cf_swap (cf_sd S (u - 1) c) (cf_sd S u c) (cf_sd S (u - 1) o) (cf_sd S u o)))) = true
      rw [decide_eq_false hne, q, decide_eq_true hu, Bool.and_self, Bool.or_true]; rfl)
    rw [this] at h; cases h
  · rintro ⟨_, ns⟩
    refine cf_any_false (fun o ho => ?_)
    by_cases e : o = c
    · rw [decide_eq_true e]; rfl
    · rw [decide_eq_false (show ¬ ¬ (cf_hd S u o &&& cf_hd S u c) = 0 from fun z => z (dj o ho e)), Bool.false_or]
      rcases ns with ns | ns
      · omega
      · rw [ns o ho e, Bool.and_false, Bool.and_false]
section RXE
variable {L : Nat} {t : List (Nat × Nat)} {hi : Nat → Nat → Int32} {hl : Nat → Nat → Int64} {v : Nat → Nat → Option Nat}
variable {RI : Int32 → (Nat → Nat → Int32) → (Nat → Nat → Int64) → (Nat → Nat → Option Nat) → Prop}
theorem c91 {S : cf_S} (X : cf_XR S hi hl) (G : cf_G S) {c k : Nat} (hc : c < S 0 2) (hk : k ≤ 400) (kk : RI (cf_B (cf_trb S k c)) hi hl v) : rx_CI L t 91 [.ref 13, .ref (rx_ct c), .int (nI k)] hi hl v RI := by
  have V := X.1.1
  have h6 := V.2.2.1
  have h12 := V.2.2.2.1
  obtain ⟨hkd, _, _, h400, _, _, _, v8, _⟩ := V.2.2.2.2.2.2.1 c hc
  have hC := X.1.2.2.2.2.1.2.2.1 c hc
  have hst := X.2.2.1 c hc
  have hset := cf_set_lt V
  have hse := cf_set_mx (S := S) hc
  unfold cf_trb at kk
  refine w91_isTroubled (by omega) ⟨fun g => ⟨fun g2 => ⟨fun g3 => ?_, fun g3 => ?_⟩, fun g2 => c_retI ?_⟩, fun g => c_retI ?_⟩
  · rw [hC.2.2.2.2.2.1, show (0 : Int32) = nI 0 from rfl, nI_eq (by omega) (by decide)] at g
    rw [hC.2.2.1, nI_ltI (by omega) (by omega)] at g2
    rw [decide_eq_true g, decide_eq_true g2, Bool.true_and, Bool.true_and] at kk
    rw [nI_1]
    have loop : ∀ d u, u + d = cf_set S + 1 → k + 1 ≤ u → cf_any (fun i => cf_bad S c (k + 1 + i)) (u - (k + 1)) = false → rx_aw 91 30 [.ref 13, .ref (rx_ct c), .int (nI k), .int (nI u), rx_no, rx_no, rx_no, rx_no] [] (rx_hp L t hi hl v) (fun r h2 => ∃ z : Int32, r = some (.int z) ∧ rx_ok2 L t h2 (RI z)) := by
      intro d
      induction d with
      | zero =>
        intro u hu hku hany
        have : u = cf_set S + 1 := by omega
        subst this
        refine w91_isTroubled_30 (by omega) ⟨fun _ => c_retI ?_, fun g => absurd ?_ g⟩
        · have : cf_any (fun i => cf_bad S c (k + 1 + i)) (401 - k) = false := by
            refine cf_any_false (fun i hi => ?_)
            have old : ∀ j, j < cf_set S + 1 - (k + 1) → cf_bad S c (k + 1 + j) = false := by
              intro j hj
              rw [cf_not_true]
              intro q
              rw [cf_any_true (p := fun i => cf_bad S c (k + 1 + i)) hj q] at hany; cases hany
            rcases Nat.lt_or_ge (k + 1 + i) (cf_set S) with q | q
            · exact old i (by omega)
            · refine cf_bad_set V hc q ?_
              have := old (cf_set S - (k + 1)) (by omega)
              rwa [show k + 1 + (cf_set S - (k + 1)) = cf_set S by omega] at this
          rw [this] at kk; exact kk
        · rw [cf_Rs X (by omega)]; exact nI_lt (by omega) (by omega)
      | succ d ih =>
        intro u hu hku hany
        obtain ⟨r1, r2, r3⟩ := hst.1 u (by omega)
        obtain ⟨_, p2, _⟩ := hst.1 (u - 1) (by omega)
        have hv := (cf_wv V u).1 c hc
        have yes : cf_bad S c u = true → RI 1 hi hl v := by
          intro q
          rw [cf_any_true (p := fun i => cf_bad S c (k + 1 + i)) (i := u - (k + 1)) (by omega) (by rw [show k + 1 + (u - (k + 1)) = u by omega]; exact q)] at kk
          exact kk
        refine w91_isTroubled_30 (by omega) ⟨fun g => ?_, fun _ => ⟨u, rfl, by omega, ?_⟩⟩
        · rw [cf_Rs X (by omega)] at g; exact absurd g (nI_nlt (by omega) (by omega))
        · rw [r1]
          refine c48 (by omega) (c66 X hc (by omega) (by omega) ⟨u, rfl, by omega, fun g => ⟨u - 1, ?_, by omega, u, rfl, by omega, ?_⟩, fun g => c_retI (yes ?_)⟩)
          · rw [show (1 : Int32) = nI 1 from rfl, cf_nsub (by omega)]
          · rw [cf_cmp0, r3] at g
            have g' : (cf_hd S u c &&& cf_blk S c (cf_st S u c / 256) u) = 0 := by
              rw [cf_dj] at g ⊢; exact fun p hp q => g p q hp
            rw [p2, r2, r3]
            refine c92 X hc (by omega) ?_
            rw [cf_mts_iff V hc (by omega) g']
            refine ⟨fun g2 => ?_, fun g2 => c_retI (yes (cf_B_ne g2))⟩
            rw [nI_1]
            refine ih (u + 1) (by omega) (by omega) ?_
            rw [show u + 1 - (k + 1) = u - (k + 1) + 1 by omega, cf_any, hany, show k + 1 + (u - (k + 1)) = u by omega, cf_B_eq g2]; rfl
          · rw [cf_cmp0, r3] at g
            rw [← Bool.not_eq_false]
            intro q
            apply g
            have := ((cf_bad_iff V hc).mp q).1
            rw [cf_dj] at this ⊢; exact fun p hp q => this p q hp
    exact loop (cf_set S + 1 - (k + 1)) (k + 1) (by omega) (Nat.le_refl _) (by rw [Nat.sub_self]; rfl)
  · exfalso
    apply g3
    rw [hst.2, cf_any_false (fun u _ => by rw [cf_dec_made V G hc]; rfl)]; rfl
  · rw [hC.2.2.1, nI_ltI (by omega) (by omega)] at g2
    rw [decide_eq_false g2, Bool.and_false, Bool.false_and] at kk; exact kk
  · rw [hC.2.2.2.2.2.1, show (0 : Int32) = nI 0 from rfl, nI_eq (by omega) (by decide)] at g
    rw [decide_eq_false g] at kk; exact kk
theorem c90 {S : cf_S} (X : cf_XR S hi hl) (G : cf_G S) {k : Nat} {g : Bool} (hk : k ≤ 400) (kk : RI (oI (cf_frt S k g)) hi hl v) : rx_CI L t 90 [.ref 13, .int (nI k), .int (cf_B g)] hi hl v RI := by
  have V := X.1.1
  have h6 := V.2.2.1
  have loop : ∀ d i, i + d = S 0 2 → cf_ff (fun c => (decide (S 3 c = 3) == g) && cf_trb S k c) i = 0 → rx_aw 90 2 [.ref 13, .int (nI k), .int (cf_B g), .int (nI i)] [] (rx_hp L t hi hl v) (fun r h2 => ∃ z : Int32, r = some (.int z) ∧ rx_ok2 L t h2 (RI z)) := by
    intro d
    induction d with
    | zero =>
      intro i hi0 hf
      have : i = S 0 2 := by omega
      subst this
      have e : cf_frt S k g = 0 := hf
      rw [e] at kk
      refine w90_firstTroubled_2 ⟨fun _ => c_retI kk, fun q => absurd ?_ q⟩
      rw [X.1.2.2.2.2.1.1]; exact nI_le (Nat.le_refl _) (by omega)
    | succ d ih =>
      intro i hi0 hf
      have hkd := (V.2.2.2.2.2.2.1 i (by omega)).1
      have hC := X.1.2.2.2.2.1.2.2.1 i (by omega)
      have i3 : (3 : Int32) = nI 3 := rfl
      have skip : ((decide (S 3 i = 3) == g) && cf_trb S k i) = false → rx_aw 90 2 [.ref 13, .int (nI k), .int (cf_B g), .int (nI i + 1)] [] (rx_hp L t hi hl v) (fun r h2 => ∃ z : Int32, r = some (.int z) ∧ rx_ok2 L t h2 (RI z)) := by
        intro h
        rw [nI_1]
        exact ih (i + 1) (by omega) (by rw [cf_ff, if_pos hf, h]; rfl)
      have test : (decide (S 3 i = 3) == g) = true → rx_CI L t 91 [.ref 13, .ref (rx_ct i), .int (nI k)] hi hl v (fun z6 hi6 hl6 v6 => ((z6 = 0 → rx_aw 90 2 [.ref 13, .int (nI k), .int (cf_B g), .int (nI i + 1)] [] (rx_hp L t hi6 hl6 v6) (fun r h2 => ∃ z : Int32, r = some (.int z) ∧ rx_ok2 L t h2 (RI z))) ∧ (¬ (z6 = 0) → ∃ z : Int32, some (Value.int (nI i)) = some (.int z) ∧ rx_ok2 L t (rx_hp L t hi6 hl6 v6) (RI z)))) := by
        intro h
        refine c91 X G (by omega) hk ⟨fun q => skip ?_, fun q => c_retI ?_⟩
        · rw [h, cf_B_eq q]; rfl
        · have e : cf_frt S k g = i + 1 := cf_ff_at hf (by rw [h, cf_B_ne q]; rfl) _ (by omega)
          rw [e, cf_oS] at kk; exact kk
      refine w90_firstTroubled_2 ⟨fun q => ?_, fun _ => ⟨i, rfl, by omega, fun q => ⟨fun q2 => ⟨i, rfl, by omega, test ?_⟩, fun q2 => skip ?_⟩, fun q => ⟨fun q2 => ⟨i, rfl, by omega, test ?_⟩, fun q2 => skip ?_⟩⟩⟩
      · rw [X.1.2.2.2.2.1.1] at q; exact absurd q (nI_ge (by omega) (by omega))
      all_goals rw [hC.1, i3, nI_eq (by omega) (by decide)] at q
      · cases g with
        | true => rw [decide_eq_true q]; rfl
        | false => exact absurd q2 (by decide)
      · cases g with
        | true => exact absurd rfl q2
        | false => rw [decide_eq_true q]; rfl
      · cases g with
        | true => exact absurd q2 (by decide)
        | false => rw [decide_eq_false q]; rfl
      · cases g with
        | true => rw [decide_eq_false q]; rfl
        | false => exact absurd rfl q2
  exact w90_firstTroubled (loop (S 0 2) 0 (by omega) rfl)
theorem c202 {S : cf_S} (Z : cf_RM S hi hl) (G : cf_G S) {c k : Nat} (hc : c < S 0 2) (hk : k ≤ 400) (kk : RI (cf_B (cf_trb S k c)) hi hl v) : rx_CI L t 202 [.ref 90, .int (nI c), .int (nI k)] hi hl v RI := by
  obtain ⟨V, H, M, K, N⟩ := Z
  have h6 := V.2.2.1
  obtain ⟨hkd, _, _, h400, _, _, _, v8, _⟩ := V.2.2.2.2.2.2.1 c hc
  have hC := M.2.2.2.2.2.1 c hc
  have W := cf_RW_NW V N
  unfold cf_trb at kk
  have i402 : (402 : Int32) = nI 402 := rfl
  have h100 : hi 100 c = 0 ↔ S 8 c = 0 := by rw [hC.2.2.2.2.2.1, show (0 : Int32) = nI 0 from rfl, nI_eq (by omega) (by decide)]
  have h94 : ∀ u, u < 2 ^ 20 → (hi 94 c ≤ nI u ↔ S 4 c ≤ u) := fun u hu => by rw [hC.2.1, nI_leI (by omega) (by omega)]
  have made : ∀ u, u < 401 → ¬ hi 104 (402 * c + u) = 0 := by
    intro u hu
    rw [(N.1 c hc).2 u hu, cf_dec_made V G hc]; decide
  by_cases hcond : S 8 c = 0 ∧ k < S 4 c
  · rw [decide_eq_true hcond.1, decide_eq_true hcond.2, Bool.true_and, Bool.true_and] at kk
    -- found at once
    have stop1 : ∀ u, u ≤ 402 → cf_any (fun i => cf_bad S c (k + 1 + i)) (401 - k) = true → rx_aw 202 5 [.ref 90, .int (nI c), .int (nI k), .int 1, .int (nI u)] [] (rx_hp L t hi hl v) (fun r h2 => ∃ z : Int32, r = some (.int z) ∧ rx_ok2 L t h2 (RI z)) := by
      intro u hu h
      rw [h] at kk
      refine w202_isTroubled_r_5 ⟨fun _ => ⟨Or.inr rfl, c_retI kk⟩, fun g => ⟨c, rfl, by omega, fun g2 => ⟨c, rfl, by omega, fun g3 => ⟨Or.inr rfl, c_retI kk⟩, fun g3 => ⟨fun g4 => absurd g4 (by decide), fun _ => ⟨Or.inr rfl, c_retI kk⟩⟩⟩, fun g2 => ⟨Or.inr rfl, c_retI kk⟩⟩⟩
    have loop : ∀ d u, u + d = 402 → k + 1 ≤ u → cf_any (fun i => cf_bad S c (k + 1 + i)) (u - (k + 1)) = false → rx_aw 202 5 [.ref 90, .int (nI c), .int (nI k), .int 0, .int (nI u)] [] (rx_hp L t hi hl v) (fun r h2 => ∃ z : Int32, r = some (.int z) ∧ rx_ok2 L t h2 (RI z)) := by
      intro d
      induction d with
      | zero =>
        intro u hu hku hany
        have : u = 402 := by omega
        subst this
        rw [show 402 - (k + 1) = 401 - k by omega] at hany
        rw [hany] at kk
        exact w202_isTroubled_r_5 ⟨fun _ => ⟨Or.inl rfl, c_retI kk⟩, fun g => absurd (by decide) g⟩
      | succ d ih =>
        intro u hu hku hany
        have yes : cf_bad S c u = true → cf_any (fun i => cf_bad S c (k + 1 + i)) (401 - k) = true := fun q => cf_any_true (p := fun i => cf_bad S c (k + 1 + i)) (i := u - (k + 1)) (by omega) (by rw [show k + 1 + (u - (k + 1)) = u by omega]; exact q)
        have next : cf_bad S c u = false → rx_aw 202 5 [.ref 90, .int (nI c), .int (nI k), .int 0, .int (nI u + 1)] [] (rx_hp L t hi hl v) (fun r h2 => ∃ z : Int32, r = some (.int z) ∧ rx_ok2 L t h2 (RI z)) := by
          intro q
          rw [nI_1]
          refine ih (u + 1) (by omega) (by omega) ?_
          rw [show u + 1 - (k + 1) = u - (k + 1) + 1 by omega, cf_any, hany, show k + 1 + (u - (k + 1)) = u by omega, q]; rfl
        refine w202_isTroubled_r_5 ⟨fun g => ?_, fun _ => ⟨c, rfl, by omega, fun _ => ⟨c, rfl, by omega, fun g => ?_, fun _ => ⟨fun _ => ⟨fun g => ?_, fun _ => c173 V M W hc (by omega) ⟨fun g => ?_, fun g => c174 M.2.1 W h6 hc (by omega) ⟨fun g2 => ⟨c, rfl, by omega, fun g3 => next ?_, fun g3 => ⟨402 * c + u, cf_402, by omega, fun g4 => ?_, fun g4 => next ?_⟩⟩, fun g2 => ?_⟩⟩⟩, fun g => absurd rfl g⟩⟩, fun g => absurd (h100.mpr hcond.1) g⟩⟩
        · rw [i402] at g; exact absurd g (nI_ge (by omega) (by decide))
        · rw [h94 k (by omega)] at g; omega
        · exact absurd g (nI_ge (by omega) (by omega))
        · rw [nI_1]
          exact stop1 (u + 1) (by omega) (yes (by unfold cf_bad; rw [cf_B_eq g]; rfl))
        · unfold cf_bad; rw [cf_B_ne g, cf_B_eq g2]; rfl
        · rw [h94 u (by omega)] at g3
          exact absurd g4 (made u (by omega))
        · unfold cf_bad; rw [cf_B_ne g, cf_B_eq g2]; rfl
        · rw [nI_1]
          exact stop1 (u + 1) (by omega) (yes (by unfold cf_bad; rw [cf_B_ne g2, Bool.or_true]))
    refine w202_isTroubled_r (w202_isTroubled_r_5 ⟨fun g => ?_, fun _ => ⟨c, rfl, by omega, fun _ => ⟨c, rfl, by omega, fun g => ?_, fun _ => ⟨fun _ => ⟨fun _ => ⟨c, rfl, by omega, fun g => ?_, fun g => ⟨402 * c + k, cf_402, by omega, fun g2 => absurd g2 (made k (by omega)), fun _ => ?_⟩⟩, fun g => absurd (nI_le (Nat.le_refl _) (by omega)) g⟩, fun g => absurd rfl g⟩⟩, fun g => absurd (h100.mpr hcond.1) g⟩⟩)
    · rw [i402] at g; exact absurd g (nI_ge (by omega) (by decide))
    · rw [h94 k (by omega)] at g; omega
    · rw [h94 k (by omega)] at g; omega
    · rw [nI_1]
      exact loop (402 - (k + 1)) (k + 1) (by omega) (Nat.le_refl _) (by rw [Nat.sub_self]; rfl)
  · have hf : (decide (S 8 c = 0) && decide (k < S 4 c)) = false := by
      rw [cf_not_true, Bool.and_eq_true, decide_eq_true_iff, decide_eq_true_iff]; exact hcond
    rw [hf, Bool.false_and] at kk
    refine w202_isTroubled_r (w202_isTroubled_r_5 ⟨fun _ => ⟨Or.inl rfl, c_retI kk⟩, fun _ => ⟨c, rfl, by omega, fun g => ⟨c, rfl, by omega, fun _ => ⟨Or.inl rfl, c_retI kk⟩, fun g2 => absurd ⟨h100.mp g, ?_⟩ hcond⟩, fun _ => ⟨Or.inl rfl, c_retI kk⟩⟩⟩)
    rw [h94 k (by omega)] at g2; omega
theorem c201 {S : cf_S} (Z : cf_RM S hi hl) (G : cf_G S) {k : Nat} {g : Bool} (hk : k ≤ 400) (kk : RI (oI (cf_frt S k g)) hi hl v) : rx_CI L t 201 [.ref 90, .int (nI k), .int (cf_B g)] hi hl v RI := by
  have V := Z.1
  have h6 := V.2.2.1
  have M := Z.2.2.1
  have loop : ∀ d i, i + d = S 0 2 → cf_ff (fun c => (decide (S 3 c = 3) == g) && cf_trb S k c) i = 0 → rx_aw 201 2 [.ref 90, .int (nI k), .int (cf_B g), .int (nI i)] [] (rx_hp L t hi hl v) (fun r h2 => ∃ z : Int32, r = some (.int z) ∧ rx_ok2 L t h2 (RI z)) := by
    intro d
    induction d with
    | zero =>
      intro i hi0 hf
      have : i = S 0 2 := by omega
      subst this
      have e : cf_frt S k g = 0 := hf
      rw [e] at kk
      refine w201_firstTroubled_r_2 ⟨fun _ => c_retI kk, fun q => absurd ?_ q⟩
      rw [M.2.1]; exact nI_le (Nat.le_refl _) (by omega)
    | succ d ih =>
      intro i hi0 hf
      have hkd := (V.2.2.2.2.2.2.1 i (by omega)).1
      have hC := M.2.2.2.2.2.1 i (by omega)
      have i3 : (3 : Int32) = nI 3 := rfl
      have skip : ((decide (S 3 i = 3) == g) && cf_trb S k i) = false → rx_aw 201 2 [.ref 90, .int (nI k), .int (cf_B g), .int (nI i + 1)] [] (rx_hp L t hi hl v) (fun r h2 => ∃ z : Int32, r = some (.int z) ∧ rx_ok2 L t h2 (RI z)) := by
        intro h
        rw [nI_1]
        exact ih (i + 1) (by omega) (by rw [cf_ff, if_pos hf, h]; rfl)
      have test : (decide (S 3 i = 3) == g) = true → rx_CI L t 202 [.ref 90, .int (nI i), .int (nI k)] hi hl v (fun z6 hi6 hl6 v6 => ((z6 = 0 → rx_aw 201 2 [.ref 90, .int (nI k), .int (cf_B g), .int (nI i + 1)] [] (rx_hp L t hi6 hl6 v6) (fun r h2 => ∃ z : Int32, r = some (.int z) ∧ rx_ok2 L t h2 (RI z))) ∧ (¬ (z6 = 0) → ∃ z : Int32, some (Value.int (nI i)) = some (.int z) ∧ rx_ok2 L t (rx_hp L t hi6 hl6 v6) (RI z)))) := by
        intro h
        refine c202 Z G (by omega) hk ⟨fun q => skip ?_, fun q => c_retI ?_⟩
        · rw [h, cf_B_eq q]; rfl
        · have e : cf_frt S k g = i + 1 := cf_ff_at hf (by rw [h, cf_B_ne q]; rfl) _ (by omega)
          rw [e, cf_oS] at kk; exact kk
      refine w201_firstTroubled_r_2 ⟨fun q => ?_, fun _ => ⟨i, rfl, by omega, fun q => ⟨fun q2 => test ?_, fun q2 => skip ?_⟩, fun q => ⟨fun q2 => test ?_, fun q2 => skip ?_⟩⟩⟩
      · rw [M.2.1] at q; exact absurd q (nI_ge (by omega) (by omega))
      all_goals rw [hC.1, i3, nI_eq (by omega) (by decide)] at q
      · cases g with
        | true => rw [decide_eq_true q]; rfl
        | false => exact absurd q2 (by decide)
      · cases g with
        | true => exact absurd rfl q2
        | false => rw [decide_eq_true q]; rfl
      · cases g with
        | true => exact absurd q2 (by decide)
        | false => rw [decide_eq_false q]; rfl
      · cases g with
        | true => rw [decide_eq_false q]; rfl
        | false => exact absurd rfl q2
  exact w201_firstTroubled_r (loop (S 0 2) 0 (by omega) rfl)
end RXE
