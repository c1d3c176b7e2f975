/-! At rest: what holds between the calls. -/
def cf_Ir (ls : Nat) (S : cf_S) : Prop := cf_V S ∧ cf_G S ∧ (∀ c, c < S 0 2 → ¬ S 3 c = 3 → 0 < S 4 c → 0 < S 5 c ∧ S 7 c = 1) ∧ (∀ c, c < S 0 2 → ¬ S 8 c = 0 → S 4 c ≤ ls) ∧ (∀ c, c < S 0 2 → ∀ u, u < 402 → cf_bad S c u = false) ∧ ls ≤ 400 ∧ (∀ c, c < S 0 2 → S 3 c = 3 → S 5 c = 0 ∧ S 8 c = 0) ∧ (∀ c, c < S 0 2 → ¬ S 6 c = 0 → ¬ S 5 c = 0)
theorem cf_op_t {S : cf_S} {c : Nat} (h : cf_op S c = true) : 0 < S 5 c ∧ S 7 c = 0 ∧ S 8 c = 0 := by
  unfold cf_op at h
  rw [Bool.and_eq_true, Bool.and_eq_true, decide_eq_true_iff, decide_eq_true_iff, decide_eq_true_iff] at h
  exact ⟨h.1.1, h.1.2, h.2⟩
theorem cf_Ir_open {ls : Nat} {S : cf_S} (I : cf_Ir ls S) {c : Nat} (hc : c < S 0 2) (h : cf_op S c = true) : 0 < S 5 c ∧ S 4 c = 0 ∧ ¬ cf_dn S c ∧ cf_nsw S c (S 4 c) ∧ ¬ S 3 c = 3 := by
  obtain ⟨h5, h7, h8⟩ := cf_op_t h
  have hk : ¬ S 3 c = 3 := fun q => by have := I.2.2.2.2.2.2.1 c hc q; omega
  have h4 : S 4 c = 0 := by
    rcases Nat.eq_zero_or_pos (S 4 c) with q | q
    · exact q
    · have := (I.2.2.1 c hc hk q).2; omega
  exact ⟨h5, h4, fun q => by have := q.1; omega, Or.inl h4, hk⟩
theorem cf_Ir_plan {ls : Nat} {S S1 : cf_S} (I : cf_Ir ls S) {c : Nat} (hc : c < S 0 2) (h : cf_op S c = true) (hp : cf_pl S c = some S1) : cf_Ir ls (cf_pd S1 c) := by
  obtain ⟨h5, h4, nd, ns, hk⟩ := cf_Ir_open I hc h
  obtain ⟨V, G, E1, E2, Bd, hls, E3, E4⟩ := I
  obtain ⟨V1, G1, L1, bad1, _⟩ := cf_pl_some V G hc nd hp
  rw [h4] at bad1
  have B := cf_bc_lg L1
  have hn : S1 0 2 = S 0 2 := cf_bc_n B
  have hr : ∀ a b, ¬ a = 4 → ¬ a = 7 → a < 20 → cf_pd S1 c a b = S a b := fun a b q1 q2 q3 => by rw [cf_pd_r q2, cf_lg_e L1 q1 (by omega)]
  have e4 : ∀ o, ¬ o = c → cf_pd S1 c 4 o = S 4 o := fun o ho => by rw [cf_pd_r (by omega), B 4 o (by omega) (by omega) (by omega) (by omega)]
  have e7 : ∀ o, ¬ o = c → cf_pd S1 c 7 o = S 7 o := fun o ho => by unfold cf_pd; rw [if_neg (by omega), cf_lg_e L1 (by omega) (by omega)]
  refine ⟨cf_V_pd V1 c, cf_G_78 G1 (cf_r78_pd S1 c), fun o ho q1 q2 => ?_, fun o ho q => ?_, fun o ho u hu => ?_, hls, fun o ho q => ?_, fun o ho q => ?_⟩
  all_goals rw [hr 0 2 (by omega) (by omega) (by omega)] at ho
  · rw [hr 3 o (by omega) (by omega) (by omega)] at q1
    rw [hr 5 o (by omega) (by omega) (by omega)]
    by_cases e : o = c
    · subst e; exact ⟨h5, by unfold cf_pd; rw [if_pos ⟨rfl, rfl⟩]⟩
    · rw [e4 o e] at q2
      rw [e7 o e]; exact E1 o ho q1 q2
  · rw [hr 8 o (by omega) (by omega) (by omega)] at q
    by_cases e : o = c
    · subst e; exact absurd (cf_op_t h).2.2 q
    · rw [e4 o e]; exact E2 o ho q
  · rw [cf_bad_78 (cf_r78_pd S1 c)]
    by_cases e : o = c
    · subst e; exact bad1 u (Nat.zero_le _) hu
    · refine cf_bad_oth V G V1 G1 B hc ho e (Bd o ho u hu) (bad1 u (Nat.zero_le _) hu) (fun ⟨t, q1, q2⟩ => ⟨0, Nat.zero_le _, ?_⟩)
      rw [cf_ds_E2 (t := 0) (by omega) (Nat.zero_le _)] at q2
      have : cf_ds S1 c 0 = cf_ds S c 0 := B 9 c (by omega) (by omega) (by omega) (by omega)
      rw [this]; exact q2
  · rw [hr 3 o (by omega) (by omega) (by omega)] at q
    rw [hr 5 o (by omega) (by omega) (by omega), hr 8 o (by omega) (by omega) (by omega)]; exact E3 o ho q
  · rw [hr 6 o (by omega) (by omega) (by omega)] at q
    rw [hr 5 o (by omega) (by omega) (by omega)]; exact E4 o ho q
theorem cf_cut_id (S : cf_S) (c : Nat) : cf_cut S c (S 4 c) = S := by
  funext a b
  unfold cf_cut
  by_cases h : a = 4 ∧ b = c
  · rw [if_pos h, h.1, h.2]
  · rw [if_neg h]
theorem cf_Ir_st0 {ls : Nat} {S : cf_S} (I : cf_Ir ls S) {c k : Nat} (hc : c < S 0 2) (hk1 : ls ≤ k) (hk : k ≤ 400) : cf_Jk k (cf_st0 S c k) := by
  obtain ⟨V, G, E1, E2, Bd, hls, E3, E4⟩ := I
  have hm : min (S 4 c) k ≤ S 4 c := Nat.min_le_left _ _
  have r : ∀ a b, ¬ a = 8 → cf_st0 S c k a b = cf_cut S c (min (S 4 c) k) a b := fun a b h => by unfold cf_st0 cf_fte; rw [if_neg (fun q => h q.1)]
  have G' : cf_G (cf_cut S c (min (S 4 c) k)) := by
    by_cases q : k < S 4 c
    · rw [Nat.min_eq_right (by omega)]; exact cf_G_cut G q
    · rw [Nat.min_eq_left (by omega), cf_cut_id]; exact G
  refine ⟨cf_V_fte (cf_V_cut V hm) c (by decide), cf_G_78 G' (cf_r78_fte _ _ _), fun o ho q1 q2 => ?_, fun o ho q => ?_, fun o ho u hu => ?_, hk⟩
  all_goals rw [r 0 2 (by omega), cf_cut_r (by omega)] at ho
  · rw [r 3 o (by omega), cf_cut_r (by omega)] at q1
    rw [r 4 o (by omega)] at q2
    rw [r 5 o (by omega), cf_cut_r (by omega), r 7 o (by omega), cf_cut_r (by omega)]
    by_cases e : o = c
    · subst e; rw [cf_cut_4] at q2; exact E1 o ho q1 (by omega)
    · rw [cf_cut_r (by omega)] at q2; exact E1 o ho q1 q2
  · rw [r 4 o (by omega)]
    by_cases e : o = c
    · subst e; rw [cf_cut_4]; exact Nat.min_le_right _ _
    · rw [cf_cut_r (by omega)]
      have : cf_st0 S c k 8 o = S 8 o := by unfold cf_st0 cf_fte; rw [if_neg (by omega), cf_cut_r (by omega)]
      rw [this] at q
      have := E2 o ho q; omega
  · unfold cf_st0
    rw [cf_bad_78 (cf_r78_fte _ _ _)]
    by_cases q : k < S 4 c
    · rw [Nat.min_eq_right (by omega)]
      exact cf_cut_bad V (Nat.le_of_lt q) ho hu (Bd o ho u (by omega))
    · rw [Nat.min_eq_left (by omega), cf_cut_id]; exact Bd o ho u (by omega)
/-- behind stop(): nobody is in trouble -/
theorem cf_J_done {k : Nat} {S : cf_S} (J : cf_Jk k S) (h0 : cf_frt S k false = 0) (h1 : cf_frt S k true = 0) : ∀ c, c < S 0 2 → ∀ u, u < 402 → cf_bad S c u = false := by
  obtain ⟨V, G, E1, E2, Bd, hk⟩ := J
  have hwh := cf_V_wh V
  have nt : ∀ c, c < S 0 2 → cf_trb S k c = false := by
    intro c hc
    rw [cf_not_true]
    intro q
    cases e : decide (S 3 c = 3) with
    | false =>
      have := cf_ff_0 h0 hc
      rw [e, q] at this; cases this
    | true =>
      have := cf_ff_0 h1 hc
      rw [e, q] at this; cases this
  -- those that still move
  have act : ∀ c, c < S 0 2 → k < S 4 c → ∀ u, u < 402 → cf_bad S c u = false := by
    intro c hc h4 u hu
    rcases Nat.lt_or_ge k u with q | q
    · have h8 : S 8 c = 0 := by
        apply Classical.byContradiction
        intro z
        have := E2 c hc z; omega
      have := nt c hc
      rw [cf_not_true] at this ⊢
      intro z
      apply this
      unfold cf_trb
      rw [decide_eq_true h8, decide_eq_true h4, cf_any_true (p := fun i => cf_bad S c (k + 1 + i)) (i := u - (k + 1)) (by omega) (by rw [show k + 1 + (u - (k + 1)) = u by omega]; exact z)]; rfl
    · exact Bd c hc u q
  have still : ∀ c, c < S 0 2 → S 4 c ≤ k → ∀ u, k ≤ u → cf_st S u c = cf_st S k c ∧ cf_sd S u c = cf_sd S k c := by
    intro c hc h4 u hu
    have e : cf_st S u c = cf_st S k c := by rw [cf_dec_st V G hc, cf_dec_st V G hc, cf_ds_E2 h4 hu]
    exact ⟨e, by unfold cf_sd; rw [e]⟩
  have stillh : ∀ c, c < S 0 2 → S 4 c ≤ k → ∀ u, k < u → cf_hd S u c = cf_sd S k c := by
    intro c hc h4 u hu
    unfold cf_hd
    rw [cf_td_0 (by omega), cf_td_0 (by omega), if_neg (by omega), cf_or0, cf_or0, (still c hc h4 u (by omega)).2]
  intro c hc u hu
  rcases Nat.lt_or_ge k (S 4 c) with q | q
  · exact act c hc q u hu
  rcases Nat.lt_or_ge k u with qu | qu
  · obtain ⟨b1, _⟩ := (cf_bad_iff V hc).mp (Bd c hc k (Nat.le_refl _))
    rw [cf_dj] at b1
    -- no square is shared with another
    have disj : ∀ o, o < S 0 2 → ¬ o = c → ∀ p, cf_has (cf_sd S k c) p = true → ¬ cf_has (cf_hd S u o) p = true := by
      intro o ho hne p hp z
      have hpl := cf_hd_in V hc p (cf_sd_hd hp)
      rcases Nat.lt_or_ge k (S 4 o) with w | w
      · have := ((cf_bad_iff V ho).mp (act o ho w u hu)).1
        rw [cf_dj] at this
        apply this p z
        rw [cf_blk_gT (by omega), cf_gT_hd hc (fun e => hne e.symm) (by rw [stillh c hc q u qu]; exact hp), Bool.or_true]
      · rw [stillh o ho w u qu] at z
        apply b1 p (cf_sd_hd hp)
        rw [cf_blk_gT (by omega), cf_gT_hd ho hne (cf_sd_hd z), Bool.or_true]
    rw [cf_bad_iff V hc, stillh c hc q u qu, (still c hc q u (by omega)).1]
    refine ⟨?_, cf_nsw_stay (by rw [(still c hc q u (by omega)).2, (still c hc q (u - 1) (by omega)).2]) (fun o ho hne => ?_)⟩
    · rw [cf_dj]
      intro p hp z
      have hpl := cf_hd_in V hc p (cf_sd_hd hp)
      rw [cf_blk_gT (by omega), decide_eq_false (fun w => w hpl), Bool.false_or] at z
      unfold cf_gT at z
      rw [cf_hor, cf_hor, Bool.or_eq_true, Bool.or_eq_true] at z
      rcases z with (z | z) | z
      · apply b1 p (cf_sd_hd hp)
        rw [cf_blk_gT (by omega)]
        unfold cf_gT
        rw [cf_hor, cf_hor, z, Bool.true_or, Bool.true_or, Bool.or_true]
      · unfold cf_othg at z
        rw [cf_has_un, cf_any_iff] at z
        obtain ⟨o, ho, z⟩ := z
        by_cases w : o = c
        · rw [if_pos w, cf_h0] at z; cases z
        · rw [if_neg w] at z
          exact disj o ho w p hp z
      · unfold cf_rowg at z
        cases hm : (!decide (S 3 c = 1 ∧ cf_st S k c / 256 = 0)) with
        | false => rw [hm, cond_false, cf_h0] at z; cases z
        | true =>
          rw [hm, cond_true] at z
          unfold cf_sqg at z
          rw [cf_has_un, cf_any_iff] at z
          obtain ⟨s, hs, z⟩ := z
          by_cases w : s + 1 = cf_st S k c / 256
          · rw [if_pos w, cf_h0] at z; cases z
          · rw [if_neg w] at z
            -- the SHELF stands where it stood at tick k
            have same : cf_sp S k s = cf_sp S u s → False := by
              intro es
              apply b1 p (cf_sd_hd hp)
              rw [cf_blk_gT (by omega)]
              have : cf_has (cf_rowg S (cf_sp S) c (cf_st S k c / 256) k) p = true := by
                unfold cf_rowg
                rw [hm, cond_true]
                unfold cf_sqg
                rw [cf_has_un]
                exact cf_any_true hs (by rw [if_neg w, es]; exact z)
              unfold cf_gT
              rw [cf_hor, this, Bool.or_true, Bool.or_true]
            by_cases hown : ∃ o, o < S 0 2 ∧ cf_own S o = s + 1
            · obtain ⟨o, ho, eo⟩ := hown
              have hne : ¬ o = c := by
                intro e
                subst e
                have k1 := (G.2.2.1 o ho).1 (by omega)
                have ow := (cf_ds_v V G ho k).2
                rw [← cf_dec_st V G ho] at ow
                rcases ow with ow | ow
                · rw [decide_eq_true ⟨k1, ow⟩] at hm; cases hm
                · omega
              have exu := cf_sp_ex V G ho eo u
              have exk := cf_sp_ex V G ho eo k
              by_cases hl : cf_lifted S o u
              · rw [exu.1 hl, cf_hbt, Bool.and_eq_true, decide_eq_true_iff, decide_eq_true_iff] at z
                apply disj o ho hne p hp
                rw [← z.2, ← cf_dec_st V G ho]
                exact cf_sd_hd (cf_sd_sq V ho)
              · exact same (by rw [exu.2 hl, exk.2 (fun ⟨t, t1, t2⟩ => hl ⟨t, by omega, t2⟩)])
            · exact same (by rw [cf_sp_no V G hs (fun o ho e => hown ⟨o, ho, e⟩) u, cf_sp_no V G hs (fun o ho e => hown ⟨o, ho, e⟩) k])
    · rw [(still c hc q u (by omega)).2]
      rw [cf_dj]
      exact fun p hp z => disj o ho hne p hp (cf_sd_hd z)
  · exact Bd c hc u qu
/-- stop() changes no GUEST's fate -/
theorem cf_lp_8 {k : Nat} {r : cf_S × Nat} {o : Nat} : ∀ (f : Nat) (S : cf_S) (n : Nat), cf_Jk k S → cf_lp k f S n = some r → S 3 o = 3 → r.1 8 o = S 8 o
  | 0, S, n, _, h, _ => by cases h
  | f + 1, S, n, J, h, h3 => by
    rw [cf_lp] at h
    by_cases e : cf_frt S k false = 0
    · rw [if_pos e] at h
      have h := (Option.some_inj.mp h).symm
      subst h
      rfl
    · rw [if_neg e] at h
      obtain ⟨h1, h2, ht⟩ := cf_frt_x e
      obtain ⟨t8, t4⟩ := cf_trb_t ht
      have h2 := of_decide_eq_false h2
      generalize cf_frt S k false - 1 = x at *
      have J' := (cf_stp_ok J (P := fun _ => false) (fun c _ q => by cases q) h1 h2 ht).1
      have hox : ¬ o = x := fun q => by subst q; exact h2 h3
      have key : (cf_stp S k x).1 3 o = S 3 o ∧ (cf_stp S k x).1 8 o = S 8 o := by
        unfold cf_stp
        cases hp : cf_pl (cf_cut S x k) x with
        | none =>
          show cf_fte (cf_cut S x k) x 2 3 o = S 3 o ∧ cf_fte (cf_cut S x k) x 2 8 o = S 8 o
          unfold cf_fte
          rw [if_neg (by omega), if_neg (by omega), cf_cut_r (by omega), cf_cut_r (by omega)]
          exact ⟨rfl, rfl⟩
        | some S1 =>
          show cf_pd S1 x 3 o = S 3 o ∧ cf_pd S1 x 8 o = S 8 o
          obtain ⟨_, _, L1, _⟩ := cf_pl_some (cf_V_cut (c := x) J.1 (Nat.le_of_lt t4)) (cf_G_cut (c := x) J.2.1 t4) (by rw [cf_cut_r (by omega)]; exact h1) (cf_cut_dn J.2.1 h1 t4) hp
          rw [cf_pd_r (by omega), cf_pd_r (by omega), cf_lg_e L1 (by omega) (by omega), cf_lg_e L1 (by omega) (by omega), cf_cut_r (by omega), cf_cut_r (by omega)]
          exact ⟨rfl, rfl⟩
      rw [cf_lp_8 f _ _ J' h (by rw [key.1]; exact h3), key.2]
theorem cf_Ir_stop {ls : Nat} {S : cf_S} (I : cf_Ir ls S) {c k f : Nat} {r : cf_S × Nat} (hc : c < S 0 2) (hk3 : ¬ S 3 c = 3) (hk1 : ls ≤ k) (hk : k ≤ 400) (hr : cf_lp k f (cf_st0 S c k) 0 = some r) (h1 : cf_frt r.1 k true = 0) : cf_Ir k r.1 := by
  have J := cf_Ir_st0 I hc hk1 hk
  obtain ⟨Jr, h0, hrow⟩ := cf_lp_row f _ _ J hr
  have row : ∀ a b, ¬ a = 4 → ¬ a = 8 → a < 20 → r.1 a b = S a b := by
    intro a b q1 q2 q3
    rw [hrow a b q1 q2 q3]
    unfold cf_st0 cf_fte
    rw [if_neg (fun w => q2 w.1), cf_cut_r (fun w => q1 w.1)]
  refine ⟨Jr.1, Jr.2.1, Jr.2.2.1, Jr.2.2.2.1, cf_J_done Jr h0 h1, hk, fun o ho q => ?_, fun o ho q => ?_⟩
  all_goals rw [row 0 2 (by omega) (by omega) (by omega)] at ho
  · rw [row 3 o (by omega) (by omega) (by omega)] at q
    have g := I.2.2.2.2.2.2.1 o ho q
    have hoc : ¬ o = c := fun z => by subst z; exact hk3 q
    have e3 : cf_st0 S c k 3 o = S 3 o := by unfold cf_st0 cf_fte; rw [if_neg (by omega), cf_cut_r (by omega)]
    have e8 : cf_st0 S c k 8 o = S 8 o := by unfold cf_st0 cf_fte; rw [if_neg (by omega), cf_cut_r (by omega)]
    rw [row 5 o (by omega) (by omega) (by omega), cf_lp_8 f _ _ J hr (by rw [e3]; exact q), e8]; exact g
  · rw [row 6 o (by omega) (by omega) (by omega)] at q
    rw [row 5 o (by omega) (by omega) (by omega)]; exact I.2.2.2.2.2.2.2 o ho q
