/-! dawn: the state behind it. -/
theorem cf_sd_at {S : cf_S} (V : cf_V S) (G : cf_G S) {c : Nat} (hc : c < S 0 2) (u : Nat) : cf_has (cf_sd S u c) (cf_ds S c u % 64) = true := by
  have hwh := cf_V_wh V
  have hv := (cf_ds_v V G hc u).1
  unfold cf_sd
  rw [cf_dec_st V G hc]
  cases e : cf_two (S 3 c) with
  | false => exact cf_std1.mpr rfl
  | true =>
    rw [e] at hv
    cases e2 : cf_step (S 0 0) (S 0 1) (cf_ds S c u % 64) (cf_opp (cf_ds S c u / 64 % 4)) with
    | none => exact absurd e2 (hv.2 rfl)
    | some b => exact (cf_std2 hwh hv.1 e2).mpr (Or.inl rfl)
/-- a cart that carries a SHELF is on no other's square -/
theorem cf_car_no {S : cf_S} {ls : Nat} (I : cf_Ir ls S) {c s s' u : Nat} (hc : c < S 0 2) (hu : u < 402) (hl : cf_ds S c u / 256 = s + 1) (hs' : s' < S 0 3) (hne : ¬ s' = s) : ¬ cf_sp S u s' = cf_ds S c u % 64 := by
  obtain ⟨V, G, _, _, Bd, _, _, _⟩ := I
  intro e
  have hwh := cf_V_wh V
  have hv := (cf_ds_v V G hc u).1
  have b := ((cf_bad_iff V hc).mp (Bd c hc u hu)).1
  rw [cf_dj] at b
  apply b (cf_ds S c u % 64) (cf_sd_hd (cf_sd_at V G hc u))
  rw [cf_dec_st V G hc, hl]
  unfold cf_blk
  rw [if_neg (by omega), cf_hor, Bool.or_eq_true]
  refine Or.inr ?_
  unfold cf_sq
  rw [cf_has_un]
  refine cf_any_true hs' ?_
  have := hv.1
  rw [if_neg (by omega), cf_hbt, e, decide_eq_true (by omega), decide_eq_true rfl]; rfl
/-- who has lifted a SHELF has carried it to where he is -/
theorem cf_car_ex {S : cf_S} {ls : Nat} (I : cf_Ir ls S) {c s : Nat} (hc : c < S 0 2) (ho : cf_own S c = s + 1) (hl : cf_lifted S c 402) : ∃ u, u < 402 ∧ cf_ds S c u / 256 = s + 1 ∧ cf_ds S c u % 64 = cf_ds S c 402 % 64 := by
  obtain ⟨V, G, _, _, Bd, _, _, _⟩ := I
  have v4 := (V.2.2.2.2.2.2.1 c hc).2.2.2.1
  have e2 : cf_ds S c 402 = cf_ds S c 401 := by rw [cf_ds_E2 (t := 401) (by omega) (by omega)]
  by_cases z : cf_ds S c 402 / 256 = 0
  · obtain ⟨⟨d1, d2⟩, _⟩ := cf_lifted_dn V G hc 402 hl z
    have e3 : cf_ds S c 402 = cf_ds S c (S 4 c) := cf_ds_E2 (Nat.le_refl _) (by omega)
    refine ⟨S 4 c - 1, by omega, ?_, ?_⟩
    all_goals have ld := cf_ds_ld V G hc (S 4 c - 1)
    all_goals rw [show S 4 c - 1 + 1 = S 4 c by omega] at ld
    all_goals rcases ld with ⟨_, w, _⟩ | ⟨_, _, _, w1, _, w2⟩ | ⟨w1, w2, _⟩
    · omega
    · rcases (cf_ds_v V G hc (S 4 c - 1)).2 with w | w
      · omega
      · rw [w, ho]
    · rw [cf_mt_in (by omega)] at w1 w2; omega
    · omega
    · rw [e3, w2]; omega
    · rw [cf_mt_in (by omega)] at w1 w2; omega
  · refine ⟨401, by omega, ?_, by rw [e2]⟩
    rcases (cf_ds_v V G hc 401).2 with w | w
    · rw [e2] at z; exact absurd w z
    · rw [w, ho]
theorem cf_sp_dist {S : cf_S} {ls : Nat} (I : cf_Ir ls S) {s s' : Nat} (hs : s < S 0 3) (hs' : s' < S 0 3) (hne : ¬ s = s') : ¬ cf_sp S 402 s = cf_sp S 402 s' := by
  obtain ⟨V, G, _, _, Bd, _, _, _⟩ := id I
  -- one lifted, the other not
  have mix : ∀ s s', s < S 0 3 → s' < S 0 3 → ¬ s = s' → (∃ c, c < S 0 2 ∧ cf_own S c = s + 1 ∧ cf_lifted S c 402) → ¬ (∃ c, c < S 0 2 ∧ cf_own S c = s' + 1 ∧ cf_lifted S c 402) → ¬ cf_sp S 402 s = cf_sp S 402 s' := by
    rintro s s' hs hs' hne ⟨c, hc, ho, hl⟩ hn e
    obtain ⟨u, hu, h1, h2⟩ := cf_car_ex I hc ho hl
    have e1 : cf_sp S 402 s = cf_ds S c 402 % 64 := (cf_sp_ex V G hc ho 402).1 hl
    have e3 : cf_sp S u s' = S 12 s' ∧ cf_sp S 402 s' = S 12 s' := by
      by_cases z : ∃ c', c' < S 0 2 ∧ cf_own S c' = s' + 1
      · obtain ⟨c', hc', ho'⟩ := z
        have nl : ¬ cf_lifted S c' 402 := fun w => hn ⟨c', hc', ho', w⟩
        exact ⟨(cf_sp_ex V G hc' ho' u).2 (fun ⟨t, q1, q2⟩ => nl ⟨t, by omega, q2⟩), (cf_sp_ex V G hc' ho' 402).2 nl⟩
      · exact ⟨cf_sp_no V G hs' (fun c' hc' w => z ⟨c', hc', w⟩) u, cf_sp_no V G hs' (fun c' hc' w => z ⟨c', hc', w⟩) 402⟩
    exact cf_car_no I hc hu h1 hs' (fun w => hne w.symm) (by rw [e3.1, ← e3.2, ← e, e1, h2])
  by_cases z1 : ∃ c, c < S 0 2 ∧ cf_own S c = s + 1 ∧ cf_lifted S c 402
  · by_cases z2 : ∃ c, c < S 0 2 ∧ cf_own S c = s' + 1 ∧ cf_lifted S c 402
    · obtain ⟨c, hc, ho, hl⟩ := z1
      obtain ⟨c', hc', ho', hl'⟩ := z2
      intro e
      rw [(cf_sp_ex V G hc ho 402).1 hl, (cf_sp_ex V G hc' ho' 402).1 hl'] at e
      have hcc : ¬ c' = c := fun w => by subst w; omega
      have v4 := (V.2.2.2.2.2.2.1 c hc).2.2.2.1
      have v4' := (V.2.2.2.2.2.2.1 c' hc').2.2.2.1
      have q1 : cf_ds S c 402 = cf_ds S c 401 := by rw [cf_ds_E2 (t := 401) (by omega) (by omega)]
      have q2 : cf_ds S c' 402 = cf_ds S c' 401 := by rw [cf_ds_E2 (t := 401) (by omega) (by omega)]
      rw [q1, q2] at e
      have b := ((cf_bad_iff V hc).mp (Bd c hc 401 (by omega))).1
      rw [cf_dj] at b
      have hp := cf_sd_at V G hc 401
      have hpl := cf_hd_in V hc _ (cf_sd_hd hp)
      apply b _ (cf_sd_hd hp)
      have hwh := cf_V_wh V
      rw [cf_blk_gT (by omega), cf_gT_hd hc' hcc (by rw [e]; exact cf_sd_hd (cf_sd_at V G hc' 401)), Bool.or_true]
    · exact mix s s' hs hs' hne z1 z2
  · by_cases z2 : ∃ c, c < S 0 2 ∧ cf_own S c = s' + 1 ∧ cf_lifted S c 402
    · exact fun e => mix s' s hs' hs (fun w => hne w.symm) z2 z1 e.symm
    · have fs : ∀ s, s < S 0 3 → ¬ (∃ c, c < S 0 2 ∧ cf_own S c = s + 1 ∧ cf_lifted S c 402) → cf_sp S 402 s = S 12 s := by
        intro s hs hn
        by_cases z : ∃ c', c' < S 0 2 ∧ cf_own S c' = s + 1
        · obtain ⟨c', hc', ho'⟩ := z
          exact (cf_sp_ex V G hc' ho' 402).2 (fun w => hn ⟨c', hc', ho', w⟩)
        · exact cf_sp_no V G hs (fun c' hc' w => z ⟨c', hc', w⟩) 402
      rw [fs s hs z1, fs s' hs' z2]
      exact fun e => hne (G.1 s s' hs hs' e)
/-- the next day -/
def cf_dw (S : cf_S) : cf_S := fun a b => if a = 9 then cf_st S 402 b else if a = 12 then cf_sp S 402 b else if 4 ≤ a ∧ a ≤ 8 then 0 else S a b
theorem cf_dw_9 {S : cf_S} {b : Nat} : cf_dw S 9 b = cf_st S 402 b := if_pos rfl
theorem cf_dw_12 {S : cf_S} {b : Nat} : cf_dw S 12 b = cf_sp S 402 b := by unfold cf_dw; rw [if_neg (by omega), if_pos rfl]
theorem cf_dw_0 {S : cf_S} {a b : Nat} (h : 4 ≤ a) (h2 : a ≤ 8) : cf_dw S a b = 0 := by unfold cf_dw; rw [if_neg (by omega), if_neg (by omega), if_pos ⟨h, h2⟩]
theorem cf_dw_r {S : cf_S} {a b : Nat} (h : ¬ a = 9) (h2 : ¬ a = 12) (h3 : ¬ (4 ≤ a ∧ a ≤ 8)) : cf_dw S a b = S a b := by unfold cf_dw; rw [if_neg h, if_neg h2, if_neg h3]
theorem cf_V_dw {S : cf_S} (V : cf_V S) : cf_V (cf_dw S) := by
  unfold cf_V
  rw [cf_dw_r (a := 0) (b := 0) (by omega) (by omega) (by omega), cf_dw_r (a := 0) (b := 1) (by omega) (by omega) (by omega), cf_dw_r (a := 0) (b := 2) (by omega) (by omega) (by omega), cf_dw_r (a := 0) (b := 3) (by omega) (by omega) (by omega)]
  refine ⟨V.1, V.2.1, V.2.2.1, V.2.2.2.1, fun p => ?_, fun y => ?_, fun c hc => ?_, fun s hs => ?_⟩
  · rw [cf_dw_r (by omega) (by omega) (by omega)]; exact V.2.2.2.2.1 p
  · rw [cf_dw_r (by omega) (by omega) (by omega)]; exact V.2.2.2.2.2.1 y
  · rw [cf_dw_r (a := 3) (by omega) (by omega) (by omega), cf_dw_9, cf_dw_0 (by omega) (by omega), cf_dw_0 (by omega) (by omega), cf_dw_0 (by omega) (by omega), cf_dw_0 (by omega) (by omega), cf_dw_0 (by omega) (by omega)]
    have w := (cf_wv V 402).1 c hc
    exact ⟨(V.2.2.2.2.2.2.1 c hc).1, w.1, w.2, by omega, by omega, by omega, by omega, by omega, fun t ht => by omega⟩
  · rw [cf_dw_12]; exact (cf_wv V 402).2 s hs
theorem cf_H0_dw {S : cf_S} {ls : Nat} (I : cf_Ir ls S) : cf_H0 (cf_dw S) := by
  obtain ⟨V, G, _⟩ := I
  intro c s hc hs e
  rw [cf_dw_r (by omega) (by omega) (by omega)] at hc hs
  rw [cf_dw_9, cf_dec_st V G hc] at e
  rw [cf_dw_12, cf_dw_9, cf_dec_st V G hc]
  have := (cf_dec0 V G 402).2.1 c hc (by omega)
  rw [e] at this
  exact this
theorem cf_Ir_dw {S : cf_S} {ls : Nat} (I : cf_Ir ls S) : cf_Ir 0 (cf_dw S) := by
  obtain ⟨V, G, E1, E2, Bd, hls, E3, E4⟩ := id I
  have r : ∀ a b, ¬ a = 9 → ¬ a = 12 → ¬ (4 ≤ a ∧ a ≤ 8) → cf_dw S a b = S a b := fun a b h h2 h3 => cf_dw_r h h2 h3
  have ow : ∀ c, c < S 0 2 → cf_own (cf_dw S) c = cf_ds S c 402 / 256 := fun c hc => by
    unfold cf_own
    rw [cf_dw_9, cf_dw_0 (by omega) (by omega), cf_dec_st V G hc]
    split <;> omega
  have v4 : ∀ c, c < S 0 2 → S 4 c ≤ 400 := fun c hc => (V.2.2.2.2.2.2.1 c hc).2.2.2.1
  have est : ∀ c, c < S 0 2 → cf_st S 401 c = cf_st S 402 c := fun c hc => cf_st_401 V hc 402
  have esd : ∀ c, c < S 0 2 → cf_sd (cf_dw S) 0 c = cf_sd S 401 c := fun c hc => by
    show cf_std _ _ _ (cf_dw S 9 c) = cf_std _ _ _ (cf_st S 401 c)
    rw [cf_dw_9, r 0 0 (by omega) (by omega) (by omega), r 0 1 (by omega) (by omega) (by omega), r 3 c (by omega) (by omega) (by omega), est c hc]
  have ehd : ∀ c, c < S 0 2 → cf_hd S 401 c = cf_sd S 401 c := fun c hc => by
    have := v4 c hc
    unfold cf_hd
    rw [cf_td_0 (by omega), cf_td_0 (by omega), cf_or0]
    split <;> rw [cf_or0]
  have eb : cf_bar (cf_dw S) = cf_bar S := cf_bar_eq (r 0 0 (by omega) (by omega) (by omega)) (r 0 1 (by omega) (by omega) (by omega)) (funext fun b => r 1 b (by omega) (by omega) (by omega)) (funext fun b => r 2 b (by omega) (by omega) (by omega))
  have esq : ∀ x, cf_sq (cf_dw S) 0 x = cf_sqg (S 0 3) (cf_sp S) 401 x := fun x => by
    unfold cf_sq cf_sqg
    rw [r 0 3 (by omega) (by omega) (by omega)]
    refine cf_un_eq2 (fun s hs => ?_)
    show (if s + 1 = x then 0 else cf_bt (cf_dw S 12 s)) = if s + 1 = x then 0 else cf_bt (cf_sp S 401 s)
    rw [cf_dw_12, ← cf_sp_401 V s 402]; rfl
  refine cf_Ir_stat (cf_V_dw V) (fun s s' hs hs' e => ?_) (cf_H0_dw I) (fun c hc => ?_) (fun c c' hc hc' hne => ?_) (fun c hc => cf_dw_0 (by omega) (by omega)) (fun c hc => ?_) (by omega) (fun c hc _ => ⟨cf_dw_0 (by omega) (by omega), cf_dw_0 (by omega) (by omega)⟩) (fun c hc z => absurd (cf_dw_0 (by omega) (by omega)) z)
  · rw [r _ _ (by omega) (by omega) (by omega)] at hs hs'
    rw [cf_dw_12, cf_dw_12] at e
    exact Classical.byContradiction fun z => cf_sp_dist I hs hs' z e
  all_goals rw [r 0 2 (by omega) (by omega) (by omega)] at hc
  · refine ⟨fun z => ?_, fun _ z => absurd (cf_dw_0 (by omega) (by omega)) z⟩
    rw [ow c hc] at z
    rw [r 3 c (by omega) (by omega) (by omega)]
    rcases (cf_ds_v V G hc 402).2 with w | w
    · exact absurd w z
    · exact (G.2.2.1 c hc).1 (by rw [← w]; exact z)
  · rw [r 0 2 (by omega) (by omega) (by omega)] at hc'
    rw [ow c hc, ow c' hc']
    intro z w
    rcases (cf_ds_v V G hc 402).2 with w1 | w1
    · exact z w1
    · rcases (cf_ds_v V G hc' 402).2 with w2 | w2
      · exact z (by rw [w, w2])
      · rw [w1] at z w
        rw [w2] at w
        exact G.2.2.2.1 c c' hc hc' hne z w
  · have bd := Bd c hc 401 (by omega)
    unfold cf_bad cf_fit at bd
    rw [Bool.or_eq_false_iff, ehd c hc] at bd
    unfold cf_ok0
    rw [esd c hc, eb, r 3 c (by omega) (by omega) (by omega), cf_dw_9, esq, r 0 2 (by omega) (by omega) (by omega)]
    obtain ⟨b1, b2⟩ := bd
    have b1' : (decide ((cf_sd S 401 c &&& cf_bar S) = 0) && (decide (S 3 c = 1 ∧ cf_st S 401 c / 256 = 0) || decide ((cf_sd S 401 c &&& cf_sqg (S 0 3) (cf_sp S) 401 (cf_st S 401 c / 256)) = 0))) = true := by
      revert b1
      generalize (decide ((cf_sd S 401 c &&& cf_bar S) = 0) && (decide (S 3 c = 1 ∧ cf_st S 401 c / 256 = 0) || decide ((cf_sd S 401 c &&& cf_sqg (S 0 3) (cf_sp S) 401 (cf_st S 401 c / 256)) = 0))) = b
      cases b <;> decide
    rw [Bool.and_eq_true, Bool.or_eq_true, decide_eq_true_iff, decide_eq_true_iff, decide_eq_true_iff, est c hc] at b1'
    refine ⟨b1'.1, b1'.2, fun o ho hne => ?_⟩
    rw [esd o ho]
    apply Classical.byContradiction
    intro z
    unfold cf_mta at b2
    rw [cf_not_true] at b2
    apply b2
    refine cf_any_true ho ?_
    unfold cf_mtg
    rw [ehd c hc, ehd o ho, decide_eq_false hne, decide_eq_true z]; rfl
