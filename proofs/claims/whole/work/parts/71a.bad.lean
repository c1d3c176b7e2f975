/-! A plan is free of trouble at every tick. -/
def cf_bad (S : cf_S) (c u : Nat) : Bool := !cf_fit S (cf_st S) (cf_sp S) (cf_hd S) c u || cf_mta (S 0 2) (cf_sd S) (cf_hd S) c u
theorem cf_hd_1 {S : cf_S} {u c : Nat} (h : cf_two (S 3 c) = false) : cf_hd S u c = cf_sd S u c := by
  unfold cf_hd
  rw [cf_td_1 h, cf_td_1 h, cf_or0]
  split <;> rw [cf_or0]
/-- no change of places, by two carts at a tick -/
def cf_nsw (S : cf_S) (c u : Nat) : Prop := u = 0 ∨ ∀ o, o < S 0 2 → ¬ o = c → cf_swap (cf_sd S (u - 1) c) (cf_sd S u c) (cf_sd S (u - 1) o) (cf_sd S u o) = false
theorem cf_bad_iff {S : cf_S} (V : cf_V S) {c u : Nat} (hc : c < S 0 2) : cf_bad S c u = false ↔ (cf_hd S u c &&& cf_blk S c (cf_st S u c / 256) u) = 0 ∧ cf_nsw S c u := by
  have key : cf_nsw S c u → ((cf_hd S u c &&& cf_blk S c (cf_st S u c / 256) u) = 0 ↔ cf_fit S (cf_st S) (cf_sp S) (cf_hd S) c u = true ∧ cf_mta (S 0 2) (cf_sd S) (cf_hd S) c u = false) := by
    intro ns
    rw [← cf_start V hc ns, cf_dj_or]
    have e1 : cf_std (S 0 0) (S 0 1) (cf_two (S 3 c)) (cf_st S u c) = cf_sd S u c := rfl
    rw [e1]
    cases h2 : cf_two (S 3 c) with
    | false =>
      rw [cf_hd_1 h2, cond_false]
      exact ⟨fun h => ⟨h, by rw [cf_dj]; intro q hq; rw [cf_h0] at hq; cases hq⟩, fun h => h.1⟩
    | true =>
      rw [cond_true]
      refine ⟨fun h => ⟨?_, h⟩, fun h => h.2⟩
      rw [cf_dj] at h ⊢
      exact fun q hq => h q (cf_sd_hd hq)
  unfold cf_bad
  rw [Bool.or_eq_false_iff, Bool.not_eq_false']
  constructor
  · rintro ⟨h1, h2⟩
    have ns := cf_mta_ns h2
    exact ⟨(key ns).mpr ⟨h1, h2⟩, ns⟩
  · rintro ⟨h1, ns⟩
    exact (key ns).mp h1
/-- a cart that stays doesn't change places -/
theorem cf_nsw_stay {S : cf_S} {c u : Nat} (h : cf_sd S (u - 1) c = cf_sd S u c) (hd : ∀ o, o < S 0 2 → ¬ o = c → (cf_sd S u c &&& cf_sd S u o) = 0) : cf_nsw S c u := by
  right
  intro o ho hne
  rw [cf_not_true]
  intro q
  obtain ⟨⟨x, x1, x2⟩, _⟩ := cf_swap_t q
  rw [h] at x1
  exact cf_dj.mp (hd o ho hne) x x1 x2
theorem cf_blk_dj {S : cf_S} (V : cf_V S) {c l u : Nat} {x : Int64} (hx : cf_in (S 0 0) (S 0 1) x) : (x &&& cf_blk S c l u) = 0 ↔ (x &&& cf_gT S (cf_sp S) (cf_hd S) c l u) = 0 := by
  have hwh := cf_V_wh V
  rw [cf_dj, cf_dj]
  constructor
  · intro h p hp q
    have := hx p hp
    apply h p hp
    rw [cf_blk_gT (by omega), q, Bool.or_true]
  · intro h p hp q
    have hl := hx p hp
    rw [cf_blk_gT (by omega), decide_eq_false (fun z => z hl), Bool.false_or] at q
    exact h p hp q
/-- one square, the same STANCES: the same trouble -/
theorem cf_bad_bc {S S' : cf_S} {c u : Nat} (V : cf_V S) (G : cf_G S) (V' : cf_V S') (G' : cf_G S') (B : cf_bc S S' c) (hc : c < S 0 2) (h2 : cf_two (S 3 c) = false) (e1 : cf_ds S' c u = cf_ds S c u) (e0 : cf_ds S' c (u - 1) = cf_ds S c (u - 1)) : cf_bad S' c u = cf_bad S c u := by
  have hc' : c < S' 0 2 := by rw [cf_bc_n B]; exact hc
  have k3 : S' 3 c = S 3 c := B 3 c (by omega) (by omega) (by omega) (by omega)
  have sd : ∀ t, cf_ds S' c t = cf_ds S c t → cf_sd S' t c = cf_sd S t c := by
    intro t e
    unfold cf_sd
    rw [cf_dec_st V' G' hc', cf_dec_st V G hc, e, k3, B 0 0 (by omega) (by omega) (by omega) (by omega), B 0 1 (by omega) (by omega) (by omega) (by omega)]
  have hown := (cf_ds_v V G hc u).2
  have ens : cf_nsw S' c u ↔ cf_nsw S c u := by
    unfold cf_nsw
    rw [sd u e1, sd (u - 1) e0, cf_bc_n B]
    refine or_congr Iff.rfl ⟨fun h o ho hne => ?_, fun h o ho hne => ?_⟩
    · rw [← cf_bc_sd V G V' G' B ho hne, ← cf_bc_sd V G V' G' B ho hne]; exact h o ho hne
    · rw [cf_bc_sd V G V' G' B ho hne, cf_bc_sd V G V' G' B ho hne]; exact h o ho hne
  have eb : ∀ b b' : Bool, (b = false ↔ b' = false) → b = b' := by decide
  apply eb
  rw [cf_bad_iff V' hc', cf_bad_iff V hc, ens, cf_hd_1 h2, cf_hd_1 (by rw [k3]; exact h2), sd u e1, cf_dec_st V' G' hc', cf_dec_st V G hc, e1, cf_bc_blk V G V' G' B hc hown]
set_option maxRecDepth 100000 in
/-- along a leg -/
theorem cf_bad_go {S S1 : cf_S} (V : cf_V S) (G : cf_G S) {c tg wt : Nat} {last : Bool} (hc : c < S 0 2) (nd : ¬ cf_dn S c) (h : cf_go1 S c tg wt last = some S1) : (∀ u, S 4 c ≤ u → u ≤ S1 4 c → cf_bad S1 c u = false) ∧ (last = true → ∀ u, S 4 c ≤ u → u < 402 → cf_bad S1 c u = false) := by
  have hfm : cf_fit S (cf_st S) (cf_sp S) (cf_hd S) c (S 4 c) = true ∧ cf_mta (S 0 2) (cf_sd S) (cf_hd S) c (S 4 c) = false := by
    unfold cf_go1 at h
    split at h
    · rename_i q; exact ⟨q.1, q.2.1⟩
    · cases h
  obtain ⟨n, sg, hn, hS1, hb, V1, G1, nd1, hsg, hds, hmy, htg, hgood⟩ := cf_go1_some V G hc nd h
  have B : cf_bc S S1 c := by rw [hS1]; exact cf_app_bc
  have hc1 : c < S1 0 2 := by rw [cf_bc_n B]; exact hc
  have e4 : S1 4 c = S 4 c + n := by rw [hS1, cf_app_4]
  have e0 : S1 0 0 = S 0 0 := B 0 0 (by omega) (by omega) (by omega) (by omega)
  have e1 : S1 0 1 = S 0 1 := B 0 1 (by omega) (by omega) (by omega) (by omega)
  have e3 : S1 3 c = S 3 c := B 3 c (by omega) (by omega) (by omega) (by omega)
  have hwh := cf_V_wh V
  have hl : cf_st S (S 4 c) c / 256 = cf_ds S c (S 4 c) / 256 := by rw [cf_dec_st V G hc]
  have hown : cf_ds S c (S 4 c) / 256 = 0 ∨ cf_ds S c (S 4 c) / 256 = cf_own S c := (cf_ds_v V G hc (S 4 c)).2
  rw [hl] at hds hmy hgood
  have hst1 : ∀ i, i ≤ n → cf_st S1 (S 4 c + i) c = cf_ds S c (S 4 c) / 256 * 256 + sg i := fun i hi => by rw [cf_dec_st V1 G1 hc1]; exact (hds i hi).1
  have hmod : ∀ i, i ≤ n → cf_st S1 (S 4 c + i) c % 256 = sg i ∧ cf_st S1 (S 4 c + i) c / 256 = cf_ds S c (S 4 c) / 256 := fun i hi => by have := hst1 i hi; have := (hds i hi).2.1; omega
  have hsd : ∀ i, i ≤ n → cf_sd S1 (S 4 c + i) c = cf_std (S 0 0) (S 0 1) (cf_two (S 3 c)) (sg i) := by
    intro i hi
    unfold cf_sd
    rw [e0, e1, e3, ← cf_std_m, (hmod i hi).1]
  have htd : ∀ i, i < n → cf_td S1 (S 4 c + i) c = cf_tq (S 0 0) (S 0 1) (S 3 c) (sg i) (cf_gm S (cf_st S) (cf_sp S) (cf_sd S) (cf_hd S) c (S 4 c) (cf_st S (S 4 c) c) tg wt last n i) := by
    intro i hi
    unfold cf_td
    have em : cf_mt S1 c (S 4 c + i) = cf_gm S (cf_st S) (cf_sp S) (cf_sd S) (cf_hd S) c (S 4 c) (cf_st S (S 4 c) c) tg wt last n i := by
      rw [hS1, cf_app_mt2 hi]
    rw [em, e0, e1, e3]
    unfold cf_tq
    rw [← cf_four_m, (hmod i (by omega)).1]
  have htd0 : ∀ u, S 4 c + n ≤ u → cf_td S1 u c = 0 := fun u hu => cf_td_0 (by rw [e4]; exact hu)
  have hT : cf_gT S1 (cf_sp S1) (cf_hd S1) c (cf_ds S c (S 4 c) / 256) = cf_gT S (cf_sp S) (cf_hd S) c (cf_ds S c (S 4 c) / 256) := cf_bc_gT V G V1 G1 B hc hown
  have may : ∀ i, i < n → _ := fun i hi => cf_may_iff.mp (hmy i hi).1
  -- what is held at the start is free
  have hns0 := cf_mta_ns hfm.2
  have h0free : (cf_hd S (S 4 c) c &&& cf_gT S (cf_sp S) (cf_hd S) c (cf_ds S c (S 4 c) / 256) (S 4 c)) = 0 := by
    have : cf_bad S c (S 4 c) = false := by unfold cf_bad; rw [hfm.1, hfm.2]; rfl
    have := ((cf_bad_iff V hc).mp this).1
    rw [hl] at this
    exact (cf_blk_dj V (cf_hd_in V hc)).mp this
  have hpre : ∀ u, u ≤ S 4 c → cf_st S1 u c = cf_st S u c := by
    intro u hu
    rw [cf_dec_st V1 G1 hc1, cf_dec_st V G hc, hS1, cf_app_ds u hu]
  -- each tick of the leg
  have leg : ∀ i, i ≤ n → (cf_hd S1 (S 4 c + i) c &&& cf_gT S (cf_sp S) (cf_hd S) c (cf_ds S c (S 4 c) / 256) (S 4 c + i)) = 0 := by
    intro i hi
    unfold cf_hd
    rw [cf_dj_or, cf_dj_or, hsd i hi]
    refine ⟨⟨(hds i hi).2.2, ?_⟩, ?_⟩
    · by_cases q : i < n
      · rw [htd i q]; exact (cf_dj_or.mp (may i q).2.1).2
      · rw [htd0 _ (by omega), cf_dj]; intro p hp; rw [cf_h0] at hp; cases hp
    · by_cases q0 : S 4 c + i = 0
      · rw [if_pos q0, cf_dj]; intro p hp; rw [cf_h0] at hp; cases hp
      · rw [if_neg q0]
        cases i with
        | zero =>
          have etd : cf_td S1 (S 4 c + 0 - 1) c = cf_td S (S 4 c - 1) c := by
            unfold cf_td
            rw [Nat.add_zero, hpre _ (by omega), e0, e1, e3]
            have : cf_mt S1 c (S 4 c - 1) = cf_mt S c (S 4 c - 1) := by rw [hS1, cf_app_mt1 (by omega)]
            rw [this]
          rw [etd, Nat.add_zero]
          rw [cf_dj] at h0free ⊢
          intro p hp
          refine h0free p ?_
          unfold cf_hd
          rw [if_neg (by omega), cf_hor, hp, Bool.or_true]
        | succ i =>
          rw [show S 4 c + (i + 1) - 1 = S 4 c + i by omega, htd i (by omega)]
          have := (cf_dj_or.mp (may i (by omega)).2.2.1).2
          rw [show S 4 c + i + 1 = S 4 c + (i + 1) by omega] at this
          exact this
  have legns : ∀ i, i ≤ n → cf_nsw S1 c (S 4 c + i) := by
    intro i hi
    cases i with
    | zero =>
      rw [Nat.add_zero]
      rcases hns0 with q | q
      · exact Or.inl q
      · right
        intro o ho hne
        rw [cf_bc_n B] at ho
        have hs : ∀ u, u ≤ S 4 c → cf_sd S1 u c = cf_sd S u c := by
          intro u hu
          unfold cf_sd
          rw [hpre u hu, e0, e1, e3]
        rw [hs _ (Nat.le_refl _), hs _ (by omega), cf_bc_sd V G V1 G1 B ho hne, cf_bc_sd V G V1 G1 B ho hne]
        exact q o ho hne
    | succ i =>
      right
      intro o ho hne
      rw [cf_bc_n B] at ho
      rw [show S 4 c + (i + 1) - 1 = S 4 c + i by omega, hsd (i + 1) hi, hsd i (by omega), cf_bc_sd V G V1 G1 B ho hne, cf_bc_sd V G V1 G1 B ho hne]
      exact (may i (by omega)).2.2.2 o ho hne
  have fin : ∀ i, i ≤ n → cf_bad S1 c (S 4 c + i) = false := by
    intro i hi
    rw [cf_bad_iff V1 hc1, (hmod i hi).2, cf_blk_dj V1 (cf_hd_in V1 hc1), hT]
    exact ⟨leg i hi, legns i hi⟩
  refine ⟨fun u h1 h2 => ?_, fun hlast u h1 h2 => ?_⟩
  · rw [e4] at h2
    obtain ⟨i, rfl⟩ : ∃ i, u = S 4 c + i := ⟨u - S 4 c, by omega⟩
    exact fin i (by omega)
  · rcases Nat.lt_or_ge (S 4 c + n) u with q | q
    · have hg := hgood hlast
      have hsdu : ∀ t, S 4 c + n ≤ t → cf_st S1 t c = cf_st S1 (S 4 c + n) c := by
        intro t ht
        rw [cf_dec_st V1 G1 hc1, cf_dec_st V1 G1 hc1, cf_ds_E2 (by rw [e4]; exact Nat.le_refl _) ht]
      have hsd1 : ∀ t, S 4 c + n ≤ t → cf_sd S1 t c = cf_std (S 0 0) (S 0 1) (cf_two (S 3 c)) (sg n) := by
        intro t ht
        rw [← hsd n (Nat.le_refl _)]
        unfold cf_sd
        rw [hsdu t ht]
      have hhd : cf_hd S1 u c = cf_std (S 0 0) (S 0 1) (cf_two (S 3 c)) (sg n) := by
        unfold cf_hd
        rw [htd0 u (by omega), htd0 (u - 1) (by omega), if_neg (by omega), cf_or0, cf_or0, hsd1 u (by omega)]
      have hLfree := hg
      have dj : (cf_std (S 0 0) (S 0 1) (cf_two (S 3 c)) (sg n) &&& cf_gT S (cf_sp S) (cf_hd S) c (cf_ds S c (S 4 c) / 256) u) = 0 := by
        have hf := (hds n (Nat.le_refl _)).2.2
        rw [cf_dj] at hf hLfree ⊢
        intro p hp z
        unfold cf_gT at z
        rw [cf_hor, cf_hor, Bool.or_eq_true, Bool.or_eq_true] at z
        rcases z with (z | z) | z
        · apply hf p hp
          unfold cf_gT
          rw [cf_hor, cf_hor, z]; rfl
        · exact hLfree p hp ((cf_gL_has (by omega)).mpr ⟨u, by omega, h2, Or.inl z⟩)
        · exact hLfree p hp ((cf_gL_has (by omega)).mpr ⟨u, by omega, h2, Or.inr z⟩)
      rw [cf_bad_iff V1 hc1, hsdu u (by omega), (hmod n (Nat.le_refl _)).2, cf_blk_dj V1 (cf_hd_in V1 hc1), hT, hhd]
      refine ⟨dj, cf_nsw_stay (by rw [hsd1 u (by omega), hsd1 (u - 1) (by omega)]) (fun o ho hne => ?_)⟩
      rw [cf_bc_n B] at ho
      rw [hsd1 u (by omega), cf_bc_sd V G V1 G1 B ho hne]
      rw [cf_dj] at dj ⊢
      exact fun p hp z => dj p hp (cf_gT_hd ho hne (cf_sd_hd z))
    · obtain ⟨i, rfl⟩ : ∃ i, u = S 4 c + i := ⟨u - S 4 c, by omega⟩
      exact fin i (by omega)
