/-! What a changed way means for the other carts. -/
theorem cf_swap_sym (a b c d : Int64) : cf_swap a b c d = cf_swap c d a b := by
  have e1 : (c &&& b) = (b &&& c) := by apply cf_ext; intro q _; rw [cf_hand, cf_hand, Bool.and_comm]
  have e2 : (d &&& a) = (a &&& d) := by apply cf_ext; intro q _; rw [cf_hand, cf_hand, Bool.and_comm]
  unfold cf_swap
  rw [e1, e2]
  by_cases h : (a &&& d) = (b &&& c)
  · rw [h]
  · have h' : ¬ (b &&& c) = (a &&& d) := fun q => h q.symm
    simp [h, h', Bool.and_comm]
/-- a SHELF has been lifted by its cart up to a tick -/
def cf_lifted (S : cf_S) (c u : Nat) : Prop := ∃ t, t ≤ u ∧ ¬ cf_ds S c t / 256 = 0
theorem cf_lifted_dn {S : cf_S} (V : cf_V S) (G : cf_G S) {c : Nat} (hc : c < S 0 2) : ∀ u, cf_lifted S c u → cf_ds S c u / 256 = 0 → cf_dn S c ∧ S 4 c ≤ u
  | 0, ⟨t, h1, h2⟩, h => by
    have : t = 0 := by omega
    subst this; exact absurd h h2
  | u + 1, ⟨t, h1, h2⟩, h => by
    by_cases q : cf_ds S c u / 256 = 0
    · have ht : t ≤ u := by
        rcases Nat.lt_or_ge u t with z | z
        · have : t = u + 1 := by omega
          subst this; exact absurd h h2
        · exact z
      obtain ⟨a, b⟩ := cf_lifted_dn V G hc u ⟨t, ht, h2⟩ q
      exact ⟨a, by omega⟩
    · rcases cf_ds_ld V G hc u with ⟨_, _, _, h0, _⟩ | ⟨ht, h6, _, _, _, _⟩ | ⟨_, _, e⟩
      · omega
      · have := (G.2.2.2.2.1 c hc u ht).2.2 h6
        exact ⟨⟨by omega, by rw [← this]; exact h6⟩, by omega⟩
      · omega
/-- where a SHELF that is a cart's own lies -/
theorem cf_sp_ex {S : cf_S} (V : cf_V S) (G : cf_G S) {c s : Nat} (hc : c < S 0 2) (ho : cf_own S c = s + 1) : ∀ u, (cf_lifted S c u → cf_sp S u s = cf_ds S c u % 64) ∧ (¬ cf_lifted S c u → cf_sp S u s = S 12 s)
  | 0 => by
    refine ⟨fun ⟨t, h1, h2⟩ => ?_, fun _ => rfl⟩
    have : t = 0 := by omega
    subst this
    have := (cf_dec0 V G 0).2.1 c hc h2
    have o := (cf_ds_v V G hc 0).2
    rw [show cf_ds S c 0 / 256 - 1 = s by omega] at this
    exact this
  | u + 1 => by
    obtain ⟨i1, i2⟩ := cf_sp_ex V G hc ho u
    have nocar : cf_ds S c (u + 1) / 256 = 0 → cf_sp S (u + 1) s = cf_sp S u s := by
      intro h
      have e1 : cf_sp S (u + 1) s = cf_car (fun o => cf_st S (u + 1) o) s (cf_sp S u s) (S 0 2) := rfl
      rw [e1]
      refine cf_car_n (fun c' hc' e => ?_)
      rw [cf_dec_st V G hc'] at e
      have o := (cf_ds_v V G hc' (u + 1)).2
      by_cases q : c' = c
      · subst q; omega
      · exact G.2.2.2.1 c c' hc hc' (fun z => q z.symm) (by omega) (by omega)
    refine ⟨fun hl => ?_, fun hl => ?_⟩
    · by_cases h : cf_ds S c (u + 1) / 256 = 0
      · rw [nocar h]
        obtain ⟨t, h1, h2⟩ := hl
        have ht : t ≤ u := by
          rcases Nat.lt_or_ge u t with z | z
          · have : t = u + 1 := by omega
            subst this; exact absurd h h2
          · exact z
        rw [i1 ⟨t, ht, h2⟩]
        by_cases q : cf_ds S c u / 256 = 0
        · rw [cf_ds_E (cf_lifted_dn V G hc u ⟨t, ht, h2⟩ q).2]
        · rcases cf_ds_ld V G hc u with ⟨_, _, _, h0, _⟩ | ⟨_, _, _, _, _, e⟩ | ⟨_, _, e⟩
          · omega
          · rw [e]; omega
          · omega
      · have := (cf_dec0 V G (u + 1)).2.1 c hc h
        have o := (cf_ds_v V G hc (u + 1)).2
        rw [show cf_ds S c (u + 1) / 256 - 1 = s by omega] at this
        exact this
    · have h : cf_ds S c (u + 1) / 256 = 0 := by
        apply Classical.byContradiction
        intro q
        exact hl ⟨u + 1, Nat.le_refl _, q⟩
      rw [nocar h]
      exact i2 (fun ⟨t, h1, h2⟩ => hl ⟨t, by omega, h2⟩)
/-- a SHELF that is nobody's own stays -/
theorem cf_sp_no {S : cf_S} (V : cf_V S) (G : cf_G S) {s : Nat} (hs : s < S 0 3) (h : ∀ c, c < S 0 2 → ¬ cf_own S c = s + 1) (u : Nat) : cf_sp S u s = S 12 s := by
  rcases (cf_dec0 V G u).2.2 s hs with q | ⟨c, hc, ho, _⟩
  · exact q
  · exact absurd ho (h c hc)
/-- another cart has no trouble from a way that has none, if what was lifted is lifted still -/
theorem cf_bad_oth {S S' : cf_S} {c y u : Nat} (V : cf_V S) (G : cf_G S) (V' : cf_V S') (G' : cf_G S') (B : cf_bc S S' c) (hc : c < S 0 2) (hy : y < S 0 2) (hne : ¬ y = c) (h1 : cf_bad S y u = false) (h2 : cf_bad S' c u = false) (hl : cf_lifted S c u → cf_lifted S' c u) : cf_bad S' y u = false := by
  have hc' : c < S' 0 2 := by rw [cf_bc_n B]; exact hc
  have hy' : y < S' 0 2 := by rw [cf_bc_n B]; exact hy
  have hwh := cf_V_wh V
  obtain ⟨a1, a2⟩ := (cf_bad_iff V hy).mp h1
  obtain ⟨b1, b2⟩ := (cf_bad_iff V' hc').mp h2
  have e0 : S' 0 0 = S 0 0 := B 0 0 (by omega) (by omega) (by omega) (by omega)
  have e1 : S' 0 1 = S 0 1 := B 0 1 (by omega) (by omega) (by omega) (by omega)
  have ehd : cf_hd S' u y = cf_hd S u y := cf_bc_hd V G V' G' B hy hne u
  have est : cf_st S' u y = cf_st S u y := cf_bc_st V G V' G' B hy hne u
  rw [cf_dj] at a1 b1
  -- the two don't hold a square together
  have cy : ∀ p, cf_has (cf_hd S u y) p = true → ¬ cf_has (cf_hd S' u c) p = true := by
    intro p hp q
    have hpl := cf_hd_in V hy p hp
    apply b1 p q
    rw [cf_blk_gT (by omega), cf_gT_hd hy' hne (by rw [ehd]; exact hp), Bool.or_true]
  rw [cf_bad_iff V' hy', ehd, est]
  refine ⟨?_, ?_⟩
  · rw [cf_dj]
    intro p hp q
    have hpl := cf_hd_in V hy p hp
    apply a1 p hp
    rw [cf_blk_gT (by omega), decide_eq_false (by rw [e0, e1]; exact fun z => z hpl), Bool.false_or] at q
    rw [cf_blk_gT (by omega), decide_eq_false (fun z => z hpl), Bool.false_or]
    unfold cf_gT at q ⊢
    rw [cf_hor, cf_hor, Bool.or_eq_true, Bool.or_eq_true] at q ⊢
    rcases q with (q | q) | q
    · left; left; rw [cf_bc_bar B] at q; exact q
    · left; right
      unfold cf_othg at q ⊢
      rw [cf_has_un, cf_any_iff] at q ⊢
      obtain ⟨o, ho, q⟩ := q
      rw [cf_bc_n B] at ho
      by_cases z : o = y
      · rw [if_pos z, cf_h0] at q; cases q
      · rw [if_neg z] at q
        by_cases z2 : o = c
        · subst z2; exact absurd q (cy p hp)
        · rw [cf_bc_hd V G V' G' B ho z2] at q
          exact ⟨o, ho, by rw [if_neg z]; exact q⟩
    · right
      unfold cf_rowg at q ⊢
      rw [B 3 y (by omega) (by omega) (by omega) (by omega)] at q
      cases hm : (!decide (S 3 y = 1 ∧ cf_st S u y / 256 = 0)) with
      | false => rw [hm, cond_false, cf_h0] at q; cases q
      | true =>
        rw [hm, cond_true] at q
        rw [cond_true]
        unfold cf_sqg at q ⊢
        rw [cf_has_un, cf_any_iff] at q ⊢
        obtain ⟨s, hs, q⟩ := q
        rw [cf_bc_m B] at hs
        refine ⟨s, hs, ?_⟩
        by_cases z : s + 1 = cf_st S u y / 256
        · rw [if_pos z, cf_h0] at q; cases q
        · rw [if_neg z] at q ⊢
          by_cases ho : cf_own S c = s + 1
          · have ex := cf_sp_ex V G hc ho u
            have ex' := cf_sp_ex V' G' hc' (by rw [cf_bc_own B]; exact ho) u
            by_cases hlf : cf_lifted S' c u
            · exfalso
              rw [ex'.1 hlf, cf_hbt, Bool.and_eq_true, decide_eq_true_iff, decide_eq_true_iff] at q
              apply cy p hp
              rw [← q.2, ← cf_dec_st V' G' hc']
              exact cf_sd_hd (cf_sd_sq V' hc')
            · rw [ex'.2 hlf, B 12 s (by omega) (by omega) (by omega) (by omega)] at q
              rw [ex.2 (fun z => hlf (hl z))]; exact q
          · rw [cf_bc_sp V G V' G' B ho] at q; exact q
  · rcases a2 with a2 | a2
    · exact Or.inl a2
    · rcases b2 with b2 | b2
      · exact Or.inl b2
      · right
        intro o ho z
        rw [cf_bc_sd V G V' G' B hy hne, cf_bc_sd V G V' G' B hy hne]
        by_cases z2 : o = c
        · subst z2
          rw [cf_swap_sym]
          have := b2 y hy' hne
          rw [cf_bc_sd V G V' G' B hy hne, cf_bc_sd V G V' G' B hy hne] at this
          exact this
        · rw [cf_bc_n B] at ho
          rw [cf_bc_sd V G V' G' B ho z2, cf_bc_sd V G V' G' B ho z2]
          exact a2 o ho z
/-- the same world at a tick, less held: no more trouble -/
theorem cf_bad_mon {S S' : cf_S} {y u : Nat} (V : cf_V S) (V' : cf_V S') (hr : ∀ a b, a < 4 → S' a b = S a b) (hy : y < S 0 2) (h1 : ∀ o, o < S 0 2 → cf_st S' u o = cf_st S u o ∧ cf_st S' (u - 1) o = cf_st S (u - 1) o) (h2 : ∀ s, s < S 0 3 → cf_sp S' u s = cf_sp S u s) (h3 : ∀ o, o < S 0 2 → ∀ p, cf_has (cf_hd S' u o) p = true → cf_has (cf_hd S u o) p = true) (h : cf_bad S y u = false) : cf_bad S' y u = false := by
  have hwh := cf_V_wh V
  have hn : S' 0 2 = S 0 2 := hr 0 2 (by omega)
  have hy' : y < S' 0 2 := by rw [hn]; exact hy
  have sd : ∀ o, o < S 0 2 → cf_sd S' u o = cf_sd S u o ∧ cf_sd S' (u - 1) o = cf_sd S (u - 1) o := by
    intro o ho
    unfold cf_sd
    rw [(h1 o ho).1, (h1 o ho).2, hr 0 0 (by omega), hr 0 1 (by omega), hr 3 o (by omega)]
    exact ⟨rfl, rfl⟩
  obtain ⟨a1, a2⟩ := (cf_bad_iff V hy).mp h
  rw [cf_bad_iff V' hy']
  refine ⟨?_, ?_⟩
  · rw [cf_dj] at a1 ⊢
    intro p hp q
    have hp2 := h3 y hy p hp
    have hpl := cf_hd_in V hy p hp2
    apply a1 p hp2
    rw [cf_blk_gT (by omega), decide_eq_false (by rw [hr 0 0 (by omega), hr 0 1 (by omega)]; exact fun z => z hpl), Bool.false_or] at q
    rw [cf_blk_gT (by omega), decide_eq_false (fun z => z hpl), Bool.false_or]
    unfold cf_gT at q ⊢
    rw [cf_hor, cf_hor, Bool.or_eq_true, Bool.or_eq_true] at q ⊢
    have ebar : cf_bar S' = cf_bar S := by
      unfold cf_bar
      rw [hr 0 0 (by omega), hr 0 1 (by omega)]
      refine cf_un_eq (fun q _ => ?_)
      unfold cf_isb
      rw [hr 0 0 (by omega), hr 1 q (by omega), hr 2 _ (by omega)]
    rcases q with (q | q) | q
    · left; left; rw [ebar] at q; exact q
    · left; right
      unfold cf_othg at q ⊢
      rw [cf_has_un, cf_any_iff] at q ⊢
      obtain ⟨o, ho, q⟩ := q
      rw [hn] at ho
      refine ⟨o, ho, ?_⟩
      by_cases z : o = y
      · rw [if_pos z, cf_h0] at q; cases q
      · rw [if_neg z] at q ⊢; exact h3 o ho p q
    · right
      unfold cf_rowg at q ⊢
      rw [hr 3 y (by omega), (h1 y hy).1] at q
      cases hm : (!decide (S 3 y = 1 ∧ cf_st S u y / 256 = 0)) with
      | false => rw [hm, cond_false, cf_h0] at q; cases q
      | true =>
        rw [hm, cond_true] at q
        rw [cond_true]
        unfold cf_sqg at q ⊢
        rw [cf_has_un, cf_any_iff] at q ⊢
        obtain ⟨s, hs, q⟩ := q
        rw [hr 0 3 (by omega)] at hs
        refine ⟨s, hs, ?_⟩
        rw [h2 s hs] at q; exact q
  · rcases a2 with a2 | a2
    · exact Or.inl a2
    · right
      intro o ho z
      rw [hn] at ho
      rw [(sd y hy).1, (sd y hy).2, (sd o ho).1, (sd o ho).2]
      exact a2 o ho z
