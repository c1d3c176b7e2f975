/-! A longer way: it is as good as the shorter one. -/
theorem cf_td_in {S : cf_S} (V : cf_V S) {t c : Nat} (hc : c < S 0 2) : cf_in (S 0 0) (S 0 1) (cf_td S t c) := by
  have hwh := cf_V_wh V
  have hs := ((cf_wv V t).1 c hc).1
  intro p hp
  unfold cf_td cf_tq at hp
  cases hb : (cf_two (S 3 c) && (decide (cf_mt S c t = 3) || decide (cf_mt S c t = 4))) with
  | false => rw [hb, cond_false, cf_h0] at hp; cases hp
  | true =>
    rw [hb, cond_true] at hp
    cases et : cf_tn (S 0 0) (S 0 1) (cf_st S t c) (cf_to (cf_st S t c) (cf_mt S c t)) with
    | none => unfold cf_four at hp; rw [et] at hp; dsimp only at hp; rw [cf_h0] at hp; cases hp
    | some z =>
      obtain ⟨b, n, k⟩ := z
      obtain ⟨t1, t2, t3⟩ := cf_tn_some et
      have hbl := cf_step_lt hs.1 t1
      rw [cf_four2 hwh hs.1 et] at hp
      rcases hp with q | q | q | q
      · rw [q]; exact hs.1
      · rw [q]; exact hbl
      · rw [q]; exact cf_step_lt hbl t2
      · rw [q]; exact cf_step_lt hs.1 t3
theorem cf_hd_in {S : cf_S} (V : cf_V S) {t c : Nat} (hc : c < S 0 2) : cf_in (S 0 0) (S 0 1) (cf_hd S t c) := by
  unfold cf_hd
  refine cf_in_or (cf_in_or (cf_std_in (cf_V_wh V) ((cf_wv V t).1 c hc).1) (cf_td_in V hc)) ?_
  split
  · intro p hp; rw [cf_h0] at hp; cases hp
  · exact cf_td_in V hc
/-- the class's test of the start and the reference's -/
theorem cf_start {S : cf_S} (V : cf_V S) {c f : Nat} (hc : c < S 0 2) (ns : f = 0 ∨ ∀ o, o < S 0 2 → ¬ o = c → cf_swap (cf_sd S (f - 1) c) (cf_sd S f c) (cf_sd S (f - 1) o) (cf_sd S f o) = false) :
    ((cf_std (S 0 0) (S 0 1) (cf_two (S 3 c)) (cf_st S f c) ||| (bif cf_two (S 3 c) then cf_hd S f c else 0)) &&& cf_blk S c (cf_st S f c / 256) f) = 0 ↔ cf_fit S (cf_st S) (cf_sp S) (cf_hd S) c f = true ∧ cf_mta (S 0 2) (cf_sd S) (cf_hd S) c f = false := by
  have hwh := cf_V_wh V
  have hin := cf_hd_in V (t := f) hc
  have eset : ∀ p, cf_has (cf_std (S 0 0) (S 0 1) (cf_two (S 3 c)) (cf_st S f c) ||| (bif cf_two (S 3 c) then cf_hd S f c else 0)) p = cf_has (cf_hd S f c) p := by
    intro p
    have e1 : cf_std (S 0 0) (S 0 1) (cf_two (S 3 c)) (cf_st S f c) = cf_sd S f c := rfl
    rw [e1, cf_hor]
    cases h2 : cf_two (S 3 c) with
    | false =>
      rw [cond_false, cf_h0, Bool.or_false]
      unfold cf_hd
      rw [cf_td_1 h2, cf_td_1 h2]
      split <;> rw [cf_or0, cf_or0]
    | true =>
      rw [cond_true]
      cases h : cf_has (cf_sd S f c) p with
      | false => rw [Bool.false_or]
      | true => rw [cf_sd_hd h]; rfl
  have e0 : ((cf_std (S 0 0) (S 0 1) (cf_two (S 3 c)) (cf_st S f c) ||| (bif cf_two (S 3 c) then cf_hd S f c else 0)) &&& cf_blk S c (cf_st S f c / 256) f) = 0 ↔ ∀ p, cf_has (cf_hd S f c) p = true → ¬ cf_has (cf_blk S c (cf_st S f c / 256) f) p = true := by
    rw [cf_dj]
    exact ⟨fun h p hp => h p (by rw [eset]; exact hp), fun h p hp => h p (by rw [← eset]; exact hp)⟩
  rw [e0]
  have blk : ∀ p, cf_has (cf_hd S f c) p = true → (cf_has (cf_blk S c (cf_st S f c / 256) f) p = true ↔ cf_has (cf_bar S) p = true ∨ (∃ o, o < S 0 2 ∧ ¬ o = c ∧ cf_has (cf_hd S f o) p = true) ∨ (¬ (S 3 c = 1 ∧ cf_st S f c / 256 = 0) ∧ cf_has (cf_sqg (S 0 3) (cf_sp S) f (cf_st S f c / 256)) p = true)) := by
    intro p hp
    have hpl := hin p hp
    rw [cf_blk_gT (by omega), decide_eq_false (fun q => q hpl), Bool.false_or]
    unfold cf_gT
    rw [cf_hor, cf_hor, Bool.or_eq_true, Bool.or_eq_true, or_assoc]
    refine or_congr Iff.rfl (or_congr ?_ ?_)
    · unfold cf_othg
      rw [cf_has_un, cf_any_iff]
      constructor
      · rintro ⟨o, ho, h⟩
        by_cases e : o = c
        · rw [if_pos e, cf_h0] at h; cases h
        · rw [if_neg e] at h; exact ⟨o, ho, e, h⟩
      · rintro ⟨o, ho, e, h⟩
        exact ⟨o, ho, by rw [if_neg e]; exact h⟩
    · unfold cf_rowg
      by_cases h : S 3 c = 1 ∧ cf_st S f c / 256 = 0
      · rw [decide_eq_true h, Bool.not_true, cond_false, cf_h0]
        exact ⟨fun q => (by cases q), fun q => absurd h q.1⟩
      · rw [decide_eq_false h, Bool.not_false, cond_true]
        exact ⟨fun q => ⟨h, q⟩, fun q => q.2⟩
  constructor
  · intro h
    refine ⟨?_, ?_⟩
    · unfold cf_fit
      rw [Bool.and_eq_true, decide_eq_true_iff, Bool.or_eq_true, decide_eq_true_iff, decide_eq_true_iff, cf_dj, cf_dj]
      refine ⟨fun p hp q => h p hp ((blk p hp).mpr (Or.inl q)), ?_⟩
      by_cases g : S 3 c = 1 ∧ cf_st S f c / 256 = 0
      · exact Or.inl g
      · exact Or.inr (fun p hp q => h p hp ((blk p hp).mpr (Or.inr (Or.inr ⟨g, q⟩))))
    · unfold cf_mta
      refine cf_any_false (fun o ho => ?_)
      by_cases e : o = c
      · rw [decide_eq_true e]; rfl
      · unfold cf_mtg
        have d1 : (cf_hd S f c &&& cf_hd S f o) = 0 := by
          rw [cf_dj]
          intro p hp q
          exact h p hp ((blk p hp).mpr (Or.inr (Or.inl ⟨o, ho, e, q⟩)))
        rw [decide_eq_false e, decide_eq_false (fun q => q d1), Bool.false_or]
        rcases ns with ns | ns
        · rw [decide_eq_false (by omega)]; rfl
        · rw [ns o ho e, Bool.and_false]; rfl
  · rintro ⟨h1, h2⟩ p hp q
    unfold cf_fit at h1
    rw [Bool.and_eq_true, decide_eq_true_iff, Bool.or_eq_true, decide_eq_true_iff, decide_eq_true_iff, cf_dj, cf_dj] at h1
    rcases (blk p hp).mp q with q | ⟨o, ho, e, q⟩ | ⟨g, q⟩
    · exact h1.1 p hp q
    · unfold cf_mta at h2
      have := cf_any_true (p := fun o => !decide (o = c) && cf_mtg (cf_sd S) (cf_hd S) c o f) ho (by
        show (!decide (o = c) && cf_mtg (cf_sd S) (cf_hd S) c o f) = true
        unfold cf_mtg
        rw [decide_eq_false e, decide_eq_true (show ¬ (cf_hd S f c &&& cf_hd S f o) = 0 from fun z => cf_dj.mp z p hp q)]; rfl)
      rw [this] at h2; cases h2
    · rcases h1.2 with g2 | g2
      · exact g g2
      · exact g2 p hp q
section CFA
variable {S : cf_S} {c n : Nat} {mv : Nat → Nat}
theorem cf_app_mt1 {t : Nat} (h : t < S 4 c) : cf_mt (cf_app S c n mv) c t = cf_mt S c t := by
  rw [cf_mt_in h, cf_mt_in (by rw [cf_app_4]; omega), cf_app_w, if_pos h]
theorem cf_app_mt2 {i : Nat} (h : i < n) : cf_mt (cf_app S c n mv) c (S 4 c + i) = mv i := by
  rw [cf_mt_in (by rw [cf_app_4]; omega), cf_app_w, if_neg (by omega)]
  congr 1; omega
theorem cf_app_bc : cf_bc S (cf_app S c n mv) c := cf_bc_lg ⟨n, mv, rfl⟩
theorem cf_app_ds : ∀ t, t ≤ S 4 c → cf_ds (cf_app S c n mv) c t = cf_ds S c t
  | 0, _ => cf_app_bc 9 c (by omega) (by omega) (by omega) (by omega)
  | t + 1, h => by
    rw [cf_ds, cf_ds, cf_app_ds t (by omega), cf_app_mt1 (by omega), cf_bc_1 cf_app_bc, cf_app_bc 0 0 (by omega) (by omega) (by omega) (by omega), cf_app_bc 0 1 (by omega) (by omega) (by omega) (by omega), cf_app_bc 3 c (by omega) (by omega) (by omega) (by omega), cf_app_bc 6 c (by omega) (by omega) (by omega) (by omega)]
theorem cf_app_dx {t : Nat} (h : t < S 4 c) : cf_dx (cf_app S c n mv) c t = cf_dx S c t := by
  unfold cf_dx
  rw [cf_app_ds t (by omega), cf_app_mt1 h, cf_bc_1 cf_app_bc, cf_app_bc 0 0 (by omega) (by omega) (by omega) (by omega), cf_app_bc 0 1 (by omega) (by omega) (by omega) (by omega), cf_app_bc 3 c (by omega) (by omega) (by omega) (by omega), cf_app_bc 6 c (by omega) (by omega) (by omega) (by omega)]
theorem cf_bc_dx {S' : cf_S} {o : Nat} (B : cf_bc S S' c) (ho : ¬ o = c) (t : Nat) : cf_dx S' o t = cf_dx S o t := by
  unfold cf_dx
  rw [cf_bc_ds B ho, cf_bc_mt B ho, cf_bc_1 B, B 0 0 (by omega) (by omega) (by omega) (by omega), B 0 1 (by omega) (by omega) (by omega) (by omega), B 3 o (by omega) (by omega) (by omega) (by omega), B 6 o (by omega) (by omega) (by omega) (by omega)]
theorem cf_bc_dn {S' : cf_S} {o : Nat} (B : cf_bc S S' c) (ho : ¬ o = c) : cf_dn S' o ↔ cf_dn S o := by
  unfold cf_dn
  rw [B 4 o (by omega) (by omega) (by omega) (by omega), B (20 + o) _ (by omega) (by omega) (by omega) (by omega)]
/-- the rows of a state that don't speak of ways -/
theorem cf_G_bc {S' : cf_S} (G : cf_G S) (B : cf_bc S S' c)
    (h5 : c < S 0 2 → ∀ t, t < S' 4 c → ¬ cf_dx S' c t = none ∧ (S' (20 + c) t = 5 → cf_ds S' c t % 64 = S 12 (S 6 c - 1)) ∧ (S' (20 + c) t = 6 → t + 1 = S' 4 c))
    (h6a : c < S 0 2 → ∀ c' u, c' < S 0 2 → ¬ c = c' → u < S' 4 c → S' (20 + c) u = 5 → cf_dn S c' → S 4 c' ≤ u → ¬ cf_ds S' c u % 64 = cf_ds S c' u % 64)
    (h6b : c < S 0 2 → ∀ o u, o < S 0 2 → ¬ o = c → u < S 4 o → S (20 + o) u = 5 → cf_dn S' c → S' 4 c ≤ u → ¬ cf_ds S o u % 64 = cf_ds S' c u % 64) : cf_G S' := by
  obtain ⟨g1, g2, g3, g4, g5, g6⟩ := G
  have e12 : ∀ s, S' 12 s = S 12 s := fun s => B 12 s (by omega) (by omega) (by omega) (by omega)
  have e9 : ∀ o, S' 9 o = S 9 o := fun o => B 9 o (by omega) (by omega) (by omega) (by omega)
  have e6 : ∀ o, S' 6 o = S 6 o := fun o => B 6 o (by omega) (by omega) (by omega) (by omega)
  have e3 : ∀ o, S' 3 o = S 3 o := fun o => B 3 o (by omega) (by omega) (by omega) (by omega)
  refine ⟨?_, ?_, ?_, ?_, ?_, ?_⟩
  · intro s s' hs hs'
    rw [cf_bc_m B] at hs hs'
    rw [e12, e12]; exact g1 s s' hs hs'
  · intro o s ho hs e
    rw [cf_bc_n B] at ho
    rw [cf_bc_m B] at hs
    rw [e9] at e ⊢
    rw [e12]; exact g2 o s ho hs e
  · intro o ho
    rw [cf_bc_n B] at ho
    rw [cf_bc_own B, e3, e9, e6]; exact g3 o ho
  · intro o o' ho ho'
    rw [cf_bc_n B] at ho ho'
    rw [cf_bc_own B, cf_bc_own B]; exact g4 o o' ho ho'
  · intro o ho t ht
    rw [cf_bc_n B] at ho
    by_cases e : o = c
    · subst e
      rw [e6, e12]; exact h5 ho t ht
    · rw [B 4 o (by omega) (by omega) (by omega) (by omega)] at ht ⊢
      rw [cf_bc_dx B e, cf_bc_ds B e, B (20 + o) t (by omega) (by omega) (by omega) (by omega), e6, e12]
      exact g5 o ho t ht
  · intro o c' u ho hc' hne hu h5' hd hE
    rw [cf_bc_n B] at ho hc'
    by_cases e : o = c
    · subst e
      have hne2 : ¬ c' = o := fun q => hne q.symm
      rw [cf_bc_dn B hne2] at hd
      rw [B 4 c' (by omega) (by omega) (by omega) (by omega)] at hE
      rw [cf_bc_ds B hne2]
      exact h6a ho c' u hc' hne hu h5' hd hE
    · rw [B 4 o (by omega) (by omega) (by omega) (by omega)] at hu
      rw [B (20 + o) u (by omega) (by omega) (by omega) (by omega)] at h5'
      rw [cf_bc_ds B e]
      by_cases e2 : c' = c
      · subst e2
        exact h6b hc' o u ho e hu h5' hd hE
      · rw [cf_bc_dn B e2] at hd
        rw [B 4 c' (by omega) (by omega) (by omega) (by omega)] at hE
        rw [cf_bc_ds B e2]
        exact g6 o c' u ho hc' hne hu h5' hd hE
theorem cf_G_app (G : cf_G S) (hc : c < S 0 2) (nd : ¬ cf_dn S c)
    (h5 : ∀ i, i < n → ¬ cf_dx (cf_app S c n mv) c (S 4 c + i) = none ∧ (mv i = 5 → cf_ds (cf_app S c n mv) c (S 4 c + i) % 64 = S 12 (S 6 c - 1)) ∧ (mv i = 6 → i + 1 = n))
    (h6a : ∀ i, i < n → mv i = 5 → ∀ c', c' < S 0 2 → ¬ c = c' → ¬ cf_ds (cf_app S c n mv) c (S 4 c + i) % 64 = cf_ds S c' (S 4 c + i) % 64)
    (h6b : 0 < n → mv (n - 1) = 6 → ∀ o u, o < S 0 2 → ¬ o = c → S 4 c + n ≤ u → u < S 4 o → ¬ cf_ds S o u % 64 = cf_ds (cf_app S c n mv) c u % 64) : cf_G (cf_app S c n mv) := by
  have split4 : ∀ t, t < cf_app S c n mv 4 c → t < S 4 c ∨ ∃ i, i < n ∧ t = S 4 c + i := by
    intro t ht
    rw [cf_app_4] at ht
    rcases Nat.lt_or_ge t (S 4 c) with q | q
    · exact Or.inl q
    · exact Or.inr ⟨t - S 4 c, by omega, by omega⟩
  refine cf_G_bc G cf_app_bc (fun _ t ht => ?_) (fun _ c' u hc' hne hu h5' hd hE => ?_) (fun _ o u ho hne hu h5' hd hE => ?_)
  · rcases split4 t ht with q | ⟨i, hi, rfl⟩
    · rw [cf_app_dx q, cf_app_ds t (by omega), cf_app_w, if_pos q, cf_app_4]
      obtain ⟨a, b, d⟩ := G.2.2.2.2.1 c hc t q
      refine ⟨a, b, fun q6 => ?_⟩
      have := d q6
      exact absurd ⟨by omega, by rw [← this]; exact q6⟩ nd
    · rw [cf_app_w, if_neg (by omega), show S 4 c + i - S 4 c = i by omega, cf_app_4]
      obtain ⟨a, b, d⟩ := h5 i hi
      exact ⟨a, b, fun q => by have := d q; omega⟩
  · rcases split4 u hu with q | ⟨i, hi, rfl⟩
    · rw [cf_app_w, if_pos q] at h5'
      rw [cf_app_ds u (by omega)]
      exact G.2.2.2.2.2 c c' u hc hc' hne q h5' hd hE
    · rw [cf_app_w, if_neg (by omega), show S 4 c + i - S 4 c = i by omega] at h5'
      exact h6a i hi h5' c' hc' hne
  · obtain ⟨hd1, hd2⟩ := hd
    rw [cf_app_4] at hd1 hd2 hE
    by_cases hn : n = 0
    · subst hn
      rw [cf_app_w, if_pos (by omega)] at hd2
      exact absurd ⟨by omega, hd2⟩ nd
    · rw [cf_app_w, if_neg (by omega), show S 4 c + n - 1 - S 4 c = n - 1 by omega] at hd2
      exact h6b (by omega) hd2 o u ho hne hE hu
/-- up to a cart's END its longer way makes no difference -/
theorem cf_app_pre : ∀ t, t ≤ S 4 c → cf_w (cf_app S c n mv) t = cf_w S t
  | 0, _ => by
    rw [cf_w, cf_w]
    congr 1
    · funext o; exact cf_app_bc 9 o (by omega) (by omega) (by omega) (by omega)
    · funext o; exact cf_app_bc 12 o (by omega) (by omega) (by omega) (by omega)
  | t + 1, h => by
    have ih := cf_app_pre t (by omega)
    have e : ∀ o, cf_nx (cf_app S c n mv) (cf_w (cf_app S c n mv) t) t o = cf_nx S (cf_w S t) t o := by
      intro o
      rw [ih]
      unfold cf_nx
      have em : cf_mt (cf_app S c n mv) o t = cf_mt S o t := by
        by_cases q : o = c
        · subst q; exact cf_app_mt1 (by omega)
        · exact cf_bc_mt cf_app_bc q t
      rw [em, cf_bc_1 cf_app_bc, cf_app_bc 0 0 (by omega) (by omega) (by omega) (by omega), cf_app_bc 0 1 (by omega) (by omega) (by omega) (by omega), cf_app_bc 3 o (by omega) (by omega) (by omega) (by omega), cf_bc_n cf_app_bc, cf_bc_m cf_app_bc]
    have e3 : (fun o => (cf_nx (cf_app S c n mv) (cf_w (cf_app S c n mv) t) t o).getD ((cf_w (cf_app S c n mv) t).1 o)) = (fun o => (cf_nx S (cf_w S t) t o).getD ((cf_w S t).1 o)) := by
      funext o; rw [e o, ih]
    rw [cf_w, cf_w, e3, ih, cf_bc_n cf_app_bc]
end CFA
