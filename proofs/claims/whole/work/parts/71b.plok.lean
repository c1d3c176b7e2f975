/-! A plan: what it leaves. -/
theorem cf_do1_s {S S2 : cf_S} {c m : Nat} (h : cf_do1 S c m = some S2) : S 4 c < 400 ∧ S2 = cf_app S c 1 (fun _ => m) := by
  unfold cf_do1 at h
  split at h
  · rename_i q; exact ⟨q.1, (Option.some_inj.mp h).symm⟩
  · cases h
/-- let down where it stands for good -/
theorem cf_bad_down {S3 : cf_S} (V3 : cf_V S3) (G3 : cf_G S3) {c : Nat} (hc : c < S3 0 2) (hk : S3 3 c = 1) (V4 : cf_V (cf_app S3 c 1 (fun _ => 6))) (G4 : cf_G (cf_app S3 c 1 (fun _ => 6))) {r : Nat} (hr : cf_ds (cf_app S3 c 1 (fun _ => 6)) c (S3 4 c + 1) = r) (hr2 : r = cf_ds S3 c (S3 4 c) % 256) {u : Nat} (hu : S3 4 c < u) (h : cf_bad S3 c u = false) : cf_bad (cf_app S3 c 1 (fun _ => 6)) c u = false := by
  have h2 : cf_two (S3 3 c) = false := by rw [hk]; rfl
  have B : cf_bc S3 (cf_app S3 c 1 (fun _ => 6)) c := cf_app_bc
  have hc4 : c < cf_app S3 c 1 (fun _ => 6) 0 2 := by rw [cf_bc_n B]; exact hc
  have k3 : cf_app S3 c 1 (fun _ => 6) 3 c = S3 3 c := B 3 c (by omega) (by omega) (by omega) (by omega)
  have d4 : ∀ t, S3 4 c < t → cf_ds (cf_app S3 c 1 (fun _ => 6)) c t = r := by
    intro t ht
    rw [cf_ds_E2 (S := cf_app S3 c 1 (fun _ => 6)) (c := c) (t := S3 4 c + 1) (u := t) (by rw [cf_app_4]; exact Nat.le_refl _) (by omega), hr]
  have d3 : ∀ t, S3 4 c ≤ t → cf_ds S3 c t = cf_ds S3 c (S3 4 c) := fun t ht => cf_ds_E2 (Nat.le_refl _) ht
  have s3 : ∀ t, S3 4 c ≤ t → cf_sd S3 t c = cf_bt (r % 64) := by
    intro t ht
    unfold cf_sd
    rw [h2, cf_dec_st V3 G3 hc, d3 t ht]
    show cf_bt (cf_ds S3 c (S3 4 c) % 64) = _
    congr 1; omega
  have s4 : ∀ t, S3 4 c ≤ t → cf_sd (cf_app S3 c 1 (fun _ => 6)) t c = cf_bt (r % 64) := by
    intro t ht
    unfold cf_sd
    rw [k3, h2, cf_dec_st V4 G4 hc4]
    show cf_bt (cf_ds (cf_app S3 c 1 (fun _ => 6)) c t % 64) = _
    by_cases e : t = S3 4 c
    · rw [e, cf_app_ds _ (Nat.le_refl _)]; congr 1; omega
    · rw [d4 t (by omega)]
  have hb := ((cf_bad_iff V3 hc).mp h).1
  rw [cf_hd_1 h2, s3 u (by omega), cf_dj] at hb
  have oth : ∀ o, o < S3 0 2 → ¬ o = c → (cf_bt (r % 64) &&& cf_hd S3 u o) = 0 := by
    intro o ho hne
    rw [cf_dj]
    intro p hp q
    apply hb p hp
    have hpl : p < 64 := by rw [cf_hbt, Bool.and_eq_true, decide_eq_true_iff, decide_eq_true_iff] at hp; omega
    rw [cf_blk_gT hpl, cf_gT_hd ho hne q, Bool.or_true]
  rw [cf_bad_iff V4 hc4, cf_hd_1 (by rw [k3]; exact h2), s4 u (by omega)]
  refine ⟨?_, cf_nsw_stay (by rw [s4 u (by omega), s4 (u - 1) (by omega)]) (fun o ho hne => ?_)⟩
  · rw [cf_dj]
    intro p hp q
    have hpl : p < 64 := by rw [cf_hbt, Bool.and_eq_true, decide_eq_true_iff, decide_eq_true_iff] at hp; omega
    apply hb p hp
    rw [cf_blk_gT hpl] at q ⊢
    rw [Bool.or_eq_true] at q ⊢
    rcases q with q | q
    · left; rw [B 0 0 (by omega) (by omega) (by omega) (by omega), B 0 1 (by omega) (by omega) (by omega) (by omega)] at q; exact q
    · right
      unfold cf_gT at q ⊢
      have hl : cf_st (cf_app S3 c 1 (fun _ => 6)) u c / 256 = 0 := by rw [cf_dec_st V4 G4 hc4, d4 u hu]; omega
      have row0 : cf_rowg (cf_app S3 c 1 (fun _ => 6)) (cf_sp (cf_app S3 c 1 (fun _ => 6))) c (cf_st (cf_app S3 c 1 (fun _ => 6)) u c / 256) u = 0 := by
        unfold cf_rowg
        rw [hl, k3, decide_eq_true ⟨hk, rfl⟩]; rfl
      rw [row0, cf_or0, cf_bc_bar B, cf_bc_oth V3 G3 V4 G4 B] at q
      rw [cf_hor, q, Bool.true_or]
  · rw [cf_bc_n B] at ho
    rw [s4 u (by omega), cf_bc_sd V3 G3 V4 G4 B ho hne]
    have := oth o ho hne
    rw [cf_dj] at this ⊢
    exact fun p hp q => this p hp (cf_sd_hd q)
/-- the last leg and the letting down -/
theorem cf_last2 {S2 S4 : cf_S} (V2 : cf_V S2) (G2 : cf_G S2) {c tg : Nat} (hc : c < S2 0 2) (nd : ¬ cf_dn S2 c) (h6 : ¬ S2 6 c = 0) (h : (cf_go1 S2 c tg 0 true).bind (fun S3 => cf_do1 S3 c 6) = some S4) : cf_V S4 ∧ cf_G S4 ∧ cf_lg S2 c S4 ∧ cf_dn S4 c ∧ S2 4 c < S4 4 c ∧ ∀ u, S2 4 c ≤ u → u < 402 → cf_bad S4 c u = false := by
  cases hgo : cf_go1 S2 c tg 0 true with
  | none => rw [hgo] at h; cases h
  | some S3 =>
    rw [hgo] at h
    have h : cf_do1 S3 c 6 = some S4 := h
    obtain ⟨hlt, hS4⟩ := cf_do1_s h
    obtain ⟨n, sg, hn, hS3, hb, V3, G3, nd3, hsg, hds, hmy, htg, hgood⟩ := cf_go1_some V2 G2 hc nd hgo
    obtain ⟨_, hbad⟩ := cf_bad_go V2 G2 hc nd hgo
    have B : cf_bc S2 S3 c := by rw [hS3]; exact cf_app_bc
    have L3 : cf_lg S2 c S3 := by rw [hS3]; exact ⟨_, _, rfl⟩
    have hc3 : c < S3 0 2 := by rw [cf_bc_n B]; exact hc
    have e4 : S3 4 c = S2 4 c + n := by rw [hS3, cf_app_4]
    have k3 : S3 3 c = S2 3 c := B 3 c (by omega) (by omega) (by omega) (by omega)
    have hk1 : S2 3 c = 1 := (G2.2.2.1 c hc).1 (by rw [cf_own6 G2 hc h6]; exact h6)
    have h2f : cf_two (S2 3 c) = false := by rw [hk1]; rfl
    have hf6 : 6 = 6 → ∀ o u, o < S3 0 2 → ¬ o = c → S3 4 c < u → u < 402 → ¬ cf_ds S3 o u % 64 = cf_ds S3 c (S3 4 c) % 64 := by
      intro _ o u ho hne hu1 hu2 q
      have ho2 : o < S2 0 2 := by rw [← cf_bc_n B]; exact ho
      have hL := cf_gL_sq V2 (c := c) (l := cf_st S2 (S2 4 c) c / 256) (u := S2 4 c + n) (u' := u) ho2 hne (by omega) hu2
      rw [cf_dec_st V2 G2 ho2, ← cf_bc_ds B hne, q, e4, (hds n (Nat.le_refl _)).1] at hL
      have hg := hgood rfl
      rw [h2f] at hg
      exact cf_dj.mp hg (sg n % 64) (cf_std1.mpr rfl) (by rw [← hL]; congr 1; have := (hds n (Nat.le_refl _)).2.1; omega)
    cases er : cf_aft (S3 0 0) (S3 0 1) (S3 1) (S3 3 c) (cf_ds S3 c (S3 4 c)) 6 (S3 6 c) with
    | none => rw [cf_do1_6n V3 G3 hc3 er] at h; cases h
    | some r =>
      obtain ⟨V4, G4, hds4, _⟩ := cf_do1_ok V3 G3 V3 G3 hc3 (fun _ _ _ _ _ _ => rfl) nd3 (Or.inr rfl) hlt er (fun q => by omega) hf6
      have hr2 : r = cf_ds S3 c (S3 4 c) % 256 := by
        rcases cf_aft_c (cf_V_wh V3) (cf_ds_v V3 G3 hc3 (S3 4 c)).1.1 (by decide) er with ⟨q, _⟩ | ⟨q, _⟩ | ⟨_, _, _, _, q⟩
        · omega
        · omega
        · exact q
      subst hS4
      refine ⟨V4, G4, cf_lg_a L3 _ _, ⟨by rw [cf_app_4]; omega, by rw [cf_app_4, Nat.add_sub_cancel, cf_app_w, if_neg (by omega)]⟩, by rw [cf_app_4]; omega, fun u h1 h2 => ?_⟩
      rcases Nat.lt_or_ge (S3 4 c) u with q | q
      · exact cf_bad_down V3 G3 hc3 (by rw [k3]; exact hk1) V4 G4 hds4 hr2 q (hbad rfl u h1 h2)
      · rw [cf_bad_bc V3 G3 V4 G4 cf_app_bc hc3 (by rw [k3]; exact h2f) (cf_app_ds u q) (cf_app_ds (u - 1) (by omega))]
        exact hbad rfl u h1 h2
/-- all of a plan -/
theorem cf_pl_some {S S1 : cf_S} (V : cf_V S) (G : cf_G S) {c : Nat} (hc : c < S 0 2) (nd : ¬ cf_dn S c) (h : cf_pl S c = some S1) : cf_V S1 ∧ cf_G S1 ∧ cf_lg S c S1 ∧ (∀ u, S 4 c ≤ u → u < 402 → cf_bad S1 c u = false)
    ∧ (¬ S 6 c = 0 → ¬ cf_ds S c (S 4 c) / 256 = S 6 c → ∃ n, cf_gn S (cf_st S) (cf_sp S) (cf_sd S) (cf_hd S) c (S 4 c) (cf_st S (S 4 c) c) (S 12 (S 6 c - 1)) (S 6 c) false = n + 1 ∧ S 4 c + n < S1 4 c ∧ S1 (20 + c) (S 4 c + n) = 5 ∧ cf_fit S (cf_st S) (cf_sp S) (cf_hd S) c (S 4 c) = true ∧ cf_mta (S 0 2) (cf_sd S) (cf_hd S) c (S 4 c) = false) := by
  unfold cf_pl at h
  by_cases h6 : S 6 c = 0
  · rw [if_pos h6] at h
    obtain ⟨n, sg, hn, hS1, hb, V1, G1, nd1, _⟩ := cf_go1_some V G hc nd h
    refine ⟨V1, G1, by rw [hS1]; exact ⟨_, _, rfl⟩, (cf_bad_go V G hc nd h).2 rfl, fun q => absurd h6 q⟩
  · rw [if_neg h6] at h
    have hk1 : S 3 c = 1 := (G.2.2.1 c hc).1 (by rw [cf_own6 G hc h6]; exact h6)
    have h2f : cf_two (S 3 c) = false := by rw [hk1]; rfl
    by_cases hld : cf_st S (S 4 c) c / 256 = S 6 c
    · rw [if_pos hld] at h
      obtain ⟨V4, G4, L4, _, _, hbad⟩ := cf_last2 V G hc nd h6 h
      refine ⟨V4, G4, L4, hbad, fun _ q => ?_⟩
      rw [cf_dec_st V G hc] at hld
      exact absurd hld q
    · rw [if_neg hld] at h
      have hld2 : ¬ cf_ds S c (S 4 c) / 256 = S 6 c := by rw [← cf_dec_st V G hc]; exact hld
      have h400 := (V.2.2.2.2.2.2.1 c hc).2.2.2.1
      rw [cf_sp_first V G hc nd h6 (show S 4 c ≤ 401 by omega) hld2] at h
      cases hgo : cf_go1 S c (S 12 (S 6 c - 1)) (S 6 c) false with
      | none => rw [hgo] at h; cases h
      | some Sa =>
        rw [hgo] at h
        have h : (cf_do1 Sa c 5).bind (fun S2 => (cf_go1 S2 c (S 5 c - 1) 0 true).bind (fun S3 => cf_do1 S3 c 6)) = some S1 := h
        cases hdo : cf_do1 Sa c 5 with
        | none => rw [hdo] at h; cases h
        | some Sb =>
          rw [hdo] at h
          have h : (cf_go1 Sb c (S 5 c - 1) 0 true).bind (fun S3 => cf_do1 S3 c 6) = some S1 := h
          obtain ⟨hlt, hSb⟩ := cf_do1_s hdo
          have hfm : cf_fit S (cf_st S) (cf_sp S) (cf_hd S) c (S 4 c) = true ∧ cf_mta (S 0 2) (cf_sd S) (cf_hd S) c (S 4 c) = false := by
            unfold cf_go1 at hgo
            split at hgo
            · rename_i q; exact ⟨q.1, q.2.1⟩
            · cases hgo
          obtain ⟨n, sg, hn, hSa, hb, Va, Ga, nda, hsg, hds, hmy, htg, _⟩ := cf_go1_some V G hc nd hgo
          obtain ⟨hbada, _⟩ := cf_bad_go V G hc nd hgo
          have Ba : cf_bc S Sa c := by rw [hSa]; exact cf_app_bc
          have La : cf_lg S c Sa := by rw [hSa]; exact ⟨_, _, rfl⟩
          have hca : c < Sa 0 2 := by rw [cf_bc_n Ba]; exact hc
          have e4a : Sa 4 c = S 4 c + n := by rw [hSa, cf_app_4]
          obtain ⟨hdsn, hsgl, hfree⟩ := hds n (Nat.le_refl _)
          have hz0 : cf_ds S c (S 4 c) / 256 = 0 := by
            have := (cf_ds_v V G hc (S 4 c)).2
            rw [cf_own6 G hc h6] at this; omega
          have hdsa : cf_ds Sa c (Sa 4 c) = sg n := by rw [e4a, hdsn]; omega
          have hlift : cf_aft (S 0 0) (S 0 1) (S 1) (S 3 c) (cf_ds Sa c (Sa 4 c)) 5 (S 6 c) = some (cf_ds Sa c (Sa 4 c) % 256 + 256 * S 6 c) := by
            unfold cf_aft
            rw [if_neg (by decide), if_pos hk1, if_pos rfl, if_pos ⟨by omega, by omega⟩]
          have hf5 : 5 = 5 → cf_ds Sa c (Sa 4 c) % 64 = S 12 (S 6 c - 1) ∧ ∀ o, o < S 0 2 → ¬ c = o → ¬ cf_ds Sa c (Sa 4 c) % 64 = cf_ds S o (Sa 4 c) % 64 := by
            intro _
            refine ⟨by omega, fun o ho hne q => ?_⟩
            have hT := cf_gT_sq V (c := c) (l := cf_st S (S 4 c) c / 256) (u := S 4 c + n) ho (fun z => hne z.symm)
            rw [cf_dec_st V G ho, ← e4a, ← q, e4a] at hT
            rw [h2f] at hfree
            exact cf_dj.mp hfree (sg n % 64) (cf_std1.mpr rfl) (by rw [← hT]; congr 1; rw [← e4a, hdsa])
          obtain ⟨Vb, Gb, hdsb, _⟩ := cf_do1_ok V G Va Ga hc Ba nda (Or.inl rfl) hlt hlift hf5 (fun q => by omega)
          rw [← hSb] at Vb Gb hdsb
          have Lb : cf_lg S c Sb := by rw [hSb]; exact cf_lg_a La _ _
          have e4b : Sb 4 c = Sa 4 c + 1 := by rw [hSb, cf_app_4]
          have Bb := cf_bc_lg Lb
          have hcb : c < Sb 0 2 := by rw [cf_bc_n Bb]; exact hc
          have ndb : ¬ cf_dn Sb c := by
            rintro ⟨_, q⟩
            rw [e4b, Nat.add_sub_cancel, hSb, cf_app_w, if_neg (by omega)] at q
            cases q
          have h6b : ¬ Sb 6 c = 0 := by rw [Bb 6 c (by omega) (by omega) (by omega) (by omega)]; exact h6
          obtain ⟨V4, G4, L4, _, hlt4, hbad4⟩ := cf_last2 Vb Gb hcb ndb h6b h
          have L14 : cf_lg S c S1 := by obtain ⟨m, mv, rfl⟩ := L4; exact cf_lg_a Lb m mv
          have dsb : ∀ u, u ≤ Sb 4 c → cf_ds S1 c u = cf_ds Sb c u := by
            obtain ⟨m, mv, rfl⟩ := L4
            exact fun u hu => cf_app_ds u hu
          have wsb : ∀ u, u < Sb 4 c → S1 (20 + c) u = Sb (20 + c) u := by
            obtain ⟨m, mv, rfl⟩ := L4
            exact fun u hu => by rw [cf_app_w, if_pos hu]
          have dsa : ∀ u, u ≤ Sa 4 c → cf_ds Sb c u = cf_ds Sa c u := fun u hu => by rw [hSb, cf_app_ds u hu]
          refine ⟨V4, G4, L14, fun u h1 h2 => ?_, fun _ _ => ⟨n, hn, by omega, ?_, hfm.1, hfm.2⟩⟩
          · rcases Nat.lt_or_ge u (Sb 4 c) with q | q
            · have B14 : cf_bc Sa S1 c := by
                intro a b q1 q2 q3 q4
                rw [cf_bc_lg L14 a b q1 q2 q3 q4, Ba a b q1 q2 q3 q4]
              rw [cf_bad_bc Va Ga V4 G4 B14 hca (by rw [Ba 3 c (by omega) (by omega) (by omega) (by omega)]; exact h2f) (by rw [dsb u (by omega), dsa u (by omega)]) (by rw [dsb (u - 1) (by omega), dsa (u - 1) (by omega)])]
              exact hbada u h1 (by omega)
            · exact hbad4 u q h2
          · rw [wsb _ (by omega), hSb, cf_app_w, if_neg (by omega)]
