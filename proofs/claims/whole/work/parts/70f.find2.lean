/-! Planner.find. -/
section RXE
variable {L : Nat} {t : List (Nat × Nat)}
variable {RI : Int32 → (Nat → Nat → Int32) → (Nat → Nat → Int64) → (Nat → Nat → Option Nat) → Prop}
/-- a SHELF that its cart hasn't lifted is where it was -/
theorem cf_sp_first {S : cf_S} (V : cf_V S) (G : cf_G S) {c u : Nat} (hc : c < S 0 2) (nd : ¬ cf_dn S c) (h6 : ¬ S 6 c = 0) (hu : S 4 c ≤ u) (hl : ¬ cf_ds S c (S 4 c) / 256 = S 6 c) : cf_sp S u (S 6 c - 1) = S 12 (S 6 c - 1) := by
  have hm := (V.2.2.2.2.2.2.1 c hc).2.2.2.2.2.1
  have hown := cf_own6 G hc h6
  rcases (cf_dec0 V G u).2.2 (S 6 c - 1) (by omega) with q | ⟨c', hc', ho, q⟩
  · exact q
  · have e : c' = c := by
      apply Classical.byContradiction
      intro hne
      exact G.2.2.2.1 c c' hc hc' (fun z => hne z.symm) (by omega) (by omega)
    subst e
    rcases q with q | ⟨hd, _⟩
    · rw [cf_ds_E2 (Nat.le_refl _) hu] at q; omega
    · exact absurd hd nd
theorem c63 {hi : Nat → Nat → Int32} {hl : Nat → Nat → Int64} {v : Nat → Nat → Option Nat} {S : cf_S} (X : cf_XR S hi hl) (G : cf_G S) {c : Nat} (hc : c < S 0 2) (nd : ¬ cf_dn S c) (h5 : 0 < S 5 c) (ns : S 4 c = 0 ∨ ∀ o, o < S 0 2 → ¬ o = c → cf_swap (cf_sd S (S 4 c - 1) c) (cf_sd S (S 4 c) c) (cf_sd S (S 4 c - 1) o) (cf_sd S (S 4 c) o) = false)
    (k0 : cf_pl S c = none → ∀ hi2 hl2 v2, cf_fC hi hi2 hl hl2 → cf_fv v v2 → cf_XR S hi2 hl2 → RI 0 hi2 hl2 v2)
    (k1 : ∀ S1, cf_pl S c = some S1 → cf_V S1 → cf_G S1 → cf_lg S c S1 → ∀ hi2 hl2 v2, cf_fC hi hi2 hl hl2 → cf_fv v v2 → cf_XR (cf_pd S1 c) hi2 hl2 → RI 1 hi2 hl2 v2) :
    rx_CI L t 63 [.ref 76, .ref (rx_ct c), .int (nI (S 4 c))] hi hl v RI := by
  have V := X.1.1
  have h6 := V.2.2.1
  have h12 := V.2.2.2.1
  have hwh := cf_V_wh V
  obtain ⟨hkd, _, _, h400, v5, v6, _⟩ := V.2.2.2.2.2.2.1 c hc
  have hC := X.1.2.2.2.2.1.2.2.1 c hc
  have hset : S 4 c ≤ cf_set S := by
    unfold cf_set
    have := cf_le_mx (f := S 4) hc
    omega
  have est : hi (rx_ct c + 3) (S 4 c) = nI (cf_ds S c (S 4 c)) := by rw [((X.2.2.1 c hc).1 (S 4 c) hset).1, cf_dec_st V G hc]
  have hzv := (cf_ds_v V G hc (S 4 c)).1
  have hz2 : cf_ds S c (S 4 c) / 256 ≤ S 0 3 := by
    have := ((cf_wv V (S 4 c)).1 c hc).2
    rw [cf_dec_st V G hc] at this; exact this
  refine w63_find (by omega) ⟨S 4 c, rfl, by omega, fun g => ⟨fun _ => ?_, fun g2 => absurd (nI_pos' (by omega)) g2⟩, fun g => ?_⟩
  · rw [hC.2.2.2.2.1, cf_oneg (by omega)] at g
    rw [est]
    refine g63 X G hc h5 (cf_lg_r S c) V G nd cf_fC_r (fun _ _ _ => rfl) (fun _ => rfl) (fun u h1 h2 => by omega) ns (fun h => k0 ?_) (fun S4 h => k1 S4 ?_)
    · unfold cf_pl
      rw [if_pos g]
      cases e : cf_go1 S c (S 5 c - 1) 0 true with
      | none => rfl
      | some S3 => rw [e] at h; have h : (if S 6 c = 0 then some S3 else cf_do1 S3 c 6) = none := h; rw [if_pos g] at h; cases h
    · unfold cf_pl
      rw [if_pos g]
      cases e : cf_go1 S c (S 5 c - 1) 0 true with
      | none => rw [e] at h; cases h
      | some S3 => rw [e] at h; have h : (if S 6 c = 0 then some S3 else cf_do1 S3 c 6) = some S4 := h; rw [if_pos g] at h; exact h
  · rw [hC.2.2.2.2.1, cf_oneg (by omega)] at g
    have hown := cf_own6 G hc g
    have hk1 : S 3 c = 1 := (G.2.2.1 c hc).1 (by omega)
    have h2f : cf_two (S 3 c) = false := by rw [hk1]; rfl
    rw [est]
    refine c48 (by omega) ?_
    rw [hC.2.2.2.2.1]
    refine ⟨fun g2 => ⟨fun _ => ?_, fun g3 => absurd (nI_pos' (by omega)) g3⟩, fun g2 => ?_⟩
    · rw [cf_oeq (by omega) (by omega)] at g2
      have hpl : cf_pl S c = (cf_go1 S c (S 5 c - 1) 0 true).bind (fun S3 => if S 6 c = 0 then some S3 else cf_do1 S3 c 6) := by
        unfold cf_pl
        rw [if_neg g, if_pos (by rw [cf_dec_st V G hc]; exact g2)]
        congr 1
        funext S3
        rw [if_neg g]
      exact g63 X G hc h5 (cf_lg_r S c) V G nd cf_fC_r (fun _ _ _ => rfl) (fun _ => rfl) (fun u h1 h2 => by omega) ns (fun h => k0 (hpl.trans h)) (fun S4 h => k1 S4 (hpl.trans h))
    · rw [cf_oeq (by omega) (by omega)] at g2
      have hz0 : cf_ds S c (S 4 c) / 256 = 0 := by
        have := (cf_ds_v V G hc (S 4 c)).2
        omega
      obtain ⟨f, hf⟩ : ∃ f, S 6 c = f + 1 := ⟨S 6 c - 1, by omega⟩
      have hpl : cf_pl S c = (cf_go1 S c (cf_sp S 401 (S 6 c - 1)) (S 6 c) false).bind (fun S1 => (cf_do1 S1 c 5).bind (fun S2 => (cf_go1 S2 c (S 5 c - 1) 0 true).bind (fun S3 => if S 6 c = 0 then some S3 else cf_do1 S3 c 6))) := by
        unfold cf_pl
        rw [if_neg g, if_neg (by rw [cf_dec_st V G hc]; exact g2)]
        congr 1
        funext S1
        congr 1
        funext S2
        congr 1
        funext S3
        rw [if_neg g]
      have hsp : ∀ u, S 4 c ≤ u → cf_sp S u (S 6 c - 1) = S 12 (S 6 c - 1) := fun u hu => cf_sp_first V G hc nd g hu g2
      have htg : S 12 (S 6 c - 1) < S 0 0 * S 0 1 := V.2.2.2.2.2.2.2 _ (by omega)
      rw [hsp 401 (by omega)] at hpl
      have e38 : oI (S 6 c) = nI (S 6 c - 1) := by rw [hf, cf_oS, Nat.add_sub_cancel]
      rw [e38, show (402 : Int32) = nI 402 from rfl]
      refine c38R X (by omega) (by omega) ?_
      rw [hsp 402 (by omega), (X.1.2.2.2.2.1.2.2.1 c hc).2.2.2.2.1]
      have hstart := cf_start V hc ns
      rw [cf_dec_st V G hc] at hstart
      refine c64 (wt := S 6 c) (last := false) X hc (Nat.le_refl _) h400 hzv hz2 htg v6 (fun _ => rfl) (fun h hi2 hl2 F2 Fl2 => ⟨fun g3 => absurd g3 (by decide), fun _ => c_retI (k0 ?_ hi2 hl2 _ (cf_fC_s (c := 0) (f := 0) (n := 0) (fun a b q1 q2 => F2 a b q1) Fl2 (by decide) (fun i hi => by omega)) cf_fv_u (cf_XR_fs (c := 0) (by decide) X (fun a b q1 q2 => F2 a b q1) Fl2))⟩) (fun hst n hn hi2 hl2 F2 Fl2 W2 e13 => ⟨fun _ => ?_, fun g3 => absurd (nI_pos' (by have := (cf_gn_tl hn).2; omega)) g3⟩)
      · rw [hpl]
        have : cf_go1 S c (S 12 (S 6 c - 1)) (S 6 c) false = none := by
          unfold cf_go1
          rw [if_neg, ]
          rintro ⟨q1, q2, q3⟩
          rcases h with h | h
          · exact h (hstart.mpr ⟨q1, q2⟩)
          · rw [cf_dec_st V G hc, h] at q3; omega
        rw [this]; rfl
      · have hgo : cf_go1 S c (S 12 (S 6 c - 1)) (S 6 c) false = some (cf_app S c n (cf_gm S (cf_st S) (cf_sp S) (cf_sd S) (cf_hd S) c (S 4 c) (cf_st S (S 4 c) c) (S 12 (S 6 c - 1)) (S 6 c) false n)) := by
          obtain ⟨q1, q2⟩ := hstart.mp hst
          have hn2 := hn
          rw [← cf_dec_st V G hc] at hn2
          unfold cf_go1
          rw [if_pos ⟨q1, q2, by rw [hn2]; omega⟩, hn2, Nat.add_sub_cancel]
        obtain ⟨n', sg, hn', hS1, hb, V1, Gd1, nd1, hsg, hds, hmy, htg1, _⟩ := cf_go1_some V G hc nd hgo
        have : n' = n := by rw [cf_dec_st V G hc, hn] at hn'; omega
        subst this
        generalize hS1e : cf_app S c n' (cf_gm S (cf_st S) (cf_sp S) (cf_sd S) (cf_hd S) c (S 4 c) (cf_st S (S 4 c) c) (S 12 (S 6 c - 1)) (S 6 c) false n') = S1 at *
        have G1 : cf_lg S c S1 := by rw [← hS1e]; exact ⟨_, _, rfl⟩
        have B1 := cf_bc_lg G1
        have e4 : S1 4 c = S 4 c + n' := by rw [← hS1e, cf_app_4]
        have hX2 : cf_XR S hi2 hl2 := cf_XR_fs (c := c) (by omega) X (fun a b q1 q2 => F2 a b q1 (fun q => q2 ⟨q.1, q.2.1⟩)) Fl2
        have FC2 : cf_fC hi hi2 hl hl2 := cf_fC_s F2 Fl2 (by omega) (fun i hi => ⟨_, by have := (hmy i hi).2; rw [cf_dec_st V G hc] at this; omega, W2 i hi⟩)
        have Fv2 : cf_fv v (rx_u v 77 8 (some (rx_ct c))) := cf_fv_u
        have hw1 : ∀ u, S 4 c ≤ u → u < S1 4 c → hi2 (rx_ct c + 1) u = nI (S1 (20 + c) u) := by
          intro u h1 h2
          rw [e4] at h2
          obtain ⟨i, rfl⟩ : ∃ i, u = S 4 c + i := ⟨u - S 4 c, by omega⟩
          rw [← hS1e, cf_app_w, if_neg (by omega), show S 4 c + i - S 4 c = i by omega, W2 i (by omega), cf_dec_st V G hc]
        obtain ⟨hdsn, hsgl, hfree⟩ := hds n' (Nat.le_refl _)
        have hds1 : cf_ds S1 c (S1 4 c) = cf_ds S c (S 4 c) / 256 * 256 + sg n' := by rw [e4]; exact hdsn
        have e13' : hi2 77 13 = nI (cf_ds S1 c (S1 4 c)) := by
          rw [e13, hds1, hsg, cf_dec_st V G hc]
        have hc1 : c < S1 0 2 := by rw [cf_bc_n B1]; exact hc
        have hv1 := cf_ds_v V1 Gd1 hc1 (S1 4 c)
        have hzv1 : cf_vs (S 0 0) (S 0 1) (cf_two (S 3 c)) (cf_ds S1 c (S1 4 c)) := by
          have := hv1.1
          rw [B1 0 0 (by omega) (by omega) (by omega) (by omega), B1 0 1 (by omega) (by omega) (by omega) (by omega), B1 3 c (by omega) (by omega) (by omega) (by omega)] at this
          exact this
        have h1u : cf_ds S1 c (S1 4 c) / 256 = 0 := by omega
        have hlift : cf_aft (S 0 0) (S 0 1) (S 1) (S 3 c) (cf_ds S1 c (S1 4 c)) 5 (S 6 c) = some (cf_ds S1 c (S1 4 c) % 256 + 256 * S 6 c) := by
          unfold cf_aft
          rw [if_neg (by decide), if_pos hk1, if_pos rfl, if_pos ⟨h1u, by omega⟩]
        have hf5 : 5 = 5 → cf_ds S1 c (S1 4 c) % 64 = S 12 (S 6 c - 1) ∧ ∀ o, o < S 0 2 → ¬ c = o → ¬ cf_ds S1 c (S1 4 c) % 64 = cf_ds S o (S1 4 c) % 64 := by
          intro _
          refine ⟨by omega, fun o ho hne q => ?_⟩
          have hT := cf_gT_sq V (c := c) (l := cf_st S (S 4 c) c / 256) (u := S 4 c + n') ho (fun z => hne z.symm)
          rw [cf_dec_st V G ho, ← e4, ← q, e4] at hT
          rw [h2f] at hfree
          exact cf_dj.mp hfree (sg n' % 64) (cf_std1.mpr rfl) (by rw [← hT]; congr 1; omega)
        rw [← e4]
        refine c83 (m := 5) (u := S1 4 c) hX2 hc (Or.inl rfl) (by omega) hzv1 (by omega) e13' (fun h => ⟨fun g3 => absurd g3 (by decide), fun _ => c_retI (k0 ?_ hi2 hl2 _ FC2 Fv2 hX2)⟩) (fun h400' r er hfr => ⟨fun _ => ?_, fun g3 => absurd (nI_pos' (by omega)) g3⟩)
        · have : cf_do1 S1 c 5 = none := by
            rcases h with h | h | ⟨r, er, h⟩
            · unfold cf_do1; rw [if_neg (by omega)]
            · rw [hlift] at h; cases h
            · by_cases hlt : S1 4 c < 400
              · rw [(cf_do1_ok V G V1 Gd1 hc B1 nd1 (Or.inl rfl) hlt er hf5 (fun q => by omega)).2.2.2, if_neg h]
              · unfold cf_do1; rw [if_neg (by omega)]
          rw [hpl, hgo]; show (cf_do1 S1 c 5).bind _ = none; rw [this]; rfl
        · obtain ⟨V2, Gd2, hds2, hdo⟩ := cf_do1_ok V G V1 Gd1 hc B1 nd1 (Or.inl rfl) h400' er hf5 (fun q => by omega)
          rw [if_pos hfr] at hdo
          generalize hS2e : cf_app S1 c 1 (fun _ => 5) = S2 at *
          have G2 : cf_lg S c S2 := by rw [← hS2e]; exact cf_lg_a G1 _ _
          have e42 : S2 4 c = S1 4 c + 1 := by rw [← hS2e, cf_app_4]
          have B2 := cf_bc_lg G2
          have hc2 : c < S2 0 2 := by rw [cf_bc_n B2]; exact hc
          have er2 : r = cf_ds S1 c (S1 4 c) % 256 + 256 * S 6 c := by rw [hlift] at er; exact (Option.some_inj.mp er).symm
          have nd2 : ¬ cf_dn S2 c := by
            rintro ⟨_, q⟩
            rw [e42, Nat.add_sub_cancel, ← hS2e, cf_app_w, if_neg (by omega)] at q
            cases q
          have e3' : S2 3 c = S 3 c := B2 3 c (by omega) (by omega) (by omega) (by omega)
          have ns2 : S2 4 c = 0 ∨ ∀ o, o < S2 0 2 → ¬ o = c → cf_swap (cf_sd S2 (S2 4 c - 1) c) (cf_sd S2 (S2 4 c) c) (cf_sd S2 (S2 4 c - 1) o) (cf_sd S2 (S2 4 c) o) = false := by
            right
            intro o _ _
            rw [cf_not_true]
            have a1 : cf_st S2 (S2 4 c) c = r := by rw [cf_dec_st V2 Gd2 hc2, e42]; exact hds2
            have a0 : cf_st S2 (S2 4 c - 1) c = cf_ds S1 c (S1 4 c) := by
              rw [cf_dec_st V2 Gd2 hc2, e42, Nat.add_sub_cancel, ← hS2e, cf_app_ds _ (Nat.le_refl _)]
            have s1 : cf_sd S2 (S2 4 c) c = cf_bt (r % 64) := by unfold cf_sd; rw [a1, e3', h2f]; rfl
            have s0 : cf_sd S2 (S2 4 c - 1) c = cf_bt (r % 64) := by
              unfold cf_sd
              rw [a0, e3', h2f]
              show cf_bt (cf_ds S1 c (S1 4 c) % 64) = _
              congr 1; omega
            rw [s0, s1, cf_swap_1 (by omega) (by omega)]
            rintro ⟨_, _, q⟩
            exact q rfl
          have hX3 : cf_XR S (rx_u (rx_u hi2 (rx_ct c + 1) (S1 4 c) (nI 5)) 77 13 (nI r)) hl2 := cf_XR_fs (c := c) (by omega) hX2 (fun a b q1 q2 => by rw [cf_ru_ne (by omega), cf_ru_ne (by omega)]) (fun _ _ _ => rfl)
          have FC3 : cf_fC hi (rx_u (rx_u hi2 (rx_ct c + 1) (S1 4 c) (nI 5)) 77 13 (nI r)) hl hl2 := cf_fC_t FC2 (cf_fC_s (c := c) (f := S1 4 c) (n := 1) (fun a b q1 q2 => by rw [cf_ru_ne (by omega), cf_ru_ne (by omega)]) (fun _ _ _ => rfl) (by omega) (fun i hi => ⟨5, by decide, by rw [show i = 0 by omega, cf_ru_ne (by unfold rx_ct; omega)]; exact cf_ru_eq⟩))
          have hw2 : ∀ u, S 4 c ≤ u → u < S2 4 c → (rx_u (rx_u hi2 (rx_ct c + 1) (S1 4 c) (nI 5)) 77 13 (nI r)) (rx_ct c + 1) u = nI (S2 (20 + c) u) := by
            intro u h1 h2
            rw [e42] at h2
            rw [cf_ru_ne (by unfold rx_ct; omega), ← hS2e, cf_app_w]
            by_cases q : u = S1 4 c
            · subst q; rw [cf_ru_eq, if_neg (by omega)]
            · rw [cf_ru_ne (by omega), if_pos (by omega)]; exact hw1 u h1 (by omega)
          have ez : (rx_u (rx_u hi2 (rx_ct c + 1) (S1 4 c) (nI 5)) 77 13 (nI r)) 77 13 = nI (cf_ds S2 c (S2 4 c)) := by rw [cf_ru_eq, e42, hds2]
          rw [ez, ← e42]
          refine g63 (S1 := S2) hX3 G hc h5 G2 V2 Gd2 nd2 FC3 Fv2 (fun q => by rw [h2f] at q; cases q) hw2 ns2 (fun h => k0 ?_) (fun S4 h => k1 S4 ?_)
          · rw [hpl, hgo]; show (cf_do1 S1 c 5).bind _ = none; rw [hdo]; exact h
          · rw [hpl, hgo]; show (cf_do1 S1 c 5).bind _ = _; rw [hdo]; exact h
end RXE
