/-! check: from a tick to the next. -/
section CFU
variable {S : cf_S} {c T nl u s : Nat} {tm : Nat → Nat} {pl : Nat → Nat} {bf sw : Int64}
theorem cf_ci_vs (V' : cf_V (cf_fw2 S c T tm)) (hc : c < S 0 2) (I : cf_ci S c T nl tm u s pl bf sw) : cf_vs (S 0 0) (S 0 1) (cf_two (S 3 c)) s ∧ s / 256 ≤ S 0 3 := by
  have r : ∀ a b, ¬ a = 4 → a < 20 → cf_fw2 S c T tm a b = S a b := fun a b h h2 => cf_fw2_r (by omega) (by omega)
  have := (cf_vv V' (c + 1) nl u).1 c (by rw [r 0 _ (by omega) (by omega)]; exact hc)
  rw [I.2.1, r 0 _ (by omega) (by omega), r 0 _ (by omega) (by omega), r 0 _ (by omega) (by omega), r 3 _ (by omega) (by omega)] at this
  exact this
theorem cf_ci_nomeet (V : cf_V S) (G : cf_G S) (V' : cf_V (cf_fw2 S c T tm)) (hc : c < S 0 2) (I : cf_ci S c T nl tm u s pl bf sw) (ht : cf_jt S c T tm u s pl bf sw = false) {o : Nat} (ho : o < S 0 2) (hne : ¬ o = c) : ¬ cf_ds S o u % 64 = s % 64 := by
  have hwh := cf_V_wh V
  intro e
  unfold cf_jt at ht
  rw [Bool.or_eq_false_iff] at ht
  have h2 := ht.2
  unfold cf_mts at h2
  rw [cf_not_true, cf_any_iff] at h2
  refine h2 ⟨o, ho, ?_⟩
  rw [decide_eq_false hne, Bool.not_false, Bool.true_and, Bool.or_eq_true, decide_eq_true_iff, cf_dj]
  left
  intro h
  refine h (s % 64) ?_ ?_
  · unfold cf_hd
    have := cf_sd_at V G ho u
    rw [e] at this
    rw [cf_hor, cf_hor, this]; rfl
  · rw [cf_hor, cf_hor, cf_std_at hwh (cf_ci_vs V' hc I).1]; rfl
theorem cf_ci_nofit (V : cf_V S) (V' : cf_V (cf_fw2 S c T tm)) (hc : c < S 0 2) (I : cf_ci S c T nl tm u s pl bf sw) (ht : cf_jt S c T tm u s pl bf sw = false) (hl : ¬ s / 256 = 0) {f : Nat} (hf : f < S 0 3) (hfo : cf_fo S c f = true) : ¬ cf_sp S u f = s % 64 := by
  have hwh := cf_V_wh V
  intro e
  unfold cf_jt at ht
  rw [Bool.or_eq_false_iff, Bool.not_eq_false'] at ht
  have h1 := ht.1
  unfold cf_jf at h1
  rw [Bool.and_eq_true, Bool.or_eq_true, decide_eq_true_iff, decide_eq_true_iff, Bool.not_eq_true', cf_not_true, cf_any_iff] at h1
  rcases h1.2 with q | q
  · exact hl q.2
  · refine q ⟨f, hf, ?_⟩
    unfold cf_jo
    rw [if_pos hfo, e, cf_hor, cf_hor, cf_std_at hwh (cf_ci_vs V' hc I).1, decide_eq_false]
    · rfl
    · intro z
      have := (I.2.2.2.2.1 hl).1
      rw [← z, Nat.add_sub_cancel, hfo] at this; cases this
/-- the others go on as before -/
theorem cf_ci_on (V : cf_V S) (G : cf_G S) (hc : c < S 0 2) (I : cf_ci S c T nl tm u s pl bf sw) {o : Nat} (ho : o < S 0 2) (hne : ¬ o = c) : cf_vt (cf_fw2 S c T tm) (c + 1) nl (u + 1) o = cf_st S (u + 1) o := by
  have r : ∀ a b, ¬ a = 4 → a < 20 → cf_fw2 S c T tm a b = S a b := fun a b h h2 => cf_fw2_r (by omega) (by omega)
  have e0 : cf_vt (cf_fw2 S c T tm) (c + 1) nl (u + 1) o = (cf_aft (cf_fw2 S c T tm 0 0) (cf_fw2 S c T tm 0 1) (cf_fw2 S c T tm 1) (cf_fw2 S c T tm 3 o) (cf_vt (cf_fw2 S c T tm) (c + 1) nl u o) (cf_mt (cf_fw2 S c T tm) o u) (bif cf_al (c + 1) nl o (cf_lie (cf_fw2 S c T tm 0 2) (cf_fw2 S c T tm 0 3) (cf_vt (cf_fw2 S c T tm) (c + 1) nl u) (cf_vp (cf_fw2 S c T tm) (c + 1) nl u) (cf_vt (cf_fw2 S c T tm) (c + 1) nl u o % 64)) then (cf_lie (cf_fw2 S c T tm 0 2) (cf_fw2 S c T tm 0 3) (cf_vt (cf_fw2 S c T tm) (c + 1) nl u) (cf_vp (cf_fw2 S c T tm) (c + 1) nl u) (cf_vt (cf_fw2 S c T tm) (c + 1) nl u o % 64)) else 0)).getD (cf_vt (cf_fw2 S c T tm) (c + 1) nl u o) := rfl
  have eal : ∀ x, cf_al (c + 1) nl o x = true := fun x => by unfold cf_al; rw [decide_eq_false (by omega)]; rfl
  rw [e0, eal, cond_true, cf_bc_1 cf_fw2_bc, cf_bc_mt cf_fw2_bc hne, I.1 u (Nat.le_refl u) o ho hne, cf_dec_st V G ho, cf_dec_st V G ho]
  rw [r 0 0 (by omega) (by omega), r 0 1 (by omega) (by omega), r 0 2 (by omega) (by omega), r 0 3 (by omega) (by omega), r 3 _ (by omega) (by omega), cf_ds]
  by_cases h5 : cf_mt S o u = 5
  · have ht : u < S 4 o := by
      rcases Nat.lt_or_ge u (S 4 o) with q | q
      · exact q
      · rw [cf_mt_out q] at h5; cases h5
    have h5' := h5
    rw [cf_mt_in ht] at h5'
    rcases cf_ds_ld V G ho u with ⟨_, _, hk, h0, hl, enx⟩ | ⟨_, q, _⟩ | ⟨q, _⟩
    · have hf : S 6 o - 1 < S 0 3 := by have := (V.2.2.2.2.2.2.1 o ho).2.2.2.2.2.1; omega
      have hq := (G.2.2.2.2.1 o ho u ht).2.1 h5'
      have hown := cf_own6 G ho (by omega)
      have hfo : cf_fo S c (S 6 o - 1) = true := cf_fo_of V G (u := u + 1) ho hne (by rw [enx]; omega)
      have hnl : ¬ cf_lifted S o u := fun z => by have := (cf_lifted_dn V G ho u z h0).2; omega
      have hsp := (cf_sp_ex V G (s := S 6 o - 1) ho (by omega) u).2 hnl
      have elie : cf_lie (S 0 2) (S 0 3) (cf_vt (cf_fw2 S c T tm) (c + 1) nl u) (cf_vp (cf_fw2 S c T tm) (c + 1) nl u) (cf_ds S o u % 64) = S 6 o := by
        have hp : ∀ x, x < S 0 3 → ((decide (cf_vp (cf_fw2 S c T tm) (c + 1) nl u x = cf_ds S o u % 64) && !cf_any (fun c' => decide (cf_vt (cf_fw2 S c T tm) (c + 1) nl u c' / 256 = x + 1)) (S 0 2)) = true ↔ x = S 6 o - 1) := by
          intro x hx
          rw [Bool.and_eq_true, decide_eq_true_iff, Bool.not_eq_true', cf_not_true, cf_any_iff]
          constructor
          · rintro ⟨g1, g2⟩
            by_cases hxo : cf_fo S c x = true
            · rw [I.2.2.1 x hx hxo] at g1
              obtain ⟨o', ho', hne', hown'⟩ := cf_fo_own V G hxo
              rcases (cf_dec0 V G u).2.2 x hx with q | ⟨c', hc', hw, q⟩
              · exact G.1 x _ hx hf (by rw [← q, g1, hq])
              · have hcc : ¬ c' = c := fun z => by
                  subst z
                  exact G.2.2.2.1 c' o' hc' ho' (fun z => hne' z.symm) (by omega) (by omega)
                rcases q with q | ⟨hd, hE, q⟩
                · exact absurd ⟨c', hc', decide_eq_true (by rw [I.1 u (Nat.le_refl u) c' hc' hcc, cf_dec_st V G hc']; exact q)⟩ g2
                · by_cases e : o = c'
                  · subst e; omega
                  · exact absurd (by rw [← g1, q]) (G.2.2.2.2.2 o c' u ho hc' e ht h5' hd hE)
            · have hxo : cf_fo S c x = false := by rw [cf_not_true]; exact hxo
              rw [I.2.2.2.1 x hx hxo] at g1
              exfalso
              refine I.2.2.2.2.2.1 o (S 6 o - 1) x ho hne hf (by omega) hfo hnl hx hxo (fun z => g2 ⟨c, hc, decide_eq_true (by rw [I.2.1]; exact z.symm)⟩) (by rw [g1, hq])
          · intro e
            subst e
            refine ⟨by rw [I.2.2.1 _ hf hfo, hsp, hq], ?_⟩
            rintro ⟨c', hc', e⟩
            have e := of_decide_eq_true e
            by_cases hcc : c' = c
            · subst hcc
              rw [I.2.1] at e
              have := (I.2.2.2.2.1 (by omega)).1
              rw [show s / 256 - 1 = S 6 o - 1 by omega, hfo] at this; cases this
            · rw [I.1 u (Nat.le_refl u) c' hc' hcc, cf_dec_st V G hc'] at e
              have o2 := (cf_ds_v V G hc' u).2
              by_cases ee : c' = o
              · subst ee; omega
              · exact G.2.2.2.1 o c' ho hc' (fun q => ee q.symm) (by omega) (by omega)
        obtain ⟨f, hf'⟩ : ∃ f, S 6 o = f + 1 := ⟨S 6 o - 1, by omega⟩
        rw [hf']
        rw [hf', Nat.add_sub_cancel] at hp
        refine cf_ff_at (cf_ff_zero (fun x hx => ?_)) ((hp f (by omega)).mpr rfl) _ (by omega)
        rw [cf_not_true]
        intro q
        have := (hp x (by omega)).mp q
        omega
      rw [elie]
    · rw [h5'] at q; cases q
    · exact absurd h5 q
  · rw [cf_aft_l h5]
/-- no SHELF but its own is carried by the others -/
theorem cf_ci_nc (V : cf_V S) (G : cf_G S) {o x u' : Nat} (ho : o < S 0 2) (hne : ¬ o = c) (hxo : cf_fo S c x = false) : ¬ cf_st S u' o / 256 = x + 1 := by
  intro e
  rw [cf_dec_st V G ho] at e
  rw [cf_fo_of V G ho hne e] at hxo; cases hxo
/-- what the MOVE of the cart itself leads to -/
theorem cf_ci_cn (V : cf_V S) (G : cf_G S) (V' : cf_V (cf_fw2 S c T tm)) (hnl : ∀ s, nl.testBit s = cf_fo S c s) (hc : c < S 0 2) (I : cf_ci S c T nl tm u s pl bf sw) (ht : cf_jt S c T tm u s pl bf sw = false) : cf_nr (cf_fw2 S c T tm) (c + 1) nl (cf_v (cf_fw2 S c T tm) (c + 1) nl u).1 (cf_v (cf_fw2 S c T tm) (c + 1) nl u).2 u c = cf_aft (S 0 0) (S 0 1) (S 1) (S 3 c) s (cf_tmv T tm u) (cf_jl S c pl s) := by
  have r : ∀ a b, ¬ a = 4 → a < 20 → cf_fw2 S c T tm a b = S a b := fun a b h h2 => cf_fw2_r (by omega) (by omega)
  unfold cf_nr
  show cf_aft (cf_fw2 S c T tm 0 0) (cf_fw2 S c T tm 0 1) (cf_fw2 S c T tm 1) (cf_fw2 S c T tm 3 c) (cf_vt (cf_fw2 S c T tm) (c + 1) nl u c) (cf_mt (cf_fw2 S c T tm) c u) (bif cf_al (c + 1) nl c (cf_lie (cf_fw2 S c T tm 0 2) (cf_fw2 S c T tm 0 3) (cf_vt (cf_fw2 S c T tm) (c + 1) nl u) (cf_vp (cf_fw2 S c T tm) (c + 1) nl u) (cf_vt (cf_fw2 S c T tm) (c + 1) nl u c % 64)) then (cf_lie (cf_fw2 S c T tm 0 2) (cf_fw2 S c T tm 0 3) (cf_vt (cf_fw2 S c T tm) (c + 1) nl u) (cf_vp (cf_fw2 S c T tm) (c + 1) nl u) (cf_vt (cf_fw2 S c T tm) (c + 1) nl u c % 64)) else 0) = _
  rw [I.2.1, cf_bc_1 cf_fw2_bc, cf_fw2_mt, r 0 0 (by omega) (by omega), r 0 1 (by omega) (by omega), r 0 2 (by omega) (by omega), r 0 3 (by omega) (by omega), r 3 _ (by omega) (by omega)]
  by_cases h5 : cf_tmv T tm u = 5
  · by_cases hl : s / 256 = 0
    · -- what may be lifted
      have key : (bif cf_al (c + 1) nl c (cf_lie (S 0 2) (S 0 3) (cf_vt (cf_fw2 S c T tm) (c + 1) nl u) (cf_vp (cf_fw2 S c T tm) (c + 1) nl u) (s % 64)) then (cf_lie (S 0 2) (S 0 3) (cf_vt (cf_fw2 S c T tm) (c + 1) nl u) (cf_vp (cf_fw2 S c T tm) (c + 1) nl u) (s % 64)) else 0) = cf_jl S c pl s := by
        -- a SHELF of its own lies free
        have free : ∀ x, x < S 0 3 → cf_fo S c x = false → pl x = s % 64 → (decide (cf_vp (cf_fw2 S c T tm) (c + 1) nl u x = s % 64) && !cf_any (fun c' => decide (cf_vt (cf_fw2 S c T tm) (c + 1) nl u c' / 256 = x + 1)) (S 0 2)) = true := by
          intro x hx hxo hp
          rw [Bool.and_eq_true, decide_eq_true_iff, Bool.not_eq_true', cf_not_true, cf_any_iff, I.2.2.2.1 x hx hxo]
          refine ⟨hp, ?_⟩
          rintro ⟨c', hc', e⟩
          have e := of_decide_eq_true e
          by_cases hcc : c' = c
          · subst hcc; rw [I.2.1] at e; omega
          · rw [I.1 u (Nat.le_refl u) c' hc' hcc] at e
            exact cf_ci_nc V G hc' hcc hxo e
        cases hz : cf_lie (S 0 2) (S 0 3) (cf_vt (cf_fw2 S c T tm) (c + 1) nl u) (cf_vp (cf_fw2 S c T tm) (c + 1) nl u) (s % 64) with
        | zero =>
          have : cf_jl S c pl s = 0 := by
            unfold cf_jl
            refine cf_ff_zero (fun x hx => ?_)
            rw [cf_not_true]
            intro q
            rw [Bool.and_eq_true, Bool.not_eq_true', decide_eq_true_iff] at q
            have := free x hx q.1 q.2
            have z := cf_ff_0 hz hx
            rw [this] at z; cases z
          rw [this]
          cases cf_al (c + 1) nl c 0 <;> rfl
        | succ z =>
          obtain ⟨z1, z2, z3⟩ := cf_ff_some hz
          have z2' := z2
          rw [Bool.and_eq_true, decide_eq_true_iff, Bool.not_eq_true', cf_not_true, cf_any_iff] at z2'
          by_cases hzo : cf_fo S c z = true
          · have ea : cf_al (c + 1) nl c (z + 1) = false := by
              unfold cf_al
              rw [Nat.add_sub_cancel, hnl, hzo, decide_eq_true rfl]; rfl
            rw [ea, cond_false]
            unfold cf_jl
            symm
            refine cf_ff_zero (fun x hx => ?_)
            rw [cf_not_true]
            intro q
            rw [Bool.and_eq_true, Bool.not_eq_true', decide_eq_true_iff] at q
            obtain ⟨o, ho, hne, hown⟩ := cf_fo_own V G hzo
            have ez := z2'.1
            rw [I.2.2.1 z z1 hzo] at ez
            by_cases hlf : cf_lifted S o u
            · rw [(cf_sp_ex V G ho hown u).1 hlf] at ez
              exact cf_ci_nomeet V G V' hc I ht ho hne ez
            · rw [(cf_sp_ex V G ho hown u).2 hlf] at ez
              exact I.2.2.2.2.2.1 o z x ho hne z1 hown hzo hlf hx q.1 (by omega) (by rw [q.2, ez])
          · have hzo : cf_fo S c z = false := by rw [cf_not_true]; exact hzo
            have ea : cf_al (c + 1) nl c (z + 1) = true := by
              unfold cf_al
              rw [Nat.add_sub_cancel, hnl, hzo, Bool.and_false]; rfl
            rw [ea, cond_true]
            have ez := z2'.1
            rw [I.2.2.2.1 z z1 hzo] at ez
            unfold cf_jl
            symm
            refine cf_ff_at (cf_ff_zero (fun x hx => ?_)) (by rw [hzo, decide_eq_true ez]; rfl) _ z1
            rw [cf_not_true]
            intro q
            rw [Bool.and_eq_true, Bool.not_eq_true', decide_eq_true_iff] at q
            have := free x (by omega) q.1 q.2
            rw [z3 x hx] at this; cases this
      rw [key]
    · unfold cf_aft
      have h45 : ¬ (5 : Nat) ≤ 4 := by omega
      rw [h5, if_neg h45, if_neg h45]
      by_cases hk : S 3 c = 1
      · rw [if_pos hk, if_pos hk, if_pos rfl, if_pos rfl, if_neg (fun q => hl q.1), if_neg (fun q => hl q.1)]
      · rw [if_neg hk, if_neg hk]
  · rw [cf_aft_l h5]
end CFU
