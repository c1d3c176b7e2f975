/-! What go and does of the reference leave, and when they do. -/
theorem cf_mta_ns {S : cf_S} {c f : Nat} (h : cf_mta (S 0 2) (cf_sd S) (cf_hd S) c f = false) : f = 0 ∨ ∀ o, o < S 0 2 → ¬ o = c → cf_swap (cf_sd S (f - 1) c) (cf_sd S f c) (cf_sd S (f - 1) o) (cf_sd S f o) = false := by
  by_cases hf : f = 0
  · exact Or.inl hf
  · right
    intro o ho e
    rw [cf_not_true]
    intro q
    unfold cf_mta at h
    have := cf_any_true (p := fun o => !decide (o = c) && cf_mtg (cf_sd S) (cf_hd S) c o f) ho (by
      show (!decide (o = c) && cf_mtg (cf_sd S) (cf_hd S) c o f) = true
      unfold cf_mtg
      rw [decide_eq_false e, q, decide_eq_true (show 0 < f by omega), Bool.and_self, Bool.or_true]; rfl)
    rw [this] at h; cases h
theorem cf_bc_blk {S S' : cf_S} {c : Nat} (V : cf_V S) (G : cf_G S) (V' : cf_V S') (G' : cf_G S') (B : cf_bc S S' c) (hc : c < S 0 2) {l : Nat} (hl : l = 0 ∨ l = cf_own S c) (u : Nat) : cf_blk S' c l u = cf_blk S c l u := by
  apply cf_ext
  intro q hq
  rw [cf_blk_gT hq, cf_blk_gT hq, cf_bc_gT V G V' G' B hc hl, B 0 0 (by omega) (by omega) (by omega) (by omega), B 0 1 (by omega) (by omega) (by omega) (by omega)]
theorem cf_sd_sq {S : cf_S} (V : cf_V S) {u o : Nat} (ho : o < S 0 2) : cf_has (cf_sd S u o) (cf_st S u o % 64) = true := by
  have hv := ((cf_wv V u).1 o ho).1
  unfold cf_sd
  cases h2 : cf_two (S 3 o) with
  | false => exact cf_std1.mpr rfl
  | true =>
    rw [h2] at hv
    cases e : cf_step (S 0 0) (S 0 1) (cf_st S u o % 64) (cf_opp (cf_st S u o / 64 % 4)) with
    | none => exact absurd e (hv.2 rfl)
    | some b => exact (cf_std2 (cf_V_wh V) hv.1 e).mpr (Or.inl rfl)
set_option maxRecDepth 100000 in
theorem cf_go1_some {S S1 : cf_S} (V : cf_V S) (G : cf_G S) {c tg wt : Nat} {last : Bool} (hc : c < S 0 2) (nd : ¬ cf_dn S c) (h : cf_go1 S c tg wt last = some S1) :
    ∃ n sg, cf_gn S (cf_st S) (cf_sp S) (cf_sd S) (cf_hd S) c (S 4 c) (cf_st S (S 4 c) c) tg wt last = n + 1 ∧ S1 = cf_app S c n (cf_gm S (cf_st S) (cf_sp S) (cf_sd S) (cf_hd S) c (S 4 c) (cf_st S (S 4 c) c) tg wt last n) ∧ S 4 c + n ≤ 400 ∧ cf_V S1 ∧ cf_G S1 ∧ ¬ cf_dn S1 c
      ∧ sg = cf_pth S (cf_gT S (cf_sp S) (cf_hd S) c (cf_st S (S 4 c) c / 256)) (cf_sd S) c (S 4 c) (cf_st S (S 4 c) c % 256) n (fun x => cf_gl S (cf_st S) (cf_sp S) (cf_gL S (cf_sp S) (cf_hd S) c (cf_st S (S 4 c) c / 256)) c tg wt last x (S 4 c + n))
      ∧ (∀ i, i ≤ n → cf_ds S1 c (S 4 c + i) = cf_ds S c (S 4 c) / 256 * 256 + sg i ∧ sg i < 256 ∧ (cf_std (S 0 0) (S 0 1) (cf_two (S 3 c)) (sg i) &&& cf_gT S (cf_sp S) (cf_hd S) c (cf_st S (S 4 c) c / 256) (S 4 c + i)) = 0)
      ∧ (∀ i, i < n → cf_may S (cf_gT S (cf_sp S) (cf_hd S) c (cf_st S (S 4 c) c / 256)) (cf_sd S) c (S 4 c + i) (sg i) (cf_gm S (cf_st S) (cf_sp S) (cf_sd S) (cf_hd S) c (S 4 c) (cf_st S (S 4 c) c) tg wt last n i) = some (sg (i + 1)) ∧ cf_gm S (cf_st S) (cf_sp S) (cf_sd S) (cf_hd S) c (S 4 c) (cf_st S (S 4 c) c) tg wt last n i < 5)
      ∧ sg n % 64 = tg ∧ (last = true → (cf_std (S 0 0) (S 0 1) (cf_two (S 3 c)) (sg n) &&& cf_gL S (cf_sp S) (cf_hd S) c (cf_st S (S 4 c) c / 256) (S 4 c + n)) = 0) := by
  have hwh := cf_V_wh V
  have h400 := (V.2.2.2.2.2.2.1 c hc).2.2.2.1
  have hv0 := (cf_wv V (S 4 c)).1 c hc
  unfold cf_go1 at h
  split at h
  · rename_i hcond
    obtain ⟨hfit, hmta, hgn⟩ := hcond
    obtain ⟨n, hn⟩ : ∃ n, cf_gn S (cf_st S) (cf_sp S) (cf_sd S) (cf_hd S) c (S 4 c) (cf_st S (S 4 c) c) tg wt last = n + 1 := ⟨_, (Nat.succ_pred_eq_of_pos hgn).symm⟩
    rw [hn, Nat.add_sub_cancel] at h
    have h := (Option.some_inj.mp h).symm
    obtain ⟨htl, hnb⟩ := cf_gn_tl hn
    have h0 : cf_vs (S 0 0) (S 0 1) (cf_two (S 3 c)) (cf_st S (S 4 c) c % 256) ∧ cf_st S (S 4 c) c % 256 < 256 := ⟨cf_vs_m.mpr hv0.1, by omega⟩
    have hst := (cf_start V hc (cf_mta_ns hmta)).mpr ⟨hfit, hmta⟩
    have hfr : (cf_std (S 0 0) (S 0 1) (cf_two (S 3 c)) (cf_st S (S 4 c) c % 256) &&& cf_gT S (cf_sp S) (cf_hd S) c (cf_st S (S 4 c) c / 256) (S 4 c)) = 0 := by
      rw [cf_std_m, cf_dj]
      intro p hp q
      have hpl := cf_std_in hwh hv0.1 p hp
      have := cf_dj.mp (cf_dj_or.mp hst).1 p hp
      rw [cf_blk_gT (by omega), q, Bool.or_true] at this
      exact this rfl
    have hok := cf_pth_ok (fun i x hx => (cf_lr_vs V h0 i x hx).2) htl
    refine ⟨n, _, hn, h, by omega, ?_, ?_, ?_, rfl, ?_, ?_, ?_, ?_⟩
    · rw [h]
      refine cf_V_app V (by omega) (fun i hi => ?_)
      have := ((hok i (by omega)).2.2 hi).1
      unfold cf_gm; omega
    all_goals generalize hsg : cf_pth S (cf_gT S (cf_sp S) (cf_hd S) c (cf_st S (S 4 c) c / 256)) (cf_sd S) c (S 4 c) (cf_st S (S 4 c) c % 256) n (fun x => cf_gl S (cf_st S) (cf_sp S) (cf_gL S (cf_sp S) (cf_hd S) c (cf_st S (S 4 c) c / 256)) c tg wt last x (S 4 c + n)) = sg at *
    all_goals
      have hmu : ∀ i, i < n → cf_gm S (cf_st S) (cf_sp S) (cf_sd S) (cf_hd S) c (S 4 c) (cf_st S (S 4 c) c) tg wt last n i < 5 ∧ cf_may S (cf_gT S (cf_sp S) (cf_hd S) c (cf_st S (S 4 c) c / 256)) (cf_sd S) c (S 4 c + i) (sg i) (cf_gm S (cf_st S) (cf_sp S) (cf_sd S) (cf_hd S) c (S 4 c) (cf_st S (S 4 c) c) tg wt last n i) = some (sg (i + 1)) := fun i hi => ⟨((hok i (by omega)).2.2 hi).1, ((hok i (by omega)).2.2 hi).2.1⟩
      have hlr : ∀ i, i ≤ n → cf_lr (cf_may S (cf_gT S (cf_sp S) (cf_hd S) c (cf_st S (S 4 c) c / 256)) (cf_sd S) c) (S 4 c) (cf_st S (S 4 c) c % 256) i (sg i) = true := fun i hi => (hok i hi).1
      have hs0 : sg 0 = cf_ds S c (S 4 c) % 256 := by rw [← hsg, ← cf_dec_st V G hc]; rfl
      have hsl : ∀ i, i ≤ n → sg i < 256 := fun i hi => (cf_lr_vs V h0 i _ (hlr i hi)).2
      have hds : ∀ i, i ≤ n → cf_ds S1 c (S 4 c + i) = cf_ds S c (S 4 c) / 256 * 256 + sg i := by
        intro i
        induction i with
        | zero => intro _; rw [h, Nat.add_zero, cf_app_ds _ (Nat.le_refl _), hs0]; omega
        | succ i ih =>
          intro hi
          have hx := ih (by omega)
          have hl := hsl i (by omega)
          rw [← Nat.add_assoc, cf_ds, hx, h, cf_app_mt2 (by omega), cf_bc_1 cf_app_bc, cf_app_bc 0 0 (by omega) (by omega) (by omega) (by omega), cf_app_bc 0 1 (by omega) (by omega) (by omega) (by omega), cf_app_bc 3 c (by omega) (by omega) (by omega) (by omega)]
          unfold cf_aft
          rw [if_pos (by have := (hmu i (by omega)).1; omega), ← cf_mv_m, show (cf_ds S c (S 4 c) / 256 * 256 + sg i) % 256 = sg i by omega, (cf_may_iff.mp (hmu i (by omega)).2).1, show (cf_ds S c (S 4 c) / 256 * 256 + sg i) / 256 = cf_ds S c (S 4 c) / 256 by omega]
          rfl
    · -- as good as before
      rw [h]
      refine cf_G_app G hc nd (fun i hi => ⟨?_, fun q => ?_, fun q => ?_⟩) (fun i hi q => ?_) (fun h0n q => ?_)
      · unfold cf_dx
        rw [← h, hds i (by omega), h, cf_app_mt2 hi, cf_bc_1 cf_app_bc, cf_app_bc 0 0 (by omega) (by omega) (by omega) (by omega), cf_app_bc 0 1 (by omega) (by omega) (by omega) (by omega), cf_app_bc 3 c (by omega) (by omega) (by omega) (by omega)]
        unfold cf_aft
        rw [if_pos (by have := (hmu i hi).1; omega), ← cf_mv_m, show (cf_ds S c (S 4 c) / 256 * 256 + sg i) % 256 = sg i by have := hsl i (by omega); omega, (cf_may_iff.mp (hmu i hi).2).1]
        simp
      · have := (hmu i hi).1; omega
      · have := (hmu i hi).1; omega
      · have := (hmu i hi).1; omega
      · have := (hmu (n - 1) (by omega)).1; omega
    · rw [h]
      rintro ⟨d1, d2⟩
      rw [cf_app_4] at d1 d2
      rw [cf_app_w] at d2
      by_cases hn0 : n = 0
      · rw [if_pos (by omega), hn0, Nat.add_zero] at d2
        exact nd ⟨by omega, d2⟩
      · rw [if_neg (by omega), show S 4 c + n - 1 - S 4 c = n - 1 by omega] at d2
        have := (hmu (n - 1) (by omega)).1
        omega
    · intro i hi
      exact ⟨hds i hi, hsl i hi, cf_lr_free V h0 hfr i _ (hlr i hi)⟩
    · intro i hi
      exact ⟨(hmu i hi).2, (hmu i hi).1⟩
    all_goals
      have hgl : cf_gl S (cf_st S) (cf_sp S) (cf_gL S (cf_sp S) (cf_hd S) c (cf_st S (S 4 c) c / 256)) c tg wt last (sg n) (S 4 c + n) = true := by
        have := (hok n (Nat.le_refl _)).2.1
        rw [Nat.sub_self, cf_tl, hlr n (Nat.le_refl _), Bool.true_and] at this
        cases hb : cf_gl S (cf_st S) (cf_sp S) (cf_gL S (cf_sp S) (cf_hd S) c (cf_st S (S 4 c) c / 256)) c tg wt last (sg n) (S 4 c + n) with
        | true => rfl
        | false => rw [hb] at this; exact absurd this (by simp)
      unfold cf_gl at hgl
      rw [Bool.and_eq_true, Bool.and_eq_true, decide_eq_true_iff, Bool.or_eq_true, decide_eq_true_iff] at hgl
    · exact hgl.1.1
    · intro hlast
      have q := hgl.2
      rw [hlast, Bool.not_true, Bool.false_or, decide_eq_true_iff] at q
      exact q
  · cases h
/-- letting down what isn't there, or where it may not be -/
theorem cf_do1_6n {S1 : cf_S} (V1 : cf_V S1) (G1 : cf_G S1) {c : Nat} (hc : c < S1 0 2) (e : cf_aft (S1 0 0) (S1 0 1) (S1 1) (S1 3 c) (cf_ds S1 c (S1 4 c)) 6 (S1 6 c) = none) : cf_do1 S1 c 6 = none := by
  unfold cf_do1
  rw [if_neg]
  rintro ⟨_, h⟩
  unfold cf_dok at h
  rw [Bool.and_eq_true, Bool.and_eq_true] at h
  have hm := h.1.1
  have e0 : cf_made (cf_app S1 c 1 (fun _ => 6)) (S1 4 c) c = (cf_nx (cf_app S1 c 1 (fun _ => 6)) (cf_w (cf_app S1 c 1 (fun _ => 6)) (S1 4 c)) (S1 4 c) c).isSome := rfl
  rw [e0, cf_app_pre _ (Nat.le_refl _)] at hm
  unfold cf_nx at hm
  have hmt : cf_mt (cf_app S1 c 1 (fun _ => 6)) c (S1 4 c) = 6 := cf_app_mt2 (i := 0) (by decide)
  have hst : (cf_w S1 (S1 4 c)).1 c = cf_ds S1 c (S1 4 c) := cf_dec_st V1 G1 hc
  rw [hmt, hst, cf_bc_1 cf_app_bc, cf_app_bc 0 0 (by omega) (by omega) (by omega) (by omega), cf_app_bc 0 1 (by omega) (by omega) (by omega) (by omega), cf_app_bc 3 c (by omega) (by omega) (by omega) (by omega), cf_aft_l (l' := S1 6 c) (by decide), e] at hm
  cases hm
theorem cf_do1_ok {S S1 : cf_S} (V : cf_V S) (G : cf_G S) (V1 : cf_V S1) (G1 : cf_G S1) {c m r : Nat} (hc : c < S 0 2) (B : cf_bc S S1 c) (nd : ¬ cf_dn S1 c) (hm : m = 5 ∨ m = 6) (ht : S1 4 c < 400) (e : cf_aft (S 0 0) (S 0 1) (S 1) (S 3 c) (cf_ds S1 c (S1 4 c)) m (S 6 c) = some r)
    (hf5 : m = 5 → cf_ds S1 c (S1 4 c) % 64 = S 12 (S 6 c - 1) ∧ ∀ o, o < S 0 2 → ¬ c = o → ¬ cf_ds S1 c (S1 4 c) % 64 = cf_ds S o (S1 4 c) % 64)
    (hf6 : m = 6 → ∀ o u, o < S 0 2 → ¬ o = c → S1 4 c < u → u < 402 → ¬ cf_ds S o u % 64 = cf_ds S1 c (S1 4 c) % 64) :
    cf_V (cf_app S1 c 1 (fun _ => m)) ∧ cf_G (cf_app S1 c 1 (fun _ => m)) ∧ cf_ds (cf_app S1 c 1 (fun _ => m)) c (S1 4 c + 1) = r ∧ (cf_do1 S1 c m = if (cf_std (S 0 0) (S 0 1) (cf_two (S 3 c)) r &&& cf_blk S c (r / 256) (S1 4 c + 1)) = 0 then some (cf_app S1 c 1 (fun _ => m)) else none) := by
  have hc1 : c < S1 0 2 := by rw [cf_bc_n B]; exact hc
  have hwh := cf_V_wh V
  have hv1 := (cf_ds_v V1 G1 hc1 (S1 4 c)).1
  have e0 : S1 0 0 = S 0 0 := B 0 0 (by omega) (by omega) (by omega) (by omega)
  have e1 : S1 0 1 = S 0 1 := B 0 1 (by omega) (by omega) (by omega) (by omega)
  have e3 : S1 3 c = S 3 c := B 3 c (by omega) (by omega) (by omega) (by omega)
  have e6 : S1 6 c = S 6 c := B 6 c (by omega) (by omega) (by omega) (by omega)
  have eg : S1 1 = S 1 := cf_bc_1 B
  have e' : cf_aft (S1 0 0) (S1 0 1) (S1 1) (S1 3 c) (cf_ds S1 c (S1 4 c)) m (S1 6 c) = some r := by rw [e0, e1, e3, e6, eg]; exact e
  rw [e0, e1] at hv1
  have hkr : S 3 c = 1 ∧ r % 256 = cf_ds S1 c (S1 4 c) % 256 := by
    rcases cf_aft_c hwh hv1.1 (by omega) e with ⟨q, _⟩ | ⟨_, hk, h0, _, er⟩ | ⟨_, hk, _, _, er⟩
    · omega
    · exact ⟨hk, by omega⟩
    · exact ⟨hk, by omega⟩
  have h2 : cf_two (S 3 c) = false := by rw [hkr.1]; rfl
  have V2 : cf_V (cf_app S1 c 1 (fun _ => m)) := cf_V_app V1 (by omega) (fun _ _ => by omega)
  have hmt : cf_mt (cf_app S1 c 1 (fun _ => m)) c (S1 4 c) = m := cf_app_mt2 (i := 0) (by decide)
  have hdx : cf_dx (cf_app S1 c 1 (fun _ => m)) c (S1 4 c) = some r := by
    unfold cf_dx
    rw [cf_app_ds _ (Nat.le_refl _), hmt, cf_bc_1 cf_app_bc, cf_app_bc 0 0 (by omega) (by omega) (by omega) (by omega), cf_app_bc 0 1 (by omega) (by omega) (by omega) (by omega), cf_app_bc 3 c (by omega) (by omega) (by omega) (by omega), cf_app_bc 6 c (by omega) (by omega) (by omega) (by omega)]
    exact e'
  have hds : cf_ds (cf_app S1 c 1 (fun _ => m)) c (S1 4 c + 1) = r := by
    have : cf_ds (cf_app S1 c 1 (fun _ => m)) c (S1 4 c + 1) = (cf_dx (cf_app S1 c 1 (fun _ => m)) c (S1 4 c)).getD (cf_ds (cf_app S1 c 1 (fun _ => m)) c (S1 4 c)) := rfl
    rw [this, hdx]; rfl
  have G2 : cf_G (cf_app S1 c 1 (fun _ => m)) := by
    refine cf_G_app G1 hc1 nd (fun i hi => ?_) (fun i hi q c' hc' hne => ?_) (fun _ q o u ho hne hu hu2 => ?_)
    · have : i = 0 := by omega
      subst this
      rw [Nat.add_zero]
      refine ⟨by rw [hdx]; exact fun q => (by cases q), fun q => ?_, fun _ => rfl⟩
      rw [cf_app_ds _ (Nat.le_refl _), e6, B 12 _ (by omega) (by omega) (by omega) (by omega)]
      exact (hf5 q).1
    · have : i = 0 := by omega
      subst this
      rw [Nat.add_zero, cf_app_ds _ (Nat.le_refl _), cf_bc_ds B (fun z => hne z.symm)]
      rw [cf_bc_n B] at hc'
      exact (hf5 q).2 c' hc' hne
    · rw [cf_bc_n B] at ho
      have h400 := (V1.2.2.2.2.2.2.1 o (by rw [cf_bc_n B]; exact ho)).2.2.2.1
      rw [cf_bc_ds B hne, cf_ds_E2 (S := cf_app S1 c 1 (fun _ => m)) (c := c) (t := S1 4 c + 1) (u := u) (by rw [cf_app_4]; exact Nat.le_refl _) (by omega), hds]
      have := hf6 q o u ho hne (by omega) (by omega)
      omega
  refine ⟨V2, G2, hds, ?_⟩
  have B2 : cf_bc S (cf_app S1 c 1 (fun _ => m)) c := by
    intro a b q1 q2 q3 q4
    rw [cf_app_bc a b q1 q2 q3 q4]; exact B a b q1 q2 q3 q4
  have hc2 : c < cf_app S1 c 1 (fun _ => m) 0 2 := by rw [cf_bc_n B2]; exact hc
  have est : cf_st (cf_app S1 c 1 (fun _ => m)) (S1 4 c + 1) c = r := by rw [cf_dec_st V2 G2 hc2, hds]
  have est0 : cf_st (cf_app S1 c 1 (fun _ => m)) (S1 4 c) c = cf_ds S1 c (S1 4 c) := by rw [cf_dec_st V2 G2 hc2, cf_app_ds _ (Nat.le_refl _)]
  have k2 : cf_app S1 c 1 (fun _ => m) 3 c = S 3 c := B2 3 c (by omega) (by omega) (by omega) (by omega)
  have k0 : cf_app S1 c 1 (fun _ => m) 0 0 = S 0 0 := B2 0 0 (by omega) (by omega) (by omega) (by omega)
  have k1 : cf_app S1 c 1 (fun _ => m) 0 1 = S 0 1 := B2 0 1 (by omega) (by omega) (by omega) (by omega)
  have hown : r / 256 = 0 ∨ r / 256 = cf_own S c := by
    have := (cf_ds_v V2 G2 hc2 (S1 4 c + 1)).2
    rw [hds, cf_bc_own B2] at this; exact this
  have ns : S1 4 c + 1 = 0 ∨ ∀ o, o < cf_app S1 c 1 (fun _ => m) 0 2 → ¬ o = c → cf_swap (cf_sd (cf_app S1 c 1 (fun _ => m)) (S1 4 c + 1 - 1) c) (cf_sd (cf_app S1 c 1 (fun _ => m)) (S1 4 c + 1) c) (cf_sd (cf_app S1 c 1 (fun _ => m)) (S1 4 c + 1 - 1) o) (cf_sd (cf_app S1 c 1 (fun _ => m)) (S1 4 c + 1) o) = false := by
    right
    intro o _ _
    rw [cf_not_true]
    have s1 : cf_sd (cf_app S1 c 1 (fun _ => m)) (S1 4 c + 1) c = cf_bt (r % 64) := by
      unfold cf_sd; rw [est, k2, h2]; rfl
    have s0 : cf_sd (cf_app S1 c 1 (fun _ => m)) (S1 4 c + 1 - 1) c = cf_bt (r % 64) := by
      unfold cf_sd
      rw [Nat.add_sub_cancel, est0, k2, h2]
      show cf_bt (cf_ds S1 c (S1 4 c) % 64) = _
      congr 1; omega
    rw [s0, s1, cf_swap_1 (by omega) (by omega)]
    rintro ⟨_, _, q⟩
    exact q rfl
  have hs := cf_start V2 hc2 ns
  rw [est, k2, k0, k1, h2, cond_false, cf_or0, cf_bc_blk V G V2 G2 B2 hc hown] at hs
  have k4 : cf_app S1 c 1 (fun _ => m) 0 2 = S1 0 2 := cf_bc_n cf_app_bc
  rw [k4] at hs
  have hd : cf_dok S1 c m = true ↔ (cf_std (S 0 0) (S 0 1) (cf_two (S 3 c)) r &&& cf_blk S c (r / 256) (S1 4 c + 1)) = 0 := by
    unfold cf_dok
    rw [h2, hs, cf_dec_made V2 G2 hc2, Bool.true_and, Bool.and_eq_true, Bool.not_eq_true']
  unfold cf_do1
  by_cases q : (cf_std (S 0 0) (S 0 1) (cf_two (S 3 c)) r &&& cf_blk S c (r / 256) (S1 4 c + 1)) = 0
  · rw [if_pos q, if_pos ⟨ht, hd.mpr q⟩]
  · rw [if_neg q, if_neg (fun z => q (hd.mp z.2))]
