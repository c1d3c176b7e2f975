/-! From a layer to the next: what the reference reaches, in the words of the class's sets. -/
theorem cf_may_iff {S : cf_S} {T : Nat → Int64} {sd : Nat → Nat → Int64} {c t s m r : Nat} : cf_may S T sd c t s m = some r ↔ cf_mv (S 0 0) (S 0 1) (cf_two (S 3 c)) s m = some r ∧ ((cf_std (S 0 0) (S 0 1) (cf_two (S 3 c)) s ||| cf_tq (S 0 0) (S 0 1) (S 3 c) s m) &&& T t) = 0 ∧ ((cf_std (S 0 0) (S 0 1) (cf_two (S 3 c)) r ||| cf_tq (S 0 0) (S 0 1) (S 3 c) s m) &&& T (t + 1)) = 0 ∧ ∀ o, o < S 0 2 → ¬ o = c → cf_swap (cf_std (S 0 0) (S 0 1) (cf_two (S 3 c)) s) (cf_std (S 0 0) (S 0 1) (cf_two (S 3 c)) r) (sd t o) (sd (t + 1) o) = false := by
  unfold cf_may
  cases e : cf_mv (S 0 0) (S 0 1) (cf_two (S 3 c)) s m with
  | none => simp
  | some r' =>
    dsimp only
    constructor
    · intro h
      cases hb : (decide (((cf_std (S 0 0) (S 0 1) (cf_two (S 3 c)) s ||| cf_tq (S 0 0) (S 0 1) (S 3 c) s m) &&& T t) = 0) && decide (((cf_std (S 0 0) (S 0 1) (cf_two (S 3 c)) r' ||| cf_tq (S 0 0) (S 0 1) (S 3 c) s m) &&& T (t + 1)) = 0) && !cf_any (fun o => !decide (o = c) && cf_swap (cf_std (S 0 0) (S 0 1) (cf_two (S 3 c)) s) (cf_std (S 0 0) (S 0 1) (cf_two (S 3 c)) r') (sd t o) (sd (t + 1) o)) (S 0 2)) with
      | false => rw [hb] at h; cases h
      | true =>
        rw [hb] at h
        cases h
        rw [Bool.and_eq_true, Bool.and_eq_true, decide_eq_true_iff, decide_eq_true_iff, Bool.not_eq_true'] at hb
        refine ⟨rfl, hb.1.1, hb.1.2, fun o ho hc => ?_⟩
        cases hs : cf_swap (cf_std (S 0 0) (S 0 1) (cf_two (S 3 c)) s) (cf_std (S 0 0) (S 0 1) (cf_two (S 3 c)) r) (sd t o) (sd (t + 1) o) with
        | false => rfl
        | true =>
          have := cf_any_true (p := fun o => !decide (o = c) && cf_swap (cf_std (S 0 0) (S 0 1) (cf_two (S 3 c)) s) (cf_std (S 0 0) (S 0 1) (cf_two (S 3 c)) r) (sd t o) (sd (t + 1) o)) ho (by show (!decide (o = c) && cf_swap (cf_std (S 0 0) (S 0 1) (cf_two (S 3 c)) s) (cf_std (S 0 0) (S 0 1) (cf_two (S 3 c)) r) (sd t o) (sd (t + 1) o)) = true; rw [hs, decide_eq_false hc]; rfl)
          rw [this] at hb; exact absurd hb.2 (by decide)
    · rintro ⟨h1, h2, h3, h4⟩
      cases h1
      rw [decide_eq_true h2, decide_eq_true h3, cf_any_false (fun o ho => ?_)]
      · rfl
      · by_cases q : o = c
        · rw [decide_eq_true q]; rfl
        · rw [h4 o ho q, Bool.and_false]
set_option maxRecDepth 100000 in
theorem cf_lr_iff {mv : Nat → Nat → Nat → Option Nat} {f s0 i s' : Nat} (hb : ∀ s, cf_lr mv f s0 i s = true → s < 256) : cf_lr mv f s0 (i + 1) s' = true ↔ ∃ s m, cf_lr mv f s0 i s = true ∧ m < 5 ∧ mv (f + i) s m = some s' := by
  rw [cf_lr, cf_any_iff]
  constructor
  · rintro ⟨r, hr, h⟩
    rw [Bool.and_eq_true, cf_any_iff] at h
    obtain ⟨h1, m, hm, h2⟩ := h
    exact ⟨cf_dec r, m, h1, hm, of_decide_eq_true h2⟩
  · rintro ⟨s, m, h1, hm, h2⟩
    refine ⟨cf_enc s, by unfold cf_enc; omega, ?_⟩
    rw [cf_dec_enc (hb s h1), h1, Bool.true_and, cf_any_iff]
    exact ⟨m, hm, decide_eq_true h2⟩
set_option maxRecDepth 100000 in
theorem cf_lr_free {S : cf_S} (V : cf_V S) {T : Nat → Int64} {sd : Nat → Nat → Int64} {c f s0 : Nat} (h0 : cf_vs (S 0 0) (S 0 1) (cf_two (S 3 c)) s0 ∧ s0 < 256) (h1 : (cf_std (S 0 0) (S 0 1) (cf_two (S 3 c)) s0 &&& T f) = 0) : ∀ i s, cf_lr (cf_may S T sd c) f s0 i s = true → (cf_std (S 0 0) (S 0 1) (cf_two (S 3 c)) s &&& T (f + i)) = 0
  | 0, s, h => by
    have : s = s0 := of_decide_eq_true h
    subst this; exact h1
  | i + 1, s, h => by
    rw [cf_lr_iff (fun s h => (cf_lr_vs V h0 i s h).2)] at h
    obtain ⟨s1, m, _, _, e⟩ := h
    exact (cf_dj_or.mp (cf_may_iff.mp e).2.2.1).1
theorem cf_gT_hd {S : cf_S} {sp : Nat → Nat → Nat} {hd : Nat → Nat → Int64} {c l u o p : Nat} (ho : o < S 0 2) (hc : ¬ o = c) (h : cf_has (hd u o) p = true) : cf_has (cf_gT S sp hd c l u) p = true := by
  have : cf_has (cf_othg (S 0 2) hd c u) p = true := by
    unfold cf_othg
    rw [cf_has_un]
    exact cf_any_true ho (by rw [if_neg hc]; exact h)
  unfold cf_gT
  rw [cf_hor, cf_hor, this, Bool.or_true, Bool.true_or]
/-- squares from which a step would change places -/
def cf_fcd (S : cf_S) (c f t d q : Nat) : Bool := decide (t < cf_clm S c f) && cf_any (fun o => !decide (o = c) && (cf_has (cf_sd S (t + 1) o) q && !cf_has (cf_sd S t o) q) && (match cf_step (S 0 0) (S 0 1) q d with
  | none => false
  | some p => cf_has (cf_sd S t o) p && !cf_has (cf_sd S (t + 1) o) p)) (S 0 2)
theorem cf_not_true {b : Bool} : b = false ↔ ¬ b = true := by cases b <;> decide
theorem cf_blk_free {S : cf_S} {c l u q : Nat} (hq : q < 64) : cf_has (cf_blk S c l u) q = false ↔ q < S 0 0 * S 0 1 ∧ cf_has (cf_gT S (cf_sp S) (cf_hd S) c l u) q = false := by
  rw [cf_blk_gT hq]
  by_cases h : q < S 0 0 * S 0 1
  · rw [decide_eq_false (fun g => g h), Bool.false_or]; exact ⟨fun g => ⟨h, g⟩, fun g => g.2⟩
  · rw [decide_eq_true h, Bool.true_or]; exact ⟨fun g => (by cases g), fun g => absurd g.1 h⟩
/-- carts of one square -/
theorem cf_adv1 {S : cf_S} (V : cf_V S) {c l f t : Nat} (hE : S 4 c ≤ f) (h2 : cf_two (S 3 c) = false) {ly : Nat → Bool} (hly : ∀ s, ly s = true → cf_vs (S 0 0) (S 0 1) (cf_two (S 3 c)) s ∧ s < 256 ∧ (cf_std (S 0 0) (S 0 1) (cf_two (S 3 c)) s &&& cf_gT S (cf_sp S) (cf_hd S) c l t) = 0) {q d : Nat} (hq : q < 64) (hd : d < 4) :
    (∃ s m, ly s = true ∧ m < 5 ∧ cf_may S (cf_gT S (cf_sp S) (cf_hd S) c l) (cf_sd S) c t s m = some (q + 64 * d)) ↔ (cf_has (cf_blk S c l (t + 1)) q = false ∧ (ly (q + 64 * d) = true ∨ ∃ s, ly s = true ∧ cf_step (S 0 0) (S 0 1) (s % 64) d = some q ∧ cf_fcd S c f t d (s % 64) = false)) := by
  have hwh := cf_V_wh V
  have hw := V.1.1
  have tq0 : ∀ s m, cf_tq (S 0 0) (S 0 1) (S 3 c) s m = 0 := fun s m => by unfold cf_tq; rw [h2]; rfl
  obtain ⟨g1, g2⟩ := cf_cod hq hd
  have free1 : ∀ s u, (cf_std (S 0 0) (S 0 1) (cf_two (S 3 c)) s &&& cf_gT S (cf_sp S) (cf_hd S) c l u) = 0 ↔ cf_has (cf_gT S (cf_sp S) (cf_hd S) c l u) (s % 64) = false := by
    intro s u
    rw [cf_dj, h2, cf_not_true]
    constructor
    · intro h; exact h _ (cf_std1.mpr rfl)
    · intro h p hp; rw [cf_std1.mp hp]; exact h
  constructor
  · rintro ⟨s, m, hs, hm, e⟩
    obtain ⟨v1, v2, v3⟩ := hly s hs
    obtain ⟨e1, e2, e3, e4⟩ := cf_may_iff.mp e
    have e5 := (cf_dj_or.mp e3).1
    rw [free1, g1] at e5
    have hvr := cf_mv_vs hwh v1 hm e1
    have hql : q < S 0 0 * S 0 1 := by have := hvr.1; rwa [g1] at this
    refine ⟨(cf_blk_free hq).mpr ⟨hql, e5⟩, ?_⟩
    rw [h2] at e1
    by_cases m0 : m = 0
    · subst m0
      rw [cf_mv_0] at e1
      left
      rw [← Option.some_inj.mp e1, Nat.mod_eq_of_lt v2]; exact hs
    · right
      unfold cf_mv at e1
      rw [if_neg m0, cond_false] at e1
      cases es : cf_step (S 0 0) (S 0 1) (s % 64) (m - 1) with
      | none => rw [es] at e1; cases e1
      | some p =>
        rw [es] at e1
        have e1 : p + 64 * (m - 1) = q + 64 * d := Option.some_inj.mp e1
        have hp64 := cf_step_64 hwh v1.1 es
        have ep : p = q := by omega
        have ed : m - 1 = d := by omega
        subst ep
        rw [ed] at es
        refine ⟨s, hs, es, ?_⟩
        rw [cf_not_true]
        intro hf
        unfold cf_fcd at hf
        rw [Bool.and_eq_true, cf_any_iff] at hf
        obtain ⟨_, o, ho, hf⟩ := hf
        rw [es, Bool.and_eq_true, Bool.and_eq_true, Bool.and_eq_true, Bool.and_eq_true] at hf
        obtain ⟨⟨k1, k2, k3⟩, k4, k5⟩ := hf
        have ho2 : ¬ o = c := by intro q; rw [decide_eq_true q] at k1; cases k1
        have := e4 o ho ho2
        rw [cf_not_true] at this
        apply this
        rw [h2]
        show cf_swap (cf_bt (s % 64)) (cf_bt ((p + 64 * d) % 64)) _ _ = true
        rw [g1, cf_swap_1 (by omega) hq]
        refine ⟨k2, k4, fun q => ?_⟩
        rw [q, k4] at k3; cases k3
  · rintro ⟨hb, h⟩
    obtain ⟨hql, hT⟩ := (cf_blk_free hq).mp hb
    rcases h with h | ⟨s, hs, es, hf⟩
    · obtain ⟨v1, v2, v3⟩ := hly _ h
      refine ⟨q + 64 * d, 0, h, by decide, cf_may_iff.mpr ⟨?_, ?_, ?_, ?_⟩⟩
      · rw [cf_mv_0, Nat.mod_eq_of_lt v2]
      · rw [tq0, cf_or0]; exact v3
      · rw [tq0, cf_or0, free1, g1]; exact hT
      · intro o ho ho2
        rw [cf_not_true, h2]
        show ¬ cf_swap (cf_bt ((q + 64 * d) % 64)) (cf_bt ((q + 64 * d) % 64)) _ _ = true
        rw [cf_swap_1 (by omega) (by omega)]
        rintro ⟨_, _, k⟩
        exact k rfl
    · obtain ⟨v1, v2, v3⟩ := hly _ hs
      have v4 := (free1 s t).mp v3
      refine ⟨s, d + 1, hs, by omega, cf_may_iff.mpr ⟨?_, ?_, ?_, ?_⟩⟩
      · rw [h2]
        unfold cf_mv
        rw [if_neg (by omega), cond_false, Nat.add_sub_cancel, es]; rfl
      · rw [tq0, cf_or0]; exact v3
      · rw [tq0, cf_or0, free1, g1]; exact hT
      · intro o ho ho2
        rw [cf_not_true, h2]
        show ¬ cf_swap (cf_bt (s % 64)) (cf_bt ((q + 64 * d) % 64)) _ _ = true
        rw [g1, cf_swap_1 (by omega) hq]
        rintro ⟨k1, k2, k3⟩
        have n1 : ¬ cf_has (cf_sd S t o) (s % 64) = true := fun q => by
          rw [cf_gT_hd ho ho2 (cf_sd_hd q)] at v4; cases v4
        have n2 : ¬ cf_has (cf_sd S (t + 1) o) q = true := fun q => by
          rw [cf_gT_hd ho ho2 (cf_sd_hd q)] at hT; cases hT
        rw [cf_not_true] at hf
        apply hf
        unfold cf_fcd
        rw [Bool.and_eq_true, cf_any_iff]
        refine ⟨decide_eq_true ?_, o, ho, ?_⟩
        · rcases Nat.lt_or_ge t (cf_clm S c f) with g | g
          · exact g
          · exfalso
            apply n1
            rw [cf_calm_sd hE g ho, ← cf_calm_sd hE (show cf_clm S c f ≤ t + 1 by omega) ho]; exact k1
        · rw [es, decide_eq_false ho2, k1, cf_not_true.mpr n1]
          dsimp only
          rw [k2, cf_not_true.mpr n2]; rfl
/-- a turn to heading d from heading e, seen from where it leads -/
def cf_trn (S : cf_S) (c l t : Nat) (ly : Nat → Bool) (q d e : Nat) : Prop := ∃ p b k, ly (p + 64 * e) = true ∧ p < 64 ∧ cf_step (S 0 0) (S 0 1) p (cf_opp e) = some b ∧ cf_step (S 0 0) (S 0 1) p d = some k ∧ cf_step (S 0 0) (S 0 1) b d = some q ∧ ∀ x, (x = p ∨ x = b ∨ x = k ∨ x = q) → cf_has (cf_blk S c l t) x = false ∧ cf_has (cf_blk S c l (t + 1)) x = false
/-- carts of two squares -/
theorem cf_adv2 {S : cf_S} (V : cf_V S) {c l t : Nat} (h2 : cf_two (S 3 c) = true) {ly : Nat → Bool} (hly : ∀ s, ly s = true → cf_vs (S 0 0) (S 0 1) (cf_two (S 3 c)) s ∧ s < 256 ∧ (cf_std (S 0 0) (S 0 1) (cf_two (S 3 c)) s &&& cf_gT S (cf_sp S) (cf_hd S) c l t) = 0) {q d : Nat} (hq : q < 64) (hd : d < 4) :
    (∃ s m, ly s = true ∧ m < 5 ∧ cf_may S (cf_gT S (cf_sp S) (cf_hd S) c l) (cf_sd S) c t s m = some (q + 64 * d)) ↔ ((cf_has (cf_blk S c l (t + 1)) q = false ∧ (∃ b, cf_step (S 0 0) (S 0 1) q (cf_opp d) = some b ∧ cf_has (cf_blk S c l (t + 1)) b = false) ∧ (ly (q + 64 * d) = true ∨ (∃ p, p < 64 ∧ cf_step (S 0 0) (S 0 1) p d = some q ∧ ly (p + 64 * d) = true) ∨ (∃ p, p < 64 ∧ cf_step (S 0 0) (S 0 1) p (cf_opp d) = some q ∧ ly (p + 64 * d) = true))) ∨ cf_trn S c l t ly q d ((d + 1) % 4) ∨ cf_trn S c l t ly q d ((d + 3) % 4)) := by
  have hwh := cf_V_wh V
  have hw := V.1.1
  obtain ⟨g1, g2⟩ := cf_cod hq hd
  rw [h2] at hly
  have free2 : ∀ s b u, s % 64 < S 0 0 * S 0 1 → cf_step (S 0 0) (S 0 1) (s % 64) (cf_opp (s / 64 % 4)) = some b → ((cf_std (S 0 0) (S 0 1) true s &&& cf_gT S (cf_sp S) (cf_hd S) c l u) = 0 ↔ cf_has (cf_blk S c l u) (s % 64) = false ∧ cf_has (cf_blk S c l u) b = false) := by
    intro s b u hs hb
    have hbl := cf_step_lt hs hb
    rw [cf_blk_free (by omega), cf_blk_free (by omega), cf_dj]
    constructor
    · intro h
      exact ⟨⟨hs, cf_not_true.mpr (h _ ((cf_std2 hwh hs hb).mpr (Or.inl rfl)))⟩, ⟨hbl, cf_not_true.mpr (h _ ((cf_std2 hwh hs hb).mpr (Or.inr rfl)))⟩⟩
    · rintro ⟨⟨_, h1⟩, ⟨_, h3⟩⟩ p hp
      rcases (cf_std2 hwh hs hb).mp hp with e | e
      · rw [e]; exact cf_not_true.mp h1
      · rw [e]; exact cf_not_true.mp h3
  have tq0 : ∀ s m, ¬ (m = 3 ∨ m = 4) → cf_tq (S 0 0) (S 0 1) (S 3 c) s m = 0 := by
    intro s m h
    unfold cf_tq
    rw [decide_eq_false (fun q => h (Or.inl q)), decide_eq_false (fun q => h (Or.inr q))]
    simp
  have tq1 : ∀ s m, (m = 3 ∨ m = 4) → cf_tq (S 0 0) (S 0 1) (S 3 c) s m = cf_four (S 0 0) (S 0 1) s m := by
    intro s m h
    unfold cf_tq
    rw [h2]
    rcases h with h | h <;> rw [h] <;> rfl
  have back : ∀ s, ly s = true → ∃ b, cf_step (S 0 0) (S 0 1) (s % 64) (cf_opp (s / 64 % 4)) = some b := by
    intro s hs
    have := (hly s hs).1.2 rfl
    cases e : cf_step (S 0 0) (S 0 1) (s % 64) (cf_opp (s / 64 % 4)) with
    | none => exact absurd e this
    | some b => exact ⟨b, rfl⟩
  -- no swaps
  have nosw : ∀ s m r, ly s = true → m < 5 → cf_mv (S 0 0) (S 0 1) true s m = some r → (cf_std (S 0 0) (S 0 1) true r &&& cf_gT S (cf_sp S) (cf_hd S) c l (t + 1)) = 0 → (m = 3 ∨ m = 4 → (cf_four (S 0 0) (S 0 1) s m &&& cf_gT S (cf_sp S) (cf_hd S) c l (t + 1)) = 0) → ∀ o, o < S 0 2 → ¬ o = c → cf_swap (cf_std (S 0 0) (S 0 1) true s) (cf_std (S 0 0) (S 0 1) true r) (cf_sd S t o) (cf_sd S (t + 1) o) = false := by
    intro s m r hs hm e k1 k2 o ho ho2
    obtain ⟨v1, v2, v3⟩ := hly s hs
    refine cf_noswap2 (c := c) V ho v1 hm e (fun p hp q => ?_) (fun p hp q => ?_) (fun h34 p hp q => ?_)
    · exact cf_dj.mp v3 p hp (cf_gT_hd ho ho2 q)
    · exact cf_dj.mp k1 p hp (cf_gT_hd ho ho2 q)
    · exact cf_dj.mp (k2 h34) p hp (cf_gT_hd ho ho2 q)
  constructor
  · rintro ⟨s, m, hs, hm, e⟩
    obtain ⟨v1, v2, v3⟩ := hly s hs
    obtain ⟨e1, e2, e3, e4⟩ := cf_may_iff.mp e
    rw [h2] at e1 e2 e3
    have hvr := cf_mv_vs hwh v1 hm e1
    have hql : q < S 0 0 * S 0 1 := by have := hvr.1; rwa [g1] at this
    obtain ⟨b, hb⟩ := back s hs
    have hsq : s % 64 < S 0 0 * S 0 1 := v1.1
    have hh : s / 64 % 4 < 4 := by omega
    have es : s = s % 64 + 64 * (s / 64 % 4) := by omega
    by_cases m34 : m = 3 ∨ m = 4
    · right
      unfold cf_mv at e1
      rw [if_neg (by omega), cond_true, if_neg (by omega), if_neg (by omega)] at e1
      cases et : cf_tn (S 0 0) (S 0 1) s (cf_to s m) with
      | none => rw [et] at e1; cases e1
      | some z =>
        obtain ⟨b', n, k⟩ := z
        rw [et] at e1
        have e1 : n + 64 * cf_to s m = q + 64 * d := Option.some_inj.mp e1
        obtain ⟨t1, t2, t3⟩ := cf_tn_some et
        have hbl := cf_step_lt hsq t1
        have hn64 := cf_step_64 hwh hbl t2
        have hto := cf_to_lt s m
        have en : n = q := by omega
        have ed : cf_to s m = d := by omega
        subst en
        rw [ed] at t2 t3
        rw [tq1 s m m34, cf_dj_or] at e2 e3
        have trn : ∀ e', s / 64 % 4 = e' → cf_trn S c l t ly n d e' := by
          intro e' he
          subst he
          refine ⟨s % 64, b', k, by rw [← es]; exact hs, by omega, t1, t3, t2, fun x hx => ?_⟩
          have hxl : x < S 0 0 * S 0 1 := by
            rcases hx with q | q | q | q
            · omega
            · rw [q]; exact hbl
            · rw [q]; exact cf_step_lt hsq t3
            · rw [q]; exact cf_step_lt hbl t2
          have hx4 : cf_has (cf_four (S 0 0) (S 0 1) s m) x = true := by
            rw [cf_four2 hwh hsq et]
            rcases hx with q | q | q | q
            · exact Or.inl q
            · exact Or.inr (Or.inl q)
            · exact Or.inr (Or.inr (Or.inr q))
            · exact Or.inr (Or.inr (Or.inl q))
          exact ⟨(cf_blk_free (by omega)).mpr ⟨hxl, cf_not_true.mpr (cf_dj.mp e2.2 x hx4)⟩, (cf_blk_free (by omega)).mpr ⟨hxl, cf_not_true.mpr (cf_dj.mp e3.2 x hx4)⟩⟩
        unfold cf_to cf_lf cf_rt at ed
        rcases m34 with q | q
        · rw [if_pos q] at ed; exact Or.inl (trn _ (by omega))
        · rw [if_neg (by omega)] at ed; exact Or.inr (trn _ (by omega))
    · left
      rw [tq0 s m m34, cf_or0] at e3
      have hvb := hvr.2 rfl
      rw [g1, g2] at hvb
      cases eb : cf_step (S 0 0) (S 0 1) q (cf_opp d) with
      | none => exact absurd eb hvb
      | some b2 =>
        have fr := (free2 (q + 64 * d) b2 (t + 1) (by rw [g1]; exact hql) (by rw [g1, g2]; exact eb)).mp e3
        rw [g1] at fr
        refine ⟨fr.1, ⟨b2, rfl, fr.2⟩, ?_⟩
        by_cases m0 : m = 0
        · subst m0
          rw [cf_mv_0] at e1
          left
          rw [← Option.some_inj.mp e1, Nat.mod_eq_of_lt v2]; exact hs
        · right
          unfold cf_mv at e1
          rw [if_neg m0, cond_true] at e1
          by_cases m1 : m = 1
          · rw [if_pos m1] at e1
            left
            cases es1 : cf_step (S 0 0) (S 0 1) (s % 64) (s / 64 % 4) with
            | none => rw [es1] at e1; cases e1
            | some p =>
              rw [es1] at e1
              have e1 : p + 64 * (s / 64 % 4) = q + 64 * d := Option.some_inj.mp e1
              have hp64 := cf_step_64 hwh hsq es1
              have ep : p = q := by omega
              have ed : s / 64 % 4 = d := by omega
              subst ep
              rw [ed] at es1 es
              exact ⟨s % 64, by omega, es1, by rw [← es]; exact hs⟩
          · rw [if_neg m1, if_pos (by omega), hb] at e1
            right
            dsimp only at e1
            cases es1 : cf_step (S 0 0) (S 0 1) b (cf_opp (s / 64 % 4)) with
            | none => rw [es1] at e1; cases e1
            | some p =>
              rw [es1] at e1
              have e1 : b + 64 * (s / 64 % 4) = q + 64 * d := Option.some_inj.mp e1
              have hb64 := cf_step_64 hwh hsq hb
              have ep : b = q := by omega
              have ed : s / 64 % 4 = d := by omega
              subst ep
              rw [ed] at hb es
              exact ⟨s % 64, by omega, hb, by rw [← es]; exact hs⟩
  · have turn : ∀ e m, (m = 3 ∧ e = (d + 1) % 4) ∨ (m = 4 ∧ e = (d + 3) % 4) → cf_trn S c l t ly q d e → ∃ s m, ly s = true ∧ m < 5 ∧ cf_may S (cf_gT S (cf_sp S) (cf_hd S) c l) (cf_sd S) c t s m = some (q + 64 * d) := by
      intro e m hme ⟨p, b, k, hs, hp, t1, t3, t2, hfr⟩
      have he : e < 4 := by omega
      obtain ⟨v1, v2, v3⟩ := hly _ hs
      obtain ⟨k1, k2⟩ := cf_cod hp he
      have eto : cf_to (p + 64 * e) m = d := by unfold cf_to cf_lf cf_rt; rw [k2]; split <;> omega
      have et : cf_tn (S 0 0) (S 0 1) (p + 64 * e) (cf_to (p + 64 * e) m) = some (b, q, k) := by
        unfold cf_tn
        rw [eto, k1, k2, t1]
        dsimp only
        rw [t2, t3]
      have emv : cf_mv (S 0 0) (S 0 1) true (p + 64 * e) m = some (q + 64 * d) := by
        unfold cf_mv
        rw [if_neg (by omega), cond_true, if_neg (by omega), if_neg (by omega), et]
        dsimp only
        rw [eto]
      have hpl : p < S 0 0 * S 0 1 := by have := v1.1; rwa [k1] at this
      have f4 : ∀ u, u = t ∨ u = t + 1 → (cf_four (S 0 0) (S 0 1) (p + 64 * e) m &&& cf_gT S (cf_sp S) (cf_hd S) c l u) = 0 := by
        intro u hu
        rw [cf_dj]
        intro x hx
        rw [cf_four2 hwh (by rw [k1]; exact hpl) et, k1] at hx
        have hx2 : x = p ∨ x = b ∨ x = k ∨ x = q := by omega
        obtain ⟨q1, q2⟩ := hfr x hx2
        have hbl := cf_step_lt hpl t1
        have hxl : x < 64 := by
          rcases hx2 with r | r | r | r
          · omega
          · rw [r]; exact cf_step_64 hwh hpl t1
          · rw [r]; exact cf_step_64 hwh hpl t3
          · omega
        rw [← cf_not_true]
        rcases hu with r | r
        · rw [r]; exact ((cf_blk_free hxl).mp q1).2
        · rw [r]; exact ((cf_blk_free hxl).mp q2).2
      have fr1 : (cf_std (S 0 0) (S 0 1) true (q + 64 * d) &&& cf_gT S (cf_sp S) (cf_hd S) c l (t + 1)) = 0 := by
        rw [cf_dj]
        intro x hx
        exact cf_dj.mp (f4 (t + 1) (Or.inr rfl)) x ((cf_turn_in hwh v1 (by omega) emv).2 x hx)
      refine ⟨p + 64 * e, m, hs, by omega, cf_may_iff.mpr ⟨by rw [h2]; exact emv, ?_, ?_, ?_⟩⟩
      · rw [h2, tq1 _ _ (by omega), cf_dj_or]; exact ⟨v3, f4 t (Or.inl rfl)⟩
      · rw [h2, tq1 _ _ (by omega), cf_dj_or]; exact ⟨fr1, f4 (t + 1) (Or.inr rfl)⟩
      · rw [h2]; exact nosw _ m _ hs (by omega) emv fr1 (fun _ => f4 (t + 1) (Or.inr rfl))
    rintro (⟨hb, ⟨b, eb, hb2⟩, h⟩ | h | h)
    · have hql := ((cf_blk_free hq).mp hb).1
      have fr := (free2 (q + 64 * d) b (t + 1) (by rw [g1]; exact hql) (by rw [g1, g2]; exact eb)).mpr (by rw [g1]; exact ⟨hb, hb2⟩)
      have fin : ∀ s m, ly s = true → m < 3 → cf_mv (S 0 0) (S 0 1) true s m = some (q + 64 * d) → ∃ s m, ly s = true ∧ m < 5 ∧ cf_may S (cf_gT S (cf_sp S) (cf_hd S) c l) (cf_sd S) c t s m = some (q + 64 * d) := by
        intro s m hs hm e
        obtain ⟨v1, v2, v3⟩ := hly s hs
        refine ⟨s, m, hs, by omega, cf_may_iff.mpr ⟨by rw [h2]; exact e, ?_, ?_, ?_⟩⟩
        · rw [h2, tq0 s m (by omega), cf_or0]; exact v3
        · rw [h2, tq0 s m (by omega), cf_or0]; exact fr
        · rw [h2]; exact nosw s m _ hs (by omega) e fr (fun h => by omega)
      rcases h with h | ⟨p, hp, e1, hs⟩ | ⟨p, hp, e1, hs⟩
      · exact fin (q + 64 * d) 0 h (by decide) (by rw [cf_mv_0, Nat.mod_eq_of_lt (hly _ h).2.1])
      · obtain ⟨k1, k2⟩ := cf_cod hp hd
        refine fin (p + 64 * d) 1 hs (by decide) ?_
        unfold cf_mv
        rw [if_neg (by decide), cond_true, if_pos rfl, k1, k2, e1]; rfl
      · obtain ⟨k1, k2⟩ := cf_cod hp hd
        refine fin (p + 64 * d) 2 hs (by decide) ?_
        unfold cf_mv
        rw [if_neg (by decide), cond_true, if_neg (by decide), if_pos rfl, k1, k2, e1]
        dsimp only
        rw [eb]
    · exact turn _ 3 (Or.inl ⟨rfl, rfl⟩) h
    · exact turn _ 4 (Or.inr ⟨rfl, rfl⟩) h
