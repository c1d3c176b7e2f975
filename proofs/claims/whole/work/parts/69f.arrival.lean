/-! Search.findArrival. -/
theorem cf_ff_0 {p : Nat → Bool} {n i : Nat} (h : cf_ff p n = 0) (hi : i < n) : p i = false := by
  cases e : p i with
  | false => rfl
  | true =>
    obtain ⟨j, _, _, h3, _⟩ := cf_ff_pos (p := p) (n := n) ⟨i, hi, e⟩
    omega
theorem cf_may_calm {S : cf_S} {c l f u s m : Nat} (hE : S 4 c ≤ f) (hu : cf_clm S c f ≤ u) : cf_may S (cf_gT S (cf_sp S) (cf_hd S) c l) (cf_sd S) c u s m = cf_may S (cf_gT S (cf_sp S) (cf_hd S) c l) (cf_sd S) c (cf_clm S c f) s m := by
  unfold cf_may
  cases cf_mv (S 0 0) (S 0 1) (cf_two (S 3 c)) s m with
  | none => rfl
  | some r =>
    dsimp only
    rw [cf_calm_gT hE hu, cf_calm_gT hE (show cf_clm S c f ≤ u + 1 by omega), cf_calm_gT hE (show cf_clm S c f ≤ cf_clm S c f + 1 by omega)]
    rw [cf_any_eq (q := fun o => !decide (o = c) && cf_swap (cf_std (S 0 0) (S 0 1) (cf_two (S 3 c)) s) (cf_std (S 0 0) (S 0 1) (cf_two (S 3 c)) r) (cf_sd S (cf_clm S c f) o) (cf_sd S (cf_clm S c f + 1) o)) (fun o ho => by rw [cf_calm_sd hE hu ho, cf_calm_sd hE (show cf_clm S c f ≤ u + 1 by omega) ho, cf_calm_sd hE (show cf_clm S c f ≤ cf_clm S c f + 1 by omega) ho])]
theorem cf_gL_calm {S : cf_S} {c l f u u2 : Nat} (hE : S 4 c ≤ f) (hu : cf_clm S c f ≤ u) (hb : u ≤ 401) (hu2 : cf_clm S c f ≤ u2) (hb2 : u2 ≤ 401) : cf_gL S (cf_sp S) (cf_hd S) c l u = cf_gL S (cf_sp S) (cf_hd S) c l u2 := by
  have e1 : ∀ u, cf_clm S c f ≤ u → cf_othg (S 0 2) (cf_hd S) c u = cf_othg (S 0 2) (cf_hd S) c (cf_clm S c f) := fun u hu => cf_calm_oth hE hu
  have e2 : ∀ u, cf_clm S c f ≤ u → cf_rowg S (cf_sp S) c l u = cf_rowg S (cf_sp S) c l (cf_clm S c f) := by
    intro u hu
    have e3 : ∀ u, cf_sq S u l = cf_sqg (S 0 3) (cf_sp S) u l := fun u => rfl
    unfold cf_rowg
    rw [← e3, ← e3, cf_calm_sq hE hu]
  have key : ∀ v, cf_clm S c f ≤ v → v ≤ 401 → ∀ q, (cf_has (cf_gL S (cf_sp S) (cf_hd S) c l v) q = true ↔ cf_has (cf_othg (S 0 2) (cf_hd S) c (cf_clm S c f)) q = true ∨ cf_has (cf_rowg S (cf_sp S) c l (cf_clm S c f)) q = true) := by
    intro v hv hv2 q
    rw [cf_gL_has (by omega)]
    constructor
    · rintro ⟨u', h1, h2, h3⟩
      rw [e1 u' (by omega), e2 u' (by omega)] at h3; exact h3
    · intro h
      refine ⟨v, Nat.le_refl _, by omega, ?_⟩
      rw [e1 v hv, e2 v hv]; exact h
  apply cf_ext
  intro q _
  apply Bool.eq_iff_iff.mpr
  rw [key u hu hb q, key u2 hu2 hb2 q]
theorem cf_gl_calm {S : cf_S} {c l f u u2 tg wt s : Nat} {last : Bool} (hE : S 4 c ≤ f) (hu : cf_clm S c f ≤ u) (hb : u ≤ 401) (hu2 : cf_clm S c f ≤ u2) (hb2 : u2 ≤ 401) : cf_gl S (cf_st S) (cf_sp S) (cf_gL S (cf_sp S) (cf_hd S) c l) c tg wt last s u = cf_gl S (cf_st S) (cf_sp S) (cf_gL S (cf_sp S) (cf_hd S) c l) c tg wt last s u2 := by
  have e : ∀ v, cf_clm S c f ≤ v → cf_ly (S 0 2) (cf_st S v) (cf_sp S v) tg (wt - 1) = cf_ly (S 0 2) (cf_st S (cf_clm S c f)) (cf_sp S (cf_clm S c f)) tg (wt - 1) := by
    intro v hv
    unfold cf_ly
    rw [cf_calm_sp hE hv, cf_any_eq (fun o ho => by rw [cf_calm_st hE hv ho])]
  unfold cf_gl
  rw [cf_gL_calm hE hu hb hu2 hb2, e u hu, e u2 hu2]
set_option maxRecDepth 100000 in
theorem cf_spent_e {mv : Nat → Nat → Nat → Option Nat} {f s0 i : Nat} (hb : ∀ j s, cf_lr mv f s0 j s = true → s < 256) (h : ∀ s, cf_lr mv f s0 i s = false) : ∀ d s, cf_lr mv f s0 (i + d) s = false
  | 0, s => h s
  | d + 1, s => by
    rw [cf_not_true]
    intro q
    rw [← Nat.add_assoc, cf_lr_iff (hb _)] at q
    obtain ⟨s1, m, h1, _, _⟩ := q
    rw [cf_spent_e hb h d s1] at h1; cases h1
set_option maxRecDepth 100000 in
theorem cf_spent_s {S : cf_S} {c l f s0 i : Nat} (hE : S 4 c ≤ f) (hclm : cf_clm S c f ≤ f + i) (hb : ∀ j s, cf_lr (cf_may S (cf_gT S (cf_sp S) (cf_hd S) c l) (cf_sd S) c) f s0 j s = true → s < 256) (h : ∀ s, cf_lr (cf_may S (cf_gT S (cf_sp S) (cf_hd S) c l) (cf_sd S) c) f s0 (i + 1) s = cf_lr (cf_may S (cf_gT S (cf_sp S) (cf_hd S) c l) (cf_sd S) c) f s0 i s) :
    ∀ d s, cf_lr (cf_may S (cf_gT S (cf_sp S) (cf_hd S) c l) (cf_sd S) c) f s0 (i + d) s = cf_lr (cf_may S (cf_gT S (cf_sp S) (cf_hd S) c l) (cf_sd S) c) f s0 i s
  | 0, s => rfl
  | d + 1, s => by
    rw [← h s]
    apply Bool.eq_iff_iff.mpr
    rw [← Nat.add_assoc, cf_lr_iff (hb _), cf_lr_iff (hb _)]
    constructor
    · rintro ⟨s1, m, h1, hm, h2⟩
      rw [cf_spent_s hE hclm hb h d s1] at h1
      refine ⟨s1, m, h1, hm, ?_⟩
      rw [cf_may_calm hE (by omega)] at h2
      rw [cf_may_calm hE hclm]; exact h2
    · rintro ⟨s1, m, h1, hm, h2⟩
      refine ⟨s1, m, by rw [cf_spent_s hE hclm hb h d s1]; exact h1, hm, ?_⟩
      rw [cf_may_calm hE hclm] at h2
      rw [cf_may_calm hE (by omega)]; exact h2
section RXE
variable {L : Nat} {t : List (Nat × Nat)} {v : Nat → Nat → Option Nat}
variable {RI : Int32 → (Nat → Nat → Int32) → (Nat → Nat → Int64) → (Nat → Nat → Option Nat) → Prop}
set_option maxRecDepth 100000 in
theorem c67 {S : cf_S} {hi : Nat → Nat → Int32} {hl : Nat → Nat → Int64} {c l f tg wt : Nat} {last : Bool} (X : cf_CX S c l f tg wt last hi hl v) (hc : c < S 0 2) (hE : S 4 c ≤ f) (hf : f ≤ 400) (htg : tg < S 0 0 * S 0 1) (hwt : wt ≤ S 0 3) {s0 : Nat} (h0 : cf_vs (S 0 0) (S 0 1) (cf_two (S 3 c)) s0 ∧ s0 < 256) (hfr : (cf_std (S 0 0) (S 0 1) (cf_two (S 3 c)) s0 &&& cf_gT S (cf_sp S) (cf_hd S) c l f) = 0) (Y0 : cf_LY hl f (fun s => decide (s = s0)))
    {p : Nat → Bool} (hp : ∀ i, p i = true ↔ ∃ s, cf_lr (cf_may S (cf_gT S (cf_sp S) (cf_hd S) c l) (cf_sd S) c) f s0 i s = true ∧ cf_gl S (cf_st S) (cf_sp S) (cf_gL S (cf_sp S) (cf_hd S) c l) c tg wt last s (f + i) = true)
    (k0 : cf_ff p (401 - f) = 0 → ∀ hi2 hl2, cf_fx hi hi2 hl hl2 → RI (-1) hi2 hl2 v)
    (k1 : ∀ n, cf_ff p (401 - f) = n + 1 → ∀ hi2 hl2, cf_fx hi hi2 hl hl2 → (∀ i, i < n → cf_LY hl2 (f + i) (cf_lr (cf_may S (cf_gT S (cf_sp S) (cf_hd S) c l) (cf_sd S) c) f s0 i)) → cf_LY hl2 (f + n) (fun s => cf_lr (cf_may S (cf_gT S (cf_sp S) (cf_hd S) c l) (cf_sd S) c) f s0 n s && cf_gl S (cf_st S) (cf_sp S) (cf_gL S (cf_sp S) (cf_hd S) c l) c tg wt last s (f + n)) → (∀ s, cf_lr (cf_may S (cf_gT S (cf_sp S) (cf_hd S) c l) (cf_sd S) c) f s0 n s = true → cf_gl S (cf_st S) (cf_sp S) (cf_gL S (cf_sp S) (cf_hd S) c l) c tg wt last s (f + n) = true → hi2 82 ((f + n) % 2 * 256 + s) = 0) → RI (nI (f + n)) hi2 hl2 v) :
    rx_CI L t 67 [.ref 77, .int (nI f)] hi hl v RI := by
  have V := X.1.1.1
  have h6 := V.2.2.1
  have hkd := (V.2.2.2.2.2.2.1 c hc).1
  generalize hlr : cf_lr (cf_may S (cf_gT S (cf_sp S) (cf_hd S) c l) (cf_sd S) c) f s0 = lr at *
  have lrv : ∀ i s, lr i s = true → cf_vs (S 0 0) (S 0 1) (cf_two (S 3 c)) s ∧ s < 256 := fun i s h => cf_lr_vs V h0 i s (by rw [hlr]; exact h)
  have lrf : ∀ i, cf_lyv S c l (f + i) (lr i) := by
    intro i s h
    have h' := h
    rw [← hlr] at h'
    exact ⟨(lrv i s h).1, (lrv i s h).2, cf_lr_free V h0 hfr i s h'⟩
  have lrn : ∀ i (hl2 : Nat → Nat → Int64), cf_LN S c l (f + i) (lr i) hl2 → cf_LY hl2 (f + (i + 1)) (lr (i + 1)) := by
    intro i hl2 N d hd q hq
    apply Bool.eq_iff_iff.mpr
    rw [← Nat.add_assoc, N d hd q hq, ← hlr, cf_lr_iff (fun s h => (lrv i s (by rw [← hlr]; exact h)).2)]
  -- nothing behind a layer that is spent
  have spent : ∀ i, f + i < 400 → cf_ff p (i + 1) = 0 → ((∀ s, s < 256 → lr (i + 1) s = false) ∨ (cf_clm S c f ≤ f + i ∧ ∀ s, s < 256 → lr (i + 1) s = lr i s)) → cf_ff p (401 - f) = 0 := by
    intro i hi4 hz h
    refine cf_ff_zero (fun j hj => ?_)
    by_cases hji : j < i + 1
    · exact cf_ff_0 hz hji
    · rw [cf_not_true]
      intro hpj
      obtain ⟨s, q1, q2⟩ := (hp j).mp hpj
      rcases h with h | ⟨hcl, h⟩
      · have := cf_spent_e (mv := cf_may S (cf_gT S (cf_sp S) (cf_hd S) c l) (cf_sd S) c) (f := f) (s0 := s0) (i := i + 1) (fun j s h => (lrv j s (by rw [← hlr]; exact h)).2) (fun s => by
          rw [hlr]
          by_cases hs : s < 256
          · exact h s hs
          · rw [cf_not_true]; intro q; exact hs (lrv _ _ q).2) (j - (i + 1)) s
        rw [hlr, show i + 1 + (j - (i + 1)) = j by omega, q1] at this; cases this
      · have := cf_spent_s (l := l) (s0 := s0) hE hcl (fun j s h => (lrv j s (by rw [← hlr]; exact h)).2) (fun s => by
          rw [hlr]
          by_cases hs : s < 256
          · exact h s hs
          · rw [cf_not_true.mpr (fun q => hs (lrv (i + 1) s q).2), cf_not_true.mpr (fun q => hs (lrv i s q).2)]) (j - i) s
        rw [hlr, show i + (j - i) = j by omega, q1] at this
        rw [cf_gl_calm hE (show cf_clm S c f ≤ f + j by omega) (by omega) hcl (by omega)] at q2
        have h3 := (hp i).mpr ⟨s, this.symm, q2⟩
        rw [cf_ff_0 hz (by omega)] at h3; cases h3
  have loop : ∀ e i, i + e = 401 - f → ∀ (hi2 : Nat → Nat → Int32) (hl2 : Nat → Nat → Int64), cf_fx hi hi2 hl hl2 → cf_ff p i = 0 → (∀ i', i' ≤ i → f + i' ≤ 400 → cf_LY hl2 (f + i') (lr i')) →
      rx_aw 67 2 [.ref 77, .int (nI f), .int (nI (f + i))] [] (rx_hp L t hi2 hl2 v) (fun r h2 => ∃ z : Int32, r = some (.int z) ∧ rx_ok2 L t h2 (RI z)) := by
    intro e
    induction e with
    | zero =>
      intro i hi0 hi2 hl2 F Z Y
      refine w67_findArrival_2 ⟨fun _ => c_retI (k0 (by rw [← show i = 401 - f by omega]; exact Z) hi2 hl2 F), fun g => absurd ?_ g⟩
      rw [show (400 : Int32) = nI 400 from rfl]; exact nI_lt (by omega) (by omega)
    | succ e ih =>
      intro i hi0 hi2 hl2 F Z Y
      have X2 := cf_CX_fx X F
      refine w67_findArrival_2 ⟨fun g => ?_, fun _ => c68 X2 hc hE hf htg hwt (by omega) (by omega) (lrf i) (Y i (Nat.le_refl _) (by omega)) (fun hno => ⟨fun _ => ?_, fun g => absurd rfl g⟩) (fun s hs1 hs2 hi3 hl3 F3 Fl3 G3 G4 => ⟨fun g => absurd g (by decide), fun _ => c_retI ?_⟩)⟩
      · rw [show (400 : Int32) = nI 400 from rfl, nI_ltI (by decide) (by omega)] at g; omega
      · have hpi : p i = false := by
          rw [cf_not_true]
          intro q
          obtain ⟨s, q1, q2⟩ := (hp i).mp q
          rw [hno s q1] at q2; cases q2
        have Z1 : cf_ff p (i + 1) = 0 := by rw [cf_ff, if_pos Z, hpi]; rfl
        have next : f + i < 400 → ∀ hl4 : Nat → Nat → Int64, (∀ a b, ¬ a = 83 → ¬ (a = 80 ∧ 4 * (f + i + 1) ≤ b ∧ b < 4 * (f + i + 1) + 4) → hl4 a b = hl2 a b) → cf_LN S c l (f + i) (lr i) hl4 → rx_CI L t 76 [.ref 77, .int (nI (f + i))] hi2 hl4 v (fun z8 hi8 hl8 v8 => (z8 = 0 → rx_aw 67 2 [.ref 77, .int (nI f), .int (nI (f + i) + 1)] [] (rx_hp L t hi8 hl8 v8) (fun r h2 => ∃ z : Int32, r = some (.int z) ∧ rx_ok2 L t h2 (RI z))) ∧ (¬ (z8 = 0) → ∃ z : Int32, some (Value.int (-1)) = some (.int z) ∧ rx_ok2 L t (rx_hp L t hi8 hl8 v8) (RI z))) := by
          intro hlt hl4 F4 N4
          have F5 : cf_fx hi hi2 hl hl4 := cf_fx_t F ⟨fun _ _ _ => rfl, fun a b q => F4 a b (by omega) (by omega)⟩
          have Y5 : ∀ i', i' ≤ i + 1 → f + i' ≤ 400 → cf_LY hl4 (f + i') (lr i') := by
            intro i' h1 h2
            by_cases ee : i' = i + 1
            · subst ee; exact lrn i hl4 N4
            · intro d hd q hq
              rw [F4 80 _ (by omega) (by omega)]
              exact Y i' (by omega) h2 d hd q hq
          refine c76 (ly := lr i) (ly2 := lr (i + 1)) (cf_CX_fx X F5) hf hlt (Y5 i (by omega) (by omega)) (Y5 (i + 1) (Nat.le_refl _) (by omega)) ⟨fun _ => ?_, fun g => absurd rfl g⟩ (fun h => ⟨fun g => absurd g (by decide), fun _ => c_retI (k0 (spent i hlt Z1 h) hi2 hl4 F5)⟩)
          rw [nI_1]
          exact ih (i + 1) (by omega) hi2 hl4 F5 Z1 Y5
        refine ⟨fun g => c_retI (k0 ?_ hi2 hl2 F), fun g => Or.inr ⟨c, by omega, X2.2.1, fun g2 => ?_, fun g2 => ?_⟩⟩
        · rw [show (400 : Int32) = nI 400 from rfl, nI_eq (by omega) (by decide)] at g
          rw [show 401 - f = i + 1 by omega]; exact Z1
        · rw [show (400 : Int32) = nI 400 from rfl, nI_eq (by omega) (by decide)] at g
          rw [(X2.1.1.2.2.2.2.1.2.2.1 c hc).1, cf_lt2 hkd] at g2
          exact c73 X2 hc hE hf (by omega) (by omega) (cf_not_true.mpr g2) (lrf i) (Y i (Nat.le_refl _) (by omega)) (fun hl4 F4 N4 => next (by omega) hl4 F4 N4)
        · rw [show (400 : Int32) = nI 400 from rfl, nI_eq (by omega) (by decide)] at g
          rw [(X2.1.1.2.2.2.2.1.2.2.1 c hc).1, cf_lt2 hkd] at g2
          exact c70 X2 hc hE hf (by omega) (by omega) (Classical.not_not.mp g2) (lrf i) (Y i (Nat.le_refl _) (by omega)) (fun hl4 F4 N4 => next (by omega) hl4 F4 N4)
      · have hpi := (hp i).mpr ⟨s, hs1, hs2⟩
        refine k1 i (cf_ff_at Z hpi _ (by omega)) hi3 hl3 (cf_fx_t F ⟨F3, fun a b q => Fl3 a b (by omega)⟩) (fun i' h1 d hd q hq => ?_) G3 G4
        rw [Fl3 80 _ (by omega)]
        exact Y i' (by omega) (by omega) d hd q hq
  refine w67_findArrival (loop (401 - f) 0 (by omega) hi hl cf_fx_r rfl (fun i' h1 h2 => ?_))
  have : i' = 0 := by omega
  subst this
  rw [← hlr]; exact Y0
end RXE
