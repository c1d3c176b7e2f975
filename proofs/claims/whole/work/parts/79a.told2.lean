/-! check: the reference's world with a TOLD way against the class's judge. -/
theorem cf_fo_own {S : cf_S} (V : cf_V S) (G : cf_G S) {c f : Nat} (h : cf_fo S c f = true) : ∃ o, o < S 0 2 ∧ ¬ o = c ∧ cf_own S o = f + 1 := by
  unfold cf_fo at h
  rw [cf_any_iff] at h
  obtain ⟨o, ho, h⟩ := h
  rw [Bool.and_eq_true, Bool.not_eq_true', decide_eq_false_iff_not, cf_any_iff] at h
  obtain ⟨h1, u, hu, h2⟩ := h
  have h2 := of_decide_eq_true h2
  rw [cf_dec_st V G ho] at h2
  have := (cf_ds_v V G ho u).2
  exact ⟨o, ho, h1, by omega⟩
theorem cf_fo_of {S : cf_S} (V : cf_V S) (G : cf_G S) {c o f u : Nat} (ho : o < S 0 2) (hne : ¬ o = c) (h : cf_ds S o u / 256 = f + 1) : cf_fo S c f = true := by
  unfold cf_fo
  rw [cf_any_iff]
  refine ⟨o, ho, ?_⟩
  rw [Bool.and_eq_true, Bool.not_eq_true', decide_eq_false_iff_not, cf_any_iff]
  refine ⟨hne, min u (cf_set S), by omega, decide_eq_true ?_⟩
  rw [cf_st_min u ho, cf_dec_st V G ho]; exact h
/-- a cart's own SHELF is not foreign to it -/
theorem cf_fo_not {S : cf_S} (V : cf_V S) (G : cf_G S) {c f : Nat} (hc : c < S 0 2) (h : cf_own S c = f + 1) : cf_fo S c f = false := by
  rw [cf_not_true]
  intro q
  obtain ⟨o, ho, hne, e⟩ := cf_fo_own V G q
  exact G.2.2.2.1 c o hc ho (fun z => hne z.symm) (by omega) (by omega)
theorem cf_std_at {w h : Nat} {two : Bool} {s : Nat} (hwh : w * h ≤ 64) (hs : cf_vs w h two s) : cf_has (cf_std w h two s) (s % 64) = true := by
  obtain ⟨h1, h2⟩ := hs
  unfold cf_std
  cases two with
  | false =>
    show cf_has (cf_bt (s % 64)) _ = true
    rw [cf_hbt, decide_eq_true (by omega), decide_eq_true rfl]; rfl
  | true =>
    show cf_has (match cf_step w h (s % 64) (cf_opp (s / 64 % 4)) with
      | none => 0
      | some b => cf_bt (s % 64) ||| cf_bt b) _ = true
    cases e : cf_step w h (s % 64) (cf_opp (s / 64 % 4)) with
    | none => exact absurd e (h2 rfl)
    | some b =>
      show cf_has (cf_bt (s % 64) ||| cf_bt b) _ = true
      rw [cf_hor, cf_hbt, decide_eq_true (by omega), decide_eq_true rfl]; rfl
section CFW
variable {S : cf_S} {c T nl : Nat} {tm : Nat → Nat}
theorem cf_fw2_bc : cf_bc S (cf_fw2 S c T tm) c := fun a b h1 h2 _ _ => cf_fw2_r h1 h2
theorem cf_fw2_mt (u : Nat) : cf_mt (cf_fw2 S c T tm) c u = cf_tmv T tm u := by
  unfold cf_mt cf_tmv
  rw [cf_fw2_4]
  by_cases h : u < T
  · rw [if_pos h, if_pos h, cf_fw2_w h]
  · rw [if_neg h, if_neg h]
theorem cf_fw2_V (V : cf_V S) (hc : c < S 0 2) (hT : T ≤ 400) (htm : ∀ j, j < T → tm j < 7) : cf_V (cf_fw2 S c T tm) := by
  have r : ∀ a b, ¬ a = 4 → a < 20 → cf_fw2 S c T tm a b = S a b := fun a b h h2 => cf_fw2_r (by omega) (by omega)
  obtain ⟨a, b, d, e, f, g, h, k⟩ := V
  unfold cf_V
  simp only [r 0 _ (by omega) (by omega), r 1 _ (by omega) (by omega), r 2 _ (by omega) (by omega), r 3 _ (by omega) (by omega), r 9 _ (by omega) (by omega), r 5 _ (by omega) (by omega), r 6 _ (by omega) (by omega), r 7 _ (by omega) (by omega), r 8 _ (by omega) (by omega), r 12 _ (by omega) (by omega)]
  refine ⟨a, b, d, e, f, g, fun i hi => ?_, k⟩
  obtain ⟨h1, h2, h3, h4, h5, h6, h7, h8, h9⟩ := h i hi
  refine ⟨h1, h2, h3, ?_, h5, h6, h7, h8, fun t ht => ?_⟩
  · by_cases q : i = c
    · subst q; rw [cf_fw2_4]; exact hT
    · rw [cf_fw2_r (by omega) (by omega)]; exact h4
  · by_cases q : i = c
    · subst q
      rw [cf_fw2_4] at ht
      rw [cf_fw2_w ht]; exact htm t ht
    · rw [cf_fw2_r (by omega) (by omega)] at ht ⊢
      exact h9 t ht
end CFW
/-- the reference's world up to a tick, as the class's judge sees it -/
def cf_ci (S : cf_S) (c T nl : Nat) (tm : Nat → Nat) (u s : Nat) (pl : Nat → Nat) (bf sw : Int64) : Prop :=
  (∀ u', u' ≤ u → ∀ o, o < S 0 2 → ¬ o = c → cf_vt (cf_fw2 S c T tm) (c + 1) nl u' o = cf_st S u' o)
  ∧ cf_vt (cf_fw2 S c T tm) (c + 1) nl u c = s
  ∧ (∀ f, f < S 0 3 → cf_fo S c f = true → cf_vp (cf_fw2 S c T tm) (c + 1) nl u f = cf_sp S u f)
  ∧ (∀ x, x < S 0 3 → cf_fo S c x = false → cf_vp (cf_fw2 S c T tm) (c + 1) nl u x = pl x)
  ∧ (¬ s / 256 = 0 → cf_fo S c (s / 256 - 1) = false ∧ pl (s / 256 - 1) = s % 64)
  ∧ (∀ o f x, o < S 0 2 → ¬ o = c → f < S 0 3 → cf_own S o = f + 1 → cf_fo S c f = true → ¬ cf_lifted S o u → x < S 0 3 → cf_fo S c x = false → ¬ x + 1 = s / 256 → ¬ pl x = S 12 f)
  ∧ sw = (if u = 0 then 0 else cf_vq (cf_fw2 S c T tm) (c + 1) nl (u - 1) c)
  ∧ (0 < u → bf = cf_vd (cf_fw2 S c T tm) (c + 1) nl (u - 1) c ∧ cf_vm (cf_fw2 S c T tm) (c + 1) nl (u - 1) c = true)
theorem cf_ci_0 {S : cf_S} {c T nl : Nat} {tm : Nat → Nat} (V : cf_V S) (G : cf_G S) (hc : c < S 0 2) : cf_ci S c T nl tm 0 (S 9 c) (S 12) 0 0 := by
  have r : ∀ a b, ¬ a = 4 → a < 20 → cf_fw2 S c T tm a b = S a b := fun a b h h2 => cf_fw2_r (by omega) (by omega)
  have e9 : cf_fw2 S c T tm 9 = S 9 := funext (fun b => r 9 b (by omega) (by omega))
  have vp0 : ∀ s, s < S 0 3 → cf_vp (cf_fw2 S c T tm) (c + 1) nl 0 s = S 12 s := by
    intro s hs
    show cf_car (cf_fw2 S c T tm 9) s (cf_fw2 S c T tm 12 s) (cf_fw2 S c T tm 0 2) = S 12 s
    rw [e9, r 12 _ (by omega) (by omega), r 0 _ (by omega) (by omega)]
    exact cf_car_0 (fun o ho e => G.2.1 o s ho hs e)
  refine ⟨fun u' hu o ho hne => ?_, r 9 c (by omega) (by omega), fun f hf _ => vp0 f hf, fun x hx _ => vp0 x hx, fun h => ⟨?_, ?_⟩, fun o f x ho hne hf hown hfo hnl hx hxo hne2 e => ?_, rfl, fun q => absurd q (Nat.lt_irrefl 0)⟩
  · have : u' = 0 := by omega
    subst this
    exact r 9 o (by omega) (by omega)
  · refine cf_fo_not V G hc ?_
    unfold cf_own; rw [if_neg h]; omega
  · have := (V.2.2.2.2.2.2.1 c hc).2.2.1
    exact G.2.1 c _ hc (by omega) (by omega)
  · have := G.1 x f hx hf e
    subst this
    rw [hfo] at hxo; cases hxo
section CFU
variable {S : cf_S} {c T nl u s : Nat} {tm : Nat → Nat} {pl : Nat → Nat} {bf sw : Int64}
theorem cf_ci_vq (I : cf_ci S c T nl tm u s pl bf sw) : cf_vq (cf_fw2 S c T tm) (c + 1) nl u c = cf_tq (S 0 0) (S 0 1) (S 3 c) s (cf_tmv T tm u) := by
  have r : ∀ a b, ¬ a = 4 → a < 20 → cf_fw2 S c T tm a b = S a b := fun a b h h2 => cf_fw2_r (by omega) (by omega)
  unfold cf_vq
  rw [I.2.1, cf_fw2_mt, r 0 _ (by omega) (by omega), r 0 _ (by omega) (by omega), r 3 _ (by omega) (by omega)]
theorem cf_ci_vd (I : cf_ci S c T nl tm u s pl bf sw) : cf_vd (cf_fw2 S c T tm) (c + 1) nl u c = cf_std (S 0 0) (S 0 1) (cf_two (S 3 c)) s := by
  have r : ∀ a b, ¬ a = 4 → a < 20 → cf_fw2 S c T tm a b = S a b := fun a b h h2 => cf_fw2_r (by omega) (by omega)
  unfold cf_vd
  rw [I.2.1, r 0 _ (by omega) (by omega), r 0 _ (by omega) (by omega), r 3 _ (by omega) (by omega)]
theorem cf_ci_vh (I : cf_ci S c T nl tm u s pl bf sw) : cf_vh (cf_fw2 S c T tm) (c + 1) nl u c = cf_std (S 0 0) (S 0 1) (cf_two (S 3 c)) s ||| sw ||| cf_tq (S 0 0) (S 0 1) (S 3 c) s (cf_tmv T tm u) := by
  unfold cf_vh
  rw [cf_ci_vq I, cf_ci_vd I, I.2.2.2.2.2.2.1, cf_ora, cf_ora]
  congr 1
  exact cf_orc _ _
/-- the others -/
theorem cf_ci_od (I : cf_ci S c T nl tm u s pl bf sw) {u' o : Nat} (hu : u' ≤ u) (ho : o < S 0 2) (hne : ¬ o = c) : cf_vd (cf_fw2 S c T tm) (c + 1) nl u' o = cf_sd S u' o := by
  have r : ∀ a b, ¬ a = 4 → a < 20 → cf_fw2 S c T tm a b = S a b := fun a b h h2 => cf_fw2_r (by omega) (by omega)
  unfold cf_vd cf_sd
  rw [I.1 u' hu o ho hne, r 0 _ (by omega) (by omega), r 0 _ (by omega) (by omega), r 3 _ (by omega) (by omega)]
theorem cf_ci_oh (I : cf_ci S c T nl tm u s pl bf sw) {o : Nat} (ho : o < S 0 2) (hne : ¬ o = c) : cf_vh (cf_fw2 S c T tm) (c + 1) nl u o = cf_hd S u o := by
  have r : ∀ a b, ¬ a = 4 → a < 20 → cf_fw2 S c T tm a b = S a b := fun a b h h2 => cf_fw2_r (by omega) (by omega)
  have eq : ∀ u', u' ≤ u → cf_vq (cf_fw2 S c T tm) (c + 1) nl u' o = cf_td S u' o := by
    intro u' hu
    unfold cf_vq cf_td
    rw [I.1 u' hu o ho hne, cf_bc_mt cf_fw2_bc hne, r 0 _ (by omega) (by omega), r 0 _ (by omega) (by omega), r 3 _ (by omega) (by omega)]
  unfold cf_vh cf_hd
  rw [cf_ci_od I (Nat.le_refl u) ho hne, eq u (Nat.le_refl u), eq (u - 1) (by omega)]
/-- the class's test at a tick -/
def cf_jt (S : cf_S) (c T : Nat) (tm : Nat → Nat) (u s : Nat) (pl : Nat → Nat) (bf sw : Int64) : Bool :=
  !cf_jf S c pl (s / 256) (cf_std (S 0 0) (S 0 1) (cf_two (S 3 c)) s ||| sw ||| cf_tq (S 0 0) (S 0 1) (S 3 c) s (cf_tmv T tm u)) u || cf_mts S c bf (cf_std (S 0 0) (S 0 1) (cf_two (S 3 c)) s) (cf_std (S 0 0) (S 0 1) (cf_two (S 3 c)) s ||| sw ||| cf_tq (S 0 0) (S 0 1) (S 3 c) s (cf_tmv T tm u)) u
theorem cf_ci_fit (V : cf_V S) (V' : cf_V (cf_fw2 S c T tm)) (I : cf_ci S c T nl tm u s pl bf sw) : cf_fit (cf_fw2 S c T tm) (cf_vt (cf_fw2 S c T tm) (c + 1) nl) (cf_vp (cf_fw2 S c T tm) (c + 1) nl) (cf_vh (cf_fw2 S c T tm) (c + 1) nl) c u = cf_jf S c pl (s / 256) (cf_std (S 0 0) (S 0 1) (cf_two (S 3 c)) s ||| sw ||| cf_tq (S 0 0) (S 0 1) (S 3 c) s (cf_tmv T tm u)) u := by
  have r : ∀ a b, ¬ a = 4 → a < 20 → cf_fw2 S c T tm a b = S a b := fun a b h h2 => cf_fw2_r (by omega) (by omega)
  have hwh := cf_V_wh V
  unfold cf_fit cf_jf
  rw [cf_ci_vh I, cf_bc_bar cf_fw2_bc, I.2.1, r 3 _ (by omega) (by omega), r 0 _ (by omega) (by omega)]
  generalize cf_std (S 0 0) (S 0 1) (cf_two (S 3 c)) s ||| sw ||| cf_tq (S 0 0) (S 0 1) (S 3 c) s (cf_tmv T tm u) = X
  congr 1
  congr 1
  have pos : ∀ i, i < S 0 3 → cf_vp (cf_fw2 S c T tm) (c + 1) nl u i = (if cf_fo S c i = true then cf_sp S u i else pl i) := by
    intro i hi
    by_cases z : cf_fo S c i = true
    · rw [if_pos z]; exact I.2.2.1 i hi z
    · rw [if_neg z]; exact I.2.2.2.1 i hi (by rw [cf_not_true]; exact z)
  rw [Bool.eq_iff_iff, decide_eq_true_iff, Bool.not_eq_true', cf_not_true, cf_any_iff, cf_dj]
  constructor
  · rintro h ⟨i, hi, hj⟩
    unfold cf_jo at hj
    rw [Bool.and_eq_true, Bool.not_eq_true', decide_eq_false_iff_not] at hj
    refine h _ hj.2 ?_
    unfold cf_sqg
    rw [cf_has_un, cf_any_iff]
    refine ⟨i, hi, ?_⟩
    show cf_has (if i + 1 = s / 256 then 0 else _) _ = true
    have lt := (cf_vv V' (c + 1) nl u).2 i (by rw [r 0 _ (by omega) (by omega)]; exact hi)
    rw [r 0 _ (by omega) (by omega), r 0 _ (by omega) (by omega)] at lt
    rw [if_neg hj.1, cf_hbt, decide_eq_true (by omega), ← pos i hi, decide_eq_true rfl]; rfl
  · intro h q hq hq2
    unfold cf_sqg at hq2
    rw [cf_has_un, cf_any_iff] at hq2
    obtain ⟨i, hi, h2⟩ := hq2
    have h2 : cf_has (if i + 1 = s / 256 then 0 else cf_bt (cf_vp (cf_fw2 S c T tm) (c + 1) nl u i)) q = true := h2
    by_cases z : i + 1 = s / 256
    · rw [if_pos z, cf_h0] at h2; cases h2
    · rw [if_neg z, cf_hbt, Bool.and_eq_true, decide_eq_true_iff, decide_eq_true_iff] at h2
      refine h ⟨i, hi, ?_⟩
      unfold cf_jo
      rw [decide_eq_false z, ← pos i hi, h2.2, hq]; rfl
theorem cf_ci_mts (I : cf_ci S c T nl tm u s pl bf sw) : cf_mta (cf_fw2 S c T tm 0 2) (cf_vd (cf_fw2 S c T tm) (c + 1) nl) (cf_vh (cf_fw2 S c T tm) (c + 1) nl) c u = cf_mts S c bf (cf_std (S 0 0) (S 0 1) (cf_two (S 3 c)) s) (cf_std (S 0 0) (S 0 1) (cf_two (S 3 c)) s ||| sw ||| cf_tq (S 0 0) (S 0 1) (S 3 c) s (cf_tmv T tm u)) u := by
  have r : ∀ a b, ¬ a = 4 → a < 20 → cf_fw2 S c T tm a b = S a b := fun a b h h2 => cf_fw2_r (by omega) (by omega)
  unfold cf_mta cf_mts
  rw [r 0 _ (by omega) (by omega)]
  refine cf_any_eq (fun o ho => ?_)
  by_cases hne : o = c
  · rw [decide_eq_true hne]; rfl
  · rw [decide_eq_false hne]
    congr 1
    unfold cf_mtg
    rw [cf_ci_vh I, cf_ci_oh I ho hne, cf_ci_od I (Nat.le_refl u) ho hne, cf_ci_od I (show u - 1 ≤ u by omega) ho hne, cf_ci_vd I]
    rw [show ∀ x y : Int64, x &&& y = y &&& x from fun x y => by apply cf_ext; intro q _; rw [cf_hand, cf_hand, Bool.and_comm]]
    by_cases hu : 0 < u
    · rw [(I.2.2.2.2.2.2.2 hu).1]
    · rw [decide_eq_false hu]; simp only [Bool.false_and]
theorem cf_ci_test (V : cf_V S) (V' : cf_V (cf_fw2 S c T tm)) (I : cf_ci S c T nl tm u s pl bf sw) : cf_vb (cf_fw2 S c T tm) (c + 1) nl T c u = cf_jt S c T tm u s pl bf sw := by
  unfold cf_vb cf_jt
  rw [cf_ci_fit V V' I, cf_ci_mts I]
  have : (decide (0 < u) && decide (u ≤ T) && !cf_vm (cf_fw2 S c T tm) (c + 1) nl (u - 1) c) = false := by
    by_cases hu : 0 < u
    · rw [(I.2.2.2.2.2.2.2 hu).2, Bool.not_true, Bool.and_false]
    · rw [decide_eq_false hu]; simp only [Bool.false_and]
  rw [this, Bool.false_or]
end CFU
