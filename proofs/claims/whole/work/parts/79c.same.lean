/-! check: the class's judge and the reference find the same tick. -/
theorem cf_car_eq2 {st st2 : Nat → Nat} {s d : Nat} : ∀ {n : Nat}, (∀ c, c < n → st c = st2 c ∨ (¬ st c / 256 = s + 1 ∧ ¬ st2 c / 256 = s + 1)) → cf_car st s d n = cf_car st2 s d n
  | 0, _ => rfl
  | n + 1, h => by
    rw [cf_car, cf_car, cf_car_eq2 (n := n) (fun c hc => h c (by omega))]
    rcases h n (by omega) with q | ⟨q1, q2⟩
    · rw [q]
    · rw [if_neg q1, if_neg q2]
theorem cf_ci_next {S : cf_S} {c T nl u s r : Nat} {tm : Nat → Nat} {pl : Nat → Nat} {bf sw : Int64} (V : cf_V S) (G : cf_G S) (V' : cf_V (cf_fw2 S c T tm)) (htm : ∀ j, j < T → tm j < 7) (hnl : ∀ s, nl.testBit s = cf_fo S c s) (hc : c < S 0 2) (I : cf_ci S c T nl tm u s pl bf sw) (ht : cf_jt S c T tm u s pl bf sw = false) (hr : cf_aft (S 0 0) (S 0 1) (S 1) (S 3 c) s (cf_tmv T tm u) (cf_jl S c pl s) = some r) : cf_ci S c T nl tm (u + 1) r (cf_jp pl r) (cf_std (S 0 0) (S 0 1) (cf_two (S 3 c)) s) (cf_tq (S 0 0) (S 0 1) (S 3 c) s (cf_tmv T tm u)) := by
  have hwh := cf_V_wh V
  have rr : ∀ a b, ¬ a = 4 → a < 20 → cf_fw2 S c T tm a b = S a b := fun a b h h2 => cf_fw2_r (by omega) (by omega)
  have hm : cf_tmv T tm u < 7 := by
    unfold cf_tmv
    by_cases q : u < T
    · rw [if_pos q]; exact htm u q
    · rw [if_neg q]; omega
  have enr := cf_ci_cn V G V' hnl hc I ht
  rw [hr] at enr
  have evt : cf_vt (cf_fw2 S c T tm) (c + 1) nl (u + 1) c = r := by
    show (cf_nr (cf_fw2 S c T tm) (c + 1) nl (cf_v (cf_fw2 S c T tm) (c + 1) nl u).1 (cf_v (cf_fw2 S c T tm) (c + 1) nl u).2 u c).getD _ = r
    rw [enr]; rfl
  have evo : ∀ o, o < S 0 2 → ¬ o = c → cf_vt (cf_fw2 S c T tm) (c + 1) nl (u + 1) o = cf_st S (u + 1) o := fun o ho hne => cf_ci_on V G hc I ho hne
  have hld : ¬ r / 256 = 0 → cf_fo S c (r / 256 - 1) = false := by
    intro h
    rcases cf_aft_c hwh (cf_ci_vs V' hc I).1.1 hm hr with ⟨_, r', _, h2, h3⟩ | ⟨_, _, _, h1, h2⟩ | ⟨_, _, _, _, h2⟩
    · rw [show r / 256 = s / 256 by omega] at h ⊢
      exact (I.2.2.2.2.1 h).1
    · rw [show r / 256 = cf_jl S c pl s by omega] at h ⊢
      obtain ⟨z, hz⟩ : ∃ z, cf_jl S c pl s = z + 1 := ⟨cf_jl S c pl s - 1, by omega⟩
      have := (cf_ff_some hz).2.1
      rw [Bool.and_eq_true, Bool.not_eq_true'] at this
      rw [hz, Nat.add_sub_cancel]; exact this.1
    · omega
  have hlo : ∀ x, x + 1 = r / 256 → cf_fo S c x = false := fun x e => by
    have := hld (by omega)
    rw [← e, Nat.add_sub_cancel] at this; exact this
  have evp : ∀ x, cf_vp (cf_fw2 S c T tm) (c + 1) nl (u + 1) x = cf_car (cf_vt (cf_fw2 S c T tm) (c + 1) nl (u + 1)) x (cf_vp (cf_fw2 S c T tm) (c + 1) nl u x) (S 0 2) := fun x => by
    rw [← rr 0 2 (by omega) (by omega)]; rfl
  refine ⟨fun u' hu o ho hne => ?_, evt, fun f hf hfo => ?_, fun x hx hxo => ?_, fun h => ⟨hld h, ?_⟩, fun o f x ho hne hf hown hfo hlf hx hxo hne2 => ?_, ?_, fun _ => ⟨?_, ?_⟩⟩
  · by_cases q : u' = u + 1
    · subst q; exact evo o ho hne
    · exact I.1 u' (by omega) o ho hne
  · rw [evp, I.2.2.1 f hf hfo]
    show _ = cf_car (fun o => cf_st S (u + 1) o) f (cf_sp S u f) (S 0 2)
    refine cf_car_eq2 (fun o ho => ?_)
    by_cases q : o = c
    · subst q
      right
      rw [evt]
      refine ⟨fun e => ?_, fun e => ?_⟩
      · rw [hlo f e.symm] at hfo; cases hfo
      · rw [cf_dec_st V G ho] at e
        have o2 := (cf_ds_v V G ho (u + 1)).2
        rw [cf_fo_not V G ho (f := f) (by omega)] at hfo; cases hfo
    · left; exact evo o ho q
  · rw [evp, I.2.2.2.1 x hx hxo]
    unfold cf_jp
    have oth : ∀ o, o < S 0 2 → ¬ o = c → ¬ cf_vt (cf_fw2 S c T tm) (c + 1) nl (u + 1) o / 256 = x + 1 := fun o ho hne => by
      rw [evo o ho hne]; exact cf_ci_nc V G ho hne hxo
    by_cases q : x + 1 = r / 256
    · rw [if_pos q, cf_car_u hc (by rw [evt]; omega) (fun o ho e => ?_), evt]
      apply Classical.byContradiction
      intro z
      exact oth o ho z e
    · rw [if_neg q, cf_car_n (fun o ho => ?_)]
      by_cases z : o = c
      · subst z; rw [evt]; omega
      · exact oth o ho z
  · unfold cf_jp; rw [if_pos (by omega)]
  · unfold cf_jp
    rw [if_neg hne2]
    have hlf0 : ¬ cf_lifted S o u := fun ⟨t, h1, h2⟩ => hlf ⟨t, by omega, h2⟩
    by_cases q : x + 1 = s / 256
    · have e := (I.2.2.2.2.1 (by omega)).2
      rw [← q, Nat.add_sub_cancel] at e
      rw [e, ← (cf_sp_ex V G ho hown u).2 hlf0]
      intro z
      exact cf_ci_nofit V V' hc I ht (by omega) hf hfo z.symm
    · exact I.2.2.2.2.2.1 o f x ho hne hf hown hfo hlf0 hx hxo q
  · rw [if_neg (by omega), Nat.add_sub_cancel]; exact (cf_ci_vq I).symm
  · rw [Nat.add_sub_cancel]; exact (cf_ci_vd I).symm
  · rw [Nat.add_sub_cancel]
    unfold cf_vm
    rw [enr]; rfl
/-- the first bad tick of d from u on, or T -/
def cf_fn (bad : Nat → Bool) (T : Nat) : Nat → Nat → Int32
  | 0, _ => nI T
  | d + 1, u => if bad u = true then -10 - nI u else cf_fn bad T d (u + 1)
theorem cf_fb_fn {bad : Nat → Bool} {T : Nat} : ∀ d, d ≤ 402 → cf_fb bad T d = cf_fn bad T d (402 - d)
  | 0, _ => rfl
  | d + 1, h => by
    rw [cf_fb, cf_fn, cf_fb_fn d (by omega), show 402 - (d + 1) = 401 - d by omega, show 401 - d + 1 = 402 - d by omega]
theorem cf_fn_1 {bad : Nat → Bool} {T E : Nat} (h : ∀ u, E + 1 ≤ u → bad (u + 1) = bad u) : ∀ d u, E + 2 ≤ u + (d + 1) → cf_fn bad T (d + 2) u = cf_fn bad T (d + 1) u
  | 0, u, hu => by
    rw [cf_fn, cf_fn, cf_fn, cf_fn, cf_fn, h u (by omega)]
    by_cases q : bad u = true
    · rw [if_pos q, if_pos q]
    · rw [if_neg q, if_neg q, if_neg q]
  | d + 1, u, hu => by
    rw [cf_fn, cf_fn_1 h d (u + 1) (by omega)]
    rfl
theorem cf_fn_ge {bad : Nat → Bool} {T E : Nat} (h : ∀ u, E + 1 ≤ u → bad (u + 1) = bad u) : ∀ d, cf_fn bad T (E + 2 + d) 0 = cf_fn bad T (E + 2) 0
  | 0 => rfl
  | d + 1 => by
    rw [← cf_fn_ge h d]
    have := cf_fn_1 (T := T) h (E + 1 + d) 0 (by omega)
    rw [show E + 1 + d + 2 = E + 2 + (d + 1) by omega, show E + 1 + d + 1 = E + 2 + d by omega] at this
    exact this
section CFE
variable {S : cf_S} {ck nl : Nat}
theorem cf_nr_0 {st sp : Nat → Nat} {j c : Nat} (h : S 4 c ≤ j) : cf_nr S ck nl st sp j c = some (st c) := by
  unfold cf_nr cf_aft
  rw [cf_mt_out h, if_pos (by omega), cf_mv_0]
  show some (st c / 256 * 256 + st c % 256) = _
  congr 1; omega
theorem cf_vt_E {u c : Nat} (h : S 4 c ≤ u) : cf_vt S ck nl (u + 1) c = cf_vt S ck nl u c := by
  show (cf_nr S ck nl (cf_v S ck nl u).1 (cf_v S ck nl u).2 u c).getD _ = _
  rw [cf_nr_0 h]; rfl
theorem cf_vq_E {u c : Nat} (h : S 4 c ≤ u) : cf_vq S ck nl u c = 0 := by
  unfold cf_vq cf_tq
  rw [cf_mt_out h, decide_eq_false (by omega), decide_eq_false (by omega), Bool.or_false, Bool.and_false]; rfl
theorem cf_vp_E {E u : Nat} (h : ∀ c, c < S 0 2 → S 4 c ≤ E) (hu : E ≤ u) (s : Nat) : cf_vp S ck nl (u + 1) s = cf_vp S ck nl u s := by
  have e1 : cf_vp S ck nl (u + 1) s = cf_car (cf_vt S ck nl (u + 1)) s (cf_vp S ck nl u s) (S 0 2) := rfl
  have e2 : ∃ d, cf_vp S ck nl u s = cf_car (cf_vt S ck nl u) s d (S 0 2) := by
    cases u with
    | zero => exact ⟨_, rfl⟩
    | succ u => exact ⟨_, rfl⟩
  obtain ⟨d, e2⟩ := e2
  rw [e1, cf_car_eq rfl (fun c hc => cf_vt_E (Nat.le_trans (h c hc) hu)), e2]
  exact cf_car_car _ (Or.inr rfl)
theorem cf_vd_E {u c : Nat} (h : S 4 c ≤ u) : cf_vd S ck nl (u + 1) c = cf_vd S ck nl u c := by unfold cf_vd; rw [cf_vt_E h]
theorem cf_vh_E {u c : Nat} (h : S 4 c + 1 ≤ u) : cf_vh S ck nl (u + 1) c = cf_vh S ck nl u c := by
  unfold cf_vh
  rw [cf_vd_E (by omega), cf_vq_E (by omega), cf_vq_E (by omega), if_neg (by omega), if_neg (by omega), cf_vq_E (by omega), cf_vq_E (by omega)]
theorem cf_vb_E {T c E : Nat} (hc : c < S 0 2) (h : ∀ c, c < S 0 2 → S 4 c ≤ E) (hT : T ≤ E) (u : Nat) (hu : E + 1 ≤ u) : cf_vb S ck nl T c (u + 1) = cf_vb S ck nl T c u := by
  obtain ⟨w, rfl⟩ : ∃ w, u = w + 1 := ⟨u - 1, by omega⟩
  unfold cf_vb
  rw [decide_eq_false (show ¬ w + 1 + 1 ≤ T by omega), decide_eq_false (show ¬ w + 1 ≤ T by omega), Bool.and_false, Bool.false_and, Bool.and_false, Bool.false_and]
  have hd : ∀ o, o < S 0 2 → cf_vh S ck nl (w + 1 + 1) o = cf_vh S ck nl (w + 1) o := fun o ho => cf_vh_E (by have := h o ho; omega)
  congr 1
  · unfold cf_fit
    rw [hd c hc, cf_vt_E (by have := h c hc; omega)]
    have : ∀ y, cf_sqg (S 0 3) (cf_vp S ck nl) (w + 1 + 1) y = cf_sqg (S 0 3) (cf_vp S ck nl) (w + 1) y := fun y => by
      unfold cf_sqg
      refine cf_un_eq (fun i _ => ?_)
      rw [cf_vp_E h (by omega)]
    rw [this]
  · unfold cf_mta
    refine cf_any_eq (fun o ho => ?_)
    unfold cf_mtg
    have ec := h c hc
    have eo := h o ho
    rw [hd c hc, hd o ho, Nat.add_sub_cancel, Nat.add_sub_cancel, decide_eq_true (show 0 < w + 1 + 1 by omega), decide_eq_true (show 0 < w + 1 by omega)]
    rw [cf_vd_E (u := w + 1) (c := c) (by omega), cf_vd_E (u := w + 1) (c := o) (by omega), cf_vd_E (u := w) (c := c) (by omega), cf_vd_E (u := w) (c := o) (by omega)]
end CFE
theorem cf_ci_run {S : cf_S} {c T nl : Nat} {tm : Nat → Nat} (V : cf_V S) (G : cf_G S) (V' : cf_V (cf_fw2 S c T tm)) (htm : ∀ j, j < T → tm j < 7) (hnl : ∀ s, nl.testBit s = cf_fo S c s) (hc : c < S 0 2) : ∀ d u s pl bf sw, cf_ci S c T nl tm u s pl bf sw → T < u + d → cf_jr S c (cf_tmv T tm) T d u s pl bf sw = cf_fn (cf_vb (cf_fw2 S c T tm) (c + 1) nl T c) T d u
  | 0, _, _, _, _, _, _, _ => rfl
  | d + 1, u, s, pl, bf, sw, I, hu => by
    rw [cf_jr, cf_fn, cf_ci_test V V' I]
    have ed : (!cf_jf S c pl (s / 256) (cf_std (S 0 0) (S 0 1) (cf_two (S 3 c)) s ||| sw ||| cf_tq (S 0 0) (S 0 1) (S 3 c) s (cf_tmv T tm u)) u || cf_mts S c bf (cf_std (S 0 0) (S 0 1) (cf_two (S 3 c)) s) (cf_std (S 0 0) (S 0 1) (cf_two (S 3 c)) s ||| sw ||| cf_tq (S 0 0) (S 0 1) (S 3 c) s (cf_tmv T tm u)) u) = cf_jt S c T tm u s pl bf sw := rfl
    rw [ed]
    by_cases ht : cf_jt S c T tm u s pl bf sw = true
    · rw [if_pos ht, if_pos ht]
    · rw [if_neg ht, if_neg ht]
      have ht : cf_jt S c T tm u s pl bf sw = false := by rw [cf_not_true]; exact ht
      cases hr : cf_aft (S 0 0) (S 0 1) (S 1) (S 3 c) s (cf_tmv T tm u) (cf_jl S c pl s) with
      | some r => exact cf_ci_run V G V' htm hnl hc d (u + 1) r _ _ _ (cf_ci_next V G V' htm hnl hc I ht hr) (by omega)
      | none =>
        have huT : u < T := by
          rcases Nat.lt_or_ge u T with q | q
          · exact q
          · exfalso
            have e0 : cf_tmv T tm u = 0 := by unfold cf_tmv; rw [if_neg (by omega)]
            rw [e0] at hr
            unfold cf_aft at hr
            rw [if_pos (by omega), cf_mv_0] at hr
            cases hr
        obtain ⟨d', rfl⟩ : ∃ d', d = d' + 1 := ⟨d - 1, by omega⟩
        rw [cf_fn]
        have eb : cf_vb (cf_fw2 S c T tm) (c + 1) nl T c (u + 1) = true := by
          have enr := cf_ci_cn V G V' hnl hc I ht
          rw [hr] at enr
          unfold cf_vb
          rw [Nat.add_sub_cancel, decide_eq_true (show 0 < u + 1 by omega), decide_eq_true (show u + 1 ≤ T by omega)]
          unfold cf_vm
          rw [enr]; rfl
        rw [if_pos eb]
/-- judge and check() of the reference answer the same -/
theorem cf_jr_fb {S : cf_S} {c T nl : Nat} {tm : Nat → Nat} (V : cf_V S) (G : cf_G S) (hT : T ≤ 400) (htm : ∀ j, j < T → tm j < 7) (hnl : ∀ s, nl.testBit s = cf_fo S c s) (hc : c < S 0 2) : cf_jr S c (cf_tmv T tm) T (max T (cf_set S) + 2) 0 (S 9 c) (S 12) 0 0 = cf_fb (cf_vb (cf_fw2 S c T tm) (c + 1) nl T c) T 402 := by
  have V' := cf_fw2_V V hc hT htm
  have rr : ∀ a b, ¬ a = 4 → a < 20 → cf_fw2 S c T tm a b = S a b := fun a b h h2 => cf_fw2_r (by omega) (by omega)
  rw [cf_ci_run V G V' htm hnl hc _ 0 _ _ _ _ (cf_ci_0 V G hc) (by omega), cf_fb_fn 402 (Nat.le_refl _), Nat.sub_self]
  have hmx : cf_mx (S 4) (S 0 2) ≤ 400 := cf_mx_le (fun i hi => (V.2.2.2.2.2.2.1 i hi).2.2.2.1)
  have hst := cf_vb_E (S := cf_fw2 S c T tm) (ck := c + 1) (nl := nl) (T := T) (c := c) (E := max T (cf_mx (S 4) (S 0 2))) (by rw [rr 0 _ (by omega) (by omega)]; exact hc) (fun o ho => by
    rw [rr 0 _ (by omega) (by omega)] at ho
    by_cases q : o = c
    · subst q; rw [cf_fw2_4]; omega
    · rw [cf_fw2_r (by omega) (by omega)]
      have := cf_le_mx (f := S 4) ho
      omega) (by omega)
  have e1 := cf_fn_ge (T := T) hst (max T (cf_set S) - max T (cf_mx (S 4) (S 0 2)))
  have e2 := cf_fn_ge (T := T) hst (402 - (max T (cf_mx (S 4) (S 0 2)) + 2))
  have hset : cf_set S = cf_mx (S 4) (S 0 2) + 1 := rfl
  rw [show max T (cf_mx (S 4) (S 0 2)) + 2 + (max T (cf_set S) - max T (cf_mx (S 4) (S 0 2))) = max T (cf_set S) + 2 by omega] at e1
  rw [show max T (cf_mx (S 4) (S 0 2)) + 2 + (402 - (max T (cf_mx (S 4) (S 0 2)) + 2)) = 402 by omega] at e2
  rw [e1, e2]
