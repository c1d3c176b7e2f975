/-! guest: a GUEST's way, free of trouble. -/
theorem cf_aft_k {w h : Nat} {gr : Nat → Nat} {k s m l l' : Nat} (hk : ¬ k = 1) : cf_aft w h gr k s m l = cf_aft w h gr k s m l' := by
  unfold cf_aft
  by_cases h4 : m ≤ 4
  · rw [if_pos h4, if_pos h4]
  · rw [if_neg h4, if_neg h4, if_neg hk, if_neg hk]
theorem cf_aft_k5 {w h : Nat} {gr : Nat → Nat} {k s m l : Nat} (hk : ¬ k = 1) (hm : ¬ m ≤ 4) : cf_aft w h gr k s m l = none := by
  unfold cf_aft
  rw [if_neg hm, if_neg hk]
/-- to a cart that lifts nothing it is all one what may be lifted -/
theorem cf_v_ck {S : cf_S} {c nl : Nat} (hk : ¬ S 3 c = 1) : ∀ t, cf_v S (c + 1) nl t = cf_v S 0 nl t
  | 0 => rfl
  | t + 1 => by
    have e : ∀ st sp o, cf_nr S (c + 1) nl st sp t o = cf_nr S 0 nl st sp t o := by
      intro st sp o
      by_cases q : o = c
      · subst q; exact cf_aft_k hk
      · have ea : ∀ x, cf_al (c + 1) nl o x = cf_al 0 nl o x := fun x => by
          unfold cf_al
          rw [decide_eq_false (show ¬ c + 1 = o + 1 by omega), decide_eq_false (show ¬ 0 = o + 1 by omega)]
        unfold cf_nr
        rw [ea]
    rw [cf_v, cf_v, cf_v_ck hk t]
    simp only [e]
theorem cf_vb_w {S : cf_S} {c T nl u : Nat} (H : cf_H0 S) (hc : c < S 0 2) (hk : ¬ S 3 c = 1) (h : cf_vb S (c + 1) nl T c u = false) : cf_bad S c u = false ∧ (0 < u → u ≤ T → cf_made S (u - 1) c = true) := by
  have et : ∀ u o, o < S 0 2 → cf_vt S (c + 1) nl u o = cf_st S u o := fun u o ho => by
    unfold cf_vt; rw [cf_v_ck hk]; exact (cf_v_w H nl u).1 o ho
  have ep : ∀ u s, s < S 0 3 → cf_vp S (c + 1) nl u s = cf_sp S u s := fun u s hs => by
    unfold cf_vp; rw [cf_v_ck hk]; exact (cf_v_w H nl u).2 s hs
  have ed : ∀ u o, o < S 0 2 → cf_vd S (c + 1) nl u o = cf_sd S u o := fun u o ho => by unfold cf_vd cf_sd; rw [et u o ho]
  have eq : ∀ u o, o < S 0 2 → cf_vq S (c + 1) nl u o = cf_td S u o := fun u o ho => by unfold cf_vq cf_td; rw [et u o ho]
  have eh : ∀ u o, o < S 0 2 → cf_vh S (c + 1) nl u o = cf_hd S u o := fun u o ho => by unfold cf_vh cf_hd; rw [ed u o ho, eq u o ho, eq (u - 1) o ho]
  have em : ∀ u, cf_vm S (c + 1) nl u c = cf_made S u c := fun u => by
    unfold cf_vm cf_made cf_nr cf_nx
    rw [show (cf_v S (c + 1) nl u).1 c = (cf_w S u).1 c from et u c hc, cf_aft_k hk]
  unfold cf_vb at h
  rw [Bool.or_eq_false_iff, Bool.or_eq_false_iff] at h
  obtain ⟨⟨h1, h2⟩, h3⟩ := h
  refine ⟨?_, fun q1 q2 => ?_⟩
  · unfold cf_bad
    rw [Bool.or_eq_false_iff]
    constructor
    · rw [← h2]
      congr 1
      unfold cf_fit
      rw [eh u c hc, et u c hc]
      congr 3
      unfold cf_sqg
      rw [cf_un_eq (fun i hi => by show (if i + 1 = cf_st S u c / 256 then 0 else cf_bt (cf_sp S u i)) = (if i + 1 = cf_st S u c / 256 then 0 else cf_bt (cf_vp S (c + 1) nl u i)); rw [ep u i hi])]
    · rw [← h3]
      unfold cf_mta
      refine cf_any_eq (fun o ho => ?_)
      unfold cf_mtg
      rw [eh u c hc, eh u o ho, ed u c hc, ed u o ho, ed (u - 1) c hc, ed (u - 1) o ho]
  · rw [em, decide_eq_true q1, decide_eq_true q2] at h1
    cases e : cf_made S (u - 1) c with
    | true => rfl
    | false => rw [e] at h1; cases h1
theorem cf_ds_k {S : cf_S} {c : Nat} (hk : ¬ S 3 c = 1) : ∀ t, cf_st S t c = cf_ds S c t
  | 0 => rfl
  | t + 1 => by
    have e0 : cf_st S (t + 1) c = (cf_aft (S 0 0) (S 0 1) (S 1) (S 3 c) (cf_st S t c) (cf_mt S c t) (cf_lie (S 0 2) (S 0 3) (cf_st S t) (cf_sp S t) (cf_st S t c % 64))).getD (cf_st S t c) := rfl
    rw [e0, cf_ds_k hk t, cf_ds, cf_aft_k hk]
theorem cf_Ir_fw {S : cf_S} {ls c T nl : Nat} {tm : Nat → Nat} (I : cf_Ir ls S) (hc : c < S 0 2) (h3 : S 3 c = 3) (h4 : S 4 c = 0) (hT : T ≤ 400) (htm : ∀ j, j < T → tm j < 7) (hb : ∀ u, u < 402 → cf_vb (cf_fw2 S c T tm) (c + 1) nl T c u = false) : cf_Ir ls (cf_fw2 S c T tm) := by
  have rr : ∀ a b, ¬ a = 4 → a < 20 → cf_fw2 S c T tm a b = S a b := fun a b h h2 => cf_fw2_r (by omega) (by omega)
  have B : cf_bc S (cf_fw2 S c T tm) c := cf_fw2_bc
  have hn : cf_fw2 S c T tm 0 2 = S 0 2 := rr 0 2 (by omega) (by omega)
  obtain ⟨V, G, E1, E2, Bd, hls, E3, E4⟩ := I
  have V' := cf_fw2_V (S := S) V hc hT htm
  have hk : ¬ cf_fw2 S c T tm 3 c = 1 := by rw [rr 3 _ (by omega) (by omega)]; omega
  have H' : cf_H0 (cf_fw2 S c T tm) := by
    intro o s ho hs e
    rw [rr 0 2 (by omega) (by omega)] at ho
    rw [rr 0 3 (by omega) (by omega)] at hs
    rw [rr 9 _ (by omega) (by omega)] at e ⊢
    rw [rr 12 _ (by omega) (by omega)]; exact G.2.1 o s ho hs e
  have hw := fun u hu => cf_vb_w H' (by rw [hn]; exact hc) hk (hb u hu)
  have hdx : ∀ t, t < T → ¬ cf_dx (cf_fw2 S c T tm) c t = none := by
    intro t ht q
    have m := (hw (t + 1) (by omega)).2 (by omega) (by omega)
    rw [Nat.add_sub_cancel] at m
    have e0 : cf_made (cf_fw2 S c T tm) t c = (cf_aft (cf_fw2 S c T tm 0 0) (cf_fw2 S c T tm 0 1) (cf_fw2 S c T tm 1) (cf_fw2 S c T tm 3 c) (cf_st (cf_fw2 S c T tm) t c) (cf_mt (cf_fw2 S c T tm) c t) (cf_lie (cf_fw2 S c T tm 0 2) (cf_fw2 S c T tm 0 3) (cf_st (cf_fw2 S c T tm) t) (cf_sp (cf_fw2 S c T tm) t) (cf_st (cf_fw2 S c T tm) t c % 64))).isSome := rfl
    rw [e0, cf_ds_k hk, cf_aft_k (l' := cf_fw2 S c T tm 6 c) hk] at m
    unfold cf_dx at q
    rw [q] at m; cases m
  have hmv : ∀ t, t < T → tm t ≤ 4 := by
    intro t ht
    apply Classical.byContradiction
    intro q
    refine hdx t ht ?_
    unfold cf_dx
    refine cf_aft_k5 hk ?_
    rw [cf_fw2_mt]; unfold cf_tmv; rw [if_pos ht]; exact q
  have G' : cf_G (cf_fw2 S c T tm) := by
    refine cf_G_bc G B (fun _ t ht => ?_) (fun _ c' u _ _ hu e => ?_) (fun _ o u _ _ _ _ hd _ => ?_)
    · rw [cf_fw2_4] at ht
      have := hmv t ht
      rw [cf_fw2_w ht]
      exact ⟨hdx t ht, fun q => by omega, fun q => by omega⟩
    · rw [cf_fw2_4] at hu
      rw [cf_fw2_w hu] at e
      have := hmv u hu; omega
    · obtain ⟨d1, d2⟩ := hd
      rw [cf_fw2_4] at d1 d2
      rw [cf_fw2_w (by omega)] at d2
      have := hmv (T - 1) (by omega); omega
  refine ⟨V', G', fun o ho q1 q2 => ?_, fun o ho q => ?_, fun o ho u hu => ?_, hls, fun o ho q => ?_, fun o ho q => ?_⟩
  all_goals rw [hn] at ho
  · rw [rr 3 _ (by omega) (by omega)] at q1
    rw [rr 5 _ (by omega) (by omega), rr 7 _ (by omega) (by omega)]
    have hoc : ¬ o = c := fun z => by subst z; exact q1 h3
    rw [cf_fw2_r (by omega) (by omega)] at q2
    exact E1 o ho q1 q2
  · rw [rr 8 _ (by omega) (by omega)] at q
    have hoc : ¬ o = c := fun z => by subst z; exact q (E3 o ho h3).2
    rw [cf_fw2_r (by omega) (by omega)]; exact E2 o ho q
  · by_cases e : o = c
    · subst e; exact (hw u hu).1
    · refine cf_bad_oth V G V' G' B hc ho e (Bd o ho u hu) (hw u hu).1 (fun ⟨t, q1, q2⟩ => ⟨0, Nat.zero_le _, ?_⟩)
      rw [cf_ds_E2 (t := 0) (by omega) (Nat.zero_le _)] at q2
      have : cf_ds (cf_fw2 S c T tm) c 0 = cf_ds S c 0 := B 9 c (by omega) (by omega) (by omega) (by omega)
      rw [this]; exact q2
  · rw [rr 3 _ (by omega) (by omega)] at q
    rw [rr 5 _ (by omega) (by omega), rr 8 _ (by omega) (by omega)]; exact E3 o ho q
  · rw [rr 6 _ (by omega) (by omega)] at q
    rw [rr 5 _ (by omega) (by omega)]; exact E4 o ho q
/-- no tick is bad if the answer isn't below 0 -/
theorem cf_fb_no {bad : Nat → Bool} {T : Nat} : ∀ d, d ≤ 402 → ¬ cf_fb bad T d < 0 → cf_fb bad T d = nI T ∧ ∀ u, 402 - d ≤ u → u < 402 → bad u = false
  | 0, _, _ => ⟨rfl, fun u h1 h2 => by omega⟩
  | d + 1, h, hn => by
    rw [cf_fb] at hn ⊢
    by_cases q : bad (401 - d) = true
    · rw [if_pos q] at hn
      exfalso
      apply hn
      have : ∀ i : Fin 402, (-10 - nI i.val : Int32) < 0 := by decide +kernel
      exact this ⟨401 - d, by omega⟩
    · rw [if_neg q] at hn ⊢
      obtain ⟨h1, h2⟩ := cf_fb_no d (by omega) hn
      refine ⟨h1, fun u q1 q2 => ?_⟩
      by_cases e : u = 401 - d
      · subst e; rw [cf_not_true]; exact q
      · exact h2 u (by omega) q2
