/-! few of the reference: spread. -/
def cf_lt3 (x : Nat) : Nat := cf_wt1 x 0 + 2 * cf_wt1 x 1 + 4 * cf_wt1 x 2
theorem cf_lt3_bit (x : Nat) {i : Nat} (hi : i < 3) : (nI (cf_lt3 x) >>> (nI i &&& 31)) &&& 1 = nI (cf_wt1 x i) := by
  have a := cf_wt1_c x 0
  have b := cf_wt1_c x 1
  have c := cf_wt1_c x 2
  rw [cf_nshr _ i (by unfold cf_lt3; omega) (by omega), show (1 : Int32) = nI 1 from rfl, cf_nand, Nat.and_one_is_mod]
  congr 1
  unfold cf_lt3
  match i, hi with
  | 0, _ => show (cf_wt1 x 0 + 2 * cf_wt1 x 1 + 4 * cf_wt1 x 2) / 1 % 2 = cf_wt1 x 0; omega
  | 1, _ => show (cf_wt1 x 0 + 2 * cf_wt1 x 1 + 4 * cf_wt1 x 2) / 2 % 2 = cf_wt1 x 1; omega
  | 2, _ => show (cf_wt1 x 0 + 2 * cf_wt1 x 1 + 4 * cf_wt1 x 2) / 4 % 2 = cf_wt1 x 2; omega
/-- a step of all three, by the MOVES -/
def cf_Es (S : cf_S) (u : Nat → Nat) (x : Nat) (m : Nat → Nat) (y : Nat) : Prop := ∃ a b c, cf_nxs (cf_ss S u) x 0 (m 0) = a + 1 ∧ cf_nxs (cf_ss S u) x 1 (m 1) = b + 1 ∧ cf_nxs (cf_ss S u) x 2 (m 2) = c + 1 ∧ cf_col (cf_gg S u) x 0 a 1 b = false ∧ cf_col (cf_gg S u) x 0 a 2 c = false ∧ cf_col (cf_gg S u) x 1 b 2 c = false ∧ y = a + 21 * b + 441 * c
theorem cf_Es_iff {S : cf_S} {u : Nat → Nat} {x : Nat} {hi : Nat → Nat → Int32} {hl : Nat → Nat → Int64} (V : cf_V S) (W : cf_FW S u) (R : cf_Fr S u hi hl) (P : cf_pp S u x) {m : Nat → Nat} (hm : ∀ i, i < 3 → m i < 5) :
    (∀ y, cf_Es S u x m y → (∀ i, i < 3 → cf_rtc S x i (m i) = true) ∧ cf_iS S u hl (cf_pf (cf_gg S u) x) (fun i => cf_rtt S u x i (m i)) (cf_gr u) ∧ cf_ph (cf_gg S u) y = 8 * (400 * cf_rtt S u x 0 (m 0) + 20 * cf_rtt S u x 1 (m 1) + cf_rtt S u x 2 (m 2)) + cf_lt3 x)
    ∧ ((∀ i, i < 3 → cf_rtc S x i (m i) = true) → cf_iS S u hl (cf_pf (cf_gg S u) x) (fun i => cf_rtt S u x i (m i)) (cf_gr u) → ∃ y, cf_Es S u x m y) := by
  have F := cf_game V W
  have hn := W.2.2.2.2.2.2.2
  have hgr : ∀ i, i < 3 → (i < cf_gr u ↔ ¬ u i = 0) := fun i hi => cf_gr_c W.2.1 W.2.2.1 hi
  have g3 := cf_gr_le u
  have hsk : ∀ i, i < 3 → ¬ u i = 0 → cf_fs S (cf_sk S (cf_rtt S u x i (m i))) = true := fun i hi hu => (cf_sk_ok (cf_rtt_lt V W P hi hu)).2.1
  constructor
  · rintro y ⟨a, b, c, e0, e1, e2, c0, c1, c2, ey⟩
    have l0 := cf_nxs_lt F (by omega) (hm 0 (by omega)) e0
    have l1 := cf_nxs_lt F (by omega) (hm 1 (by omega)) e1
    have l2 := cf_nxs_lt F (by omega) (hm 2 (by omega)) e2
    obtain ⟨r0, o0, a0⟩ := (cf_rt_nx V W P (by omega)).mp e0
    obtain ⟨r1, o1, a1⟩ := (cf_rt_nx V W P (by omega)).mp e1
    obtain ⟨r2, o2, a2⟩ := (cf_rt_nx V W P (by omega)).mp e2
    rw [a0, a1] at c0
    rw [a0, a2] at c1
    rw [a1, a2] at c2
    rw [cf_rt_col V W P (by omega) (by omega)] at c0 c1 c2
    obtain ⟨p0, p1, p2⟩ := cf_p0_mk l0 l1 l2
    rw [← ey] at p0 p1 p2
    refine ⟨fun i hi => ?_, fun i hi => ?_, ?_⟩
    · match i, hi with
      | 0, _ => exact r0
      | 1, _ => exact r1
      | 2, _ => exact r2
    · have hi3 : i < 3 := by omega
      have hu := (hgr i hi3).mp hi
      refine ⟨(R.2.2.2.2.2 i hi3 hu _ (hsk i hi3 hu)).mpr ?_, fun j hj => ?_⟩
      · match i, hi3 with
        | 0, _ => exact o0 hu
        | 1, _ => exact o1 hu
        | 2, _ => exact o2 hu
      · have huj := (hgr j (by omega)).mp (by omega)
        match i, hi3, j, hj with
        | 1, _, 0, _ => exact c0 huj hu
        | 2, _, 0, _ => exact c1 huj hu
        | 2, _, 1, _ => exact c2 huj hu
    · refine cf_rt_ph V W P (m := m) (fun i hi => ?_)
      match i, hi with
      | 0, _ => rw [p0, a0]
      | 1, _ => rw [p1, a1]
      | 2, _ => rw [p2, a2]
  · intro h1 h2
    have oq : ∀ i, i < 3 → ¬ u i = 0 → cf_oq S u (u i - 1) (cf_sk S (cf_rtt S u x i (m i))) = true := fun i hi hu => (R.2.2.2.2.2 i hi hu _ (hsk i hi hu)).mp (h2 i ((hgr i hi).mpr hu)).1
    have nx : ∀ i, i < 3 → cf_nxs (cf_ss S u) x i (m i) = (if cf_p0 x i = 20 then 20 else cf_rtt S u x i (m i)) + 1 := fun i hi => (cf_rt_nx V W P hi).mpr ⟨h1 i hi, oq i hi, rfl⟩
    refine ⟨_, _, _, _, nx 0 (by omega), nx 1 (by omega), nx 2 (by omega), ?_, ?_, ?_, rfl⟩
    · rw [cf_rt_col V W P (by omega) (by omega)]
      intro z1 z2
      exact (h2 1 ((hgr 1 (by omega)).mpr z2)).2 0 (by omega)
    · rw [cf_rt_col V W P (by omega) (by omega)]
      intro z1 z2
      exact (h2 2 ((hgr 2 (by omega)).mpr z2)).2 0 (by omega)
    · rw [cf_rt_col V W P (by omega) (by omega)]
      intro z1 z2
      exact (h2 2 ((hgr 2 (by omega)).mpr z2)).2 1 (by omega)
/-- the three MOVES in one number -/
def cf_m5 (n : Nat) : Nat → Nat
  | 0 => n % 5
  | 1 => n / 5 % 5
  | _ => n / 5 / 5 % 5
section RXE
variable {L : Nat} {t : List (Nat × Nat)} {hl : Nat → Nat → Int64} {v : Nat → Nat → Option Nat}
variable {RI : Int32 → (Nat → Nat → Int32) → (Nat → Nat → Int64) → (Nat → Nat → Option Nat) → Prop}
variable {RV : (Nat → Nat → Int32) → (Nat → Nat → Int64) → (Nat → Nat → Option Nat) → Prop}
/-- one cart's part of a step -/
theorem g236 {hi : Nat → Nat → Int32} {S : cf_S} {u : Nat → Nat} {x : Nat} {x2 x3 x4 : Int32} {Q : Option Value → rx_H → Prop} (V : cf_V S) (W : cf_FW S u) (R : cf_Fr S u hi hl) (P : cf_pp S u x) (hh : ∀ i, i < 3 → hi 132 i = nI (cf_pf (cf_gg S u) x i)) {i r : Nat} (b : Bool) (h3 : i < 3) (hr : r < 2 ^ 20)
    (k : ∀ hi2, (∀ a b, ¬ (a = 133 ∧ b = i) → hi2 a b = hi a b) → hi2 133 i = nI (cf_rtt S u x i (r % 5)) → rx_aw 236 36 [.ref 90, .int (nI (cf_lt3 x)), .int x2, .int x3, .int x4, .int (nI (r / 5)), .int (cf_B (b && cf_rtc S x i (r % 5))), .int (nI (i + 1)), rx_no, rx_no, rx_no] [] (rx_hp L t hi2 hl v) Q) :
    rx_aw 236 36 [.ref 90, .int (nI (cf_lt3 x)), .int x2, .int x3, .int x4, .int (nI r), .int (cf_B b), .int (nI i), rx_no, rx_no, rx_no] [] (rx_hp L t hi hl v) Q := by
  have hwh := cf_V_wh V
  have hg := R.2.1
  have g3 := cf_gr_le u
  have hgr := cf_gr_c W.2.1 W.2.2.1 h3
  have em : nI r - nI r / 5 * 5 = nI (r % 5) := by rw [show (5 : Int32) = nI 5 from rfl, cf_nmod (by omega) (by decide)]
  have ed : nI r / 5 = nI (r / 5) := by rw [show (5 : Int32) = nI 5 from rfl, cf_ndiv (by omega) (by decide)]
  have m5 : r % 5 < 5 := Nat.mod_lt _ (by decide)
  have pl := cf_pf_lt V W P h3
  have hhi := hh i h3
  have z0 : ((0 : Int32)).toInt = 0 := rfl
  -- done: it stays
  have stay : cf_p0 x i = 20 → ((nI (r % 5) = 0 → rx_aw 236 36 [.ref 90, .int (nI (cf_lt3 x)), .int x2, .int x3, .int x4, .int (nI (r / 5)), .int (cf_B b &&& 1), .int (nI i + 1), rx_no, rx_no, rx_no] [] (rx_hp L t (rx_u hi 133 i (hi 132 i)) hl v) Q) ∧ (¬ nI (r % 5) = 0 → rx_aw 236 36 [.ref 90, .int (nI (cf_lt3 x)), .int x2, .int x3, .int x4, .int (nI (r / 5)), .int (cf_B b &&& 0), .int (nI i + 1), rx_no, rx_no, rx_no] [] (rx_hp L t (rx_u hi 133 i (hi 132 i)) hl v) Q)) := by
    intro q
    have e1 : cf_rtc S x i (r % 5) = decide (r % 5 = 0) := by unfold cf_rtc; rw [if_pos q]
    have e2 : cf_rtt S u x i (r % 5) = cf_pf (cf_gg S u) x i := by unfold cf_rtt; rw [if_pos q]
    have kk := k (rx_u hi 133 i (hi 132 i)) (fun a b z => cf_ru_ne z) (by rw [cf_ru_eq, e2]; exact hhi)
    rw [e1] at kk
    rw [show nI i + 1 = nI (i + 1) from nI_add i 1, show (0 : Int32) = nI 0 from rfl, nI_eq (by omega) (by omega)]
    refine ⟨fun z => ?_, fun z => ?_⟩
    · rw [decide_eq_true z, Bool.and_true] at kk
      rw [cf_Band1]; exact kk
    · rw [decide_eq_false z, Bool.and_false] at kk
      rw [show (nI 0 : Int32) = 0 from rfl, cf_Band0]; exact kk
  -- it goes on
  have nx : ¬ cf_p0 x i = 20 → ∀ hi2 (y : Int32) (bb : Bool), (∀ a b, ¬ (a = 133 ∧ b = i) → hi2 a b = hi a b) → hi2 133 i = nI (cf_rtt S u x i (r % 5)) → y = cf_B (b && bb) → cf_rtc S x i (r % 5) = bb → rx_aw 236 36 [.ref 90, .int (nI (cf_lt3 x)), .int x2, .int x3, .int x4, .int (nI (r / 5)), .int y, .int (nI i + 1), rx_no, rx_no, rx_no] [] (rx_hp L t hi2 hl v) Q := by
    intro q hi2 y bb F e1 e2 e3
    have kk := k hi2 F e1
    rw [e3] at kk
    rw [show nI i + 1 = nI (i + 1) from nI_add i 1, e2]; exact kk
  refine w236_spread_r_36 ⟨fun q => ?_, fun _ => ⟨fun q => ⟨i, rfl, h3, i, rfl, h3, ?_⟩, fun q => ⟨fun qb => ⟨i, rfl, h3, i, rfl, h3, fun q2 => ?_, fun q2 => ⟨i, rfl, h3, cf_pf (cf_gg S u) x i, ?_, pl, ?_⟩⟩, fun qb => ⟨i, rfl, h3, i, rfl, h3, ?_⟩⟩⟩⟩
  · rw [show (3 : Int32) = nI 3 from rfl, cf_nle (by omega) (by omega)] at q; omega
  · rw [hg, cf_nle (by omega) (by omega)] at q
    rw [em, ed]
    exact stay ((P.2 i h3).1 (Classical.byContradiction fun z => by have := hgr.mpr z; omega))
  all_goals rw [hg, cf_nle (by omega) (by omega)] at q
  · -- no MOVE
    rw [em, cf_le', nI_toInt (by omega), z0] at q2
    rw [cf_lt3_bit x h3, show (1 : Int32) = nI 1 from rfl, nI_eq (by have := cf_wt1_c x i; omega) (by omega)] at qb
    have q20 : ¬ cf_p0 x i = 20 := by rcases cf_wt1_c x i with z | z <;> omega
    rw [ed]
    have e0 : r % 5 = 0 := by omega
    refine nx q20 _ _ true (fun a b z => cf_ru_ne z) ?_ (by rw [cf_Band1, Bool.and_true]) (by unfold cf_rtc; rw [if_neg q20, if_pos e0])
    rw [cf_ru_eq, hhi]
    unfold cf_rtt cf_pf
    rw [if_neg q20, if_neg q20, if_pos e0]
  · rw [cf_ru_ne (by omega)]; exact hhi
  · rw [em, cf_le', nI_toInt (by omega), z0] at q2
    rw [cf_lt3_bit x h3, show (1 : Int32) = nI 1 from rfl, nI_eq (by have := cf_wt1_c x i; omega) (by omega)] at qb
    have q20 : ¬ cf_p0 x i = 20 := by rcases cf_wt1_c x i with z | z <;> omega
    have hu : ¬ u i = 0 := hgr.mp (by omega)
    obtain ⟨o1, o2, o3⟩ := cf_pf_open V W P h3 hu
    have epf : cf_pf (cf_gg S u) x i = cf_p0 x i := by unfold cf_pf; rw [if_neg q20]
    rw [epf] at o1 o2
    obtain ⟨s1, s2, s3⟩ := cf_sk_ok o1
    have s4 := cf_fs_lt s2
    have R2 : cf_Fr S u (rx_u hi 133 i (hi 132 i)) hl := cf_Fr_ext R (fun a b z => cf_ru_ne (by omega))
    rw [epf, R2.2.2.2.1 _ o1, em, ed, show nI (r % 5) - 1 = nI (r % 5 - 1) from cf_nsub (b := 1) (by omega)]
    refine c181 R2.1.1 s4 (by omega) ?_
    have er : ¬ r % 5 = 0 := by omega
    cases es : cf_step (S 0 0) (S 0 1) (cf_sk S (cf_p0 x i)) (r % 5 - 1) with
    | none =>
      have ec : cf_rtc S x i (r % 5) = false := by unfold cf_rtc; rw [if_neg q20, if_neg er, es]
      have et : cf_rtt S u x i (r % 5) = cf_p0 x i := by unfold cf_rtt; rw [if_neg q20, if_neg er, es]
      refine ⟨fun z => ⟨fun _ => ⟨i, rfl, h3, i, rfl, h3, nx q20 _ _ false (fun a b w => by rw [cf_ru_ne w, cf_ru_ne w]) ?_ (by rw [cf_Band1, cf_Band0, Bool.and_false]) ec⟩, fun z2 => absurd z z2⟩, fun z => absurd (by decide) z⟩
      rw [cf_ru_eq, cf_ru_ne (by omega), hhi, et, epf]
    | some q' =>
      have lq := cf_step_lt s4 es
      have ix := R2.2.2.2.2.1 q' lq
      have eo : oO (some q') = nI q' := rfl
      rw [eo]
      have nn : ¬ nI q' < 0 := by rw [cf_lt, nI_toInt (by omega), z0]; omega
      refine ⟨fun z => absurd z nn, fun _ => ⟨q', rfl, by omega, fun z => ⟨fun z2 => absurd z2 nn, fun _ => ⟨q', rfl, by omega, fun _ => ⟨i, rfl, h3, i, rfl, h3, ?_⟩, fun z2 => absurd z z2⟩⟩, fun z => ⟨fun z2 => absurd z2 nn, fun _ => ⟨q', rfl, by omega, fun z2 => absurd z2 z, fun _ => ⟨q', rfl, by omega, i, rfl, h3, ?_⟩⟩⟩⟩⟩
      · have hf : ¬ cf_fs S q' = true := fun w => by
          rw [ix, if_pos w, cf_oneg (by have := cf_rk_lt (show q' < 64 by omega) w; have := W.2.2.2.2.2.2.2; omega)] at z; omega
        have ec : cf_rtc S x i (r % 5) = false := by unfold cf_rtc; rw [if_neg q20, if_neg er, es]; show cf_fs S q' = false; rw [cf_not_true]; exact hf
        have et : cf_rtt S u x i (r % 5) = cf_p0 x i := by unfold cf_rtt; rw [if_neg q20, if_neg er, es]; show (if cf_fs S q' = true then _ else _) = _; rw [if_neg hf]
        refine nx q20 _ _ false (fun a b w => by rw [cf_ru_ne w, cf_ru_ne w]) ?_ (by rw [cf_Band1, cf_Band0, Bool.and_false]) ec
        rw [cf_ru_eq, cf_ru_ne (by omega), hhi, et, epf]
      · have hf : cf_fs S q' = true := Classical.byContradiction fun w => by
          rw [ix, if_neg w] at z; exact z (by decide)
        have ec : cf_rtc S x i (r % 5) = true := by unfold cf_rtc; rw [if_neg q20, if_neg er, es]; exact hf
        have et : cf_rtt S u x i (r % 5) = cf_rk S q' := by unfold cf_rtt; rw [if_neg q20, if_neg er, es]; show (if cf_fs S q' = true then _ else _) = _; rw [if_pos hf]
        refine nx q20 _ _ true (fun a b w => by rw [cf_ru_ne w, cf_ru_ne w]) ?_ (by rw [cf_Band1, cf_Band1, Bool.and_true]) ec
        rw [cf_ru_eq, ix, if_pos hf, cf_oS, et]
  · rw [cf_lt3_bit x h3, show (1 : Int32) = nI 1 from rfl, nI_eq (by have := cf_wt1_c x i; omega) (by omega)] at qb
    rw [em, ed]
    exact stay (by rcases cf_wt1_c x i with z | z <;> omega)
end RXE
