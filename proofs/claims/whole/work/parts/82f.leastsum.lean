/-! few: clear, leastSum (class). -/
def cf_st3 (S : cf_S) (u : Nat → Nat) : Nat := cf_sx S u 0 + 21 * cf_sx S u 1 + 441 * cf_sx S u 2
/-- at rest each cart's own square is open to it -/
theorem cf_oq_at {S : cf_S} {ls : Nat} (I : cf_Ir ls S) {u : Nat → Nat} (W : cf_FW S u) {i : Nat} (hi : i < 3) (hu : ¬ u i = 0) : cf_oq S u (u i - 1) (S 9 (u i - 1) % 64) = true := by
  have V := I.1
  have G := I.2.1
  have hwh := cf_V_wh V
  have hui := W.1 i hi
  have hc : u i - 1 < S 0 2 := by omega
  obtain ⟨w1, w2, w3, w4⟩ := W.2.2.2.2.2.2.1 i hi (by omega)
  have hv := (V.2.2.2.2.2.2.1 _ hc).2.1
  have bd := I.2.2.2.2.1 _ hc 0 (by omega)
  have at_ := cf_sd_at V G hc 0
  have at_ : cf_has (cf_sd S 0 (u i - 1)) (S 9 (u i - 1) % 64) = true := at_
  have hd_ : ∀ o p, cf_has (cf_sd S 0 o) p = true → cf_has (cf_hd S 0 o) p = true := fun o p h => by
    unfold cf_hd; rw [cf_hor, cf_hor, h]; rfl
  unfold cf_bad at bd
  rw [Bool.or_eq_false_iff, Bool.not_eq_false'] at bd
  obtain ⟨b1, b2⟩ := bd
  unfold cf_fit at b1
  rw [Bool.and_eq_true, decide_eq_true_iff, Bool.or_eq_true, decide_eq_true_iff, decide_eq_true_iff, cf_dj] at b1
  have hb : cf_isb S (S 9 (u i - 1) % 64) = false := by
    rw [← cf_has_bar V hv.1, cf_not_true]
    exact b1.1 _ (hd_ _ _ at_)
  unfold cf_oq cf_fs
  rw [decide_eq_true hv.1, hb]
  have h2 : cf_has (cf_sto S u) (S 9 (u i - 1) % 64) = false := by
    rw [cf_not_true]
    intro z
    unfold cf_sto at z
    rw [cf_has_un, cf_any_iff] at z
    obtain ⟨o, ho, z⟩ := z
    have z : cf_has (if o + 1 = u 0 ∨ o + 1 = u 1 ∨ o + 1 = u 2 then 0 else cf_sd S 0 o) (S 9 (u i - 1) % 64) = true := z
    by_cases q : o + 1 = u 0 ∨ o + 1 = u 1 ∨ o + 1 = u 2
    · rw [if_pos q, cf_h0] at z; cases z
    · rw [if_neg q] at z
      have hne : ¬ o = u i - 1 := fun w => by
        match i, hi with
        | 0, _ => omega
        | 1, _ => omega
        | 2, _ => omega
      unfold cf_mta at b2
      rw [cf_not_true, cf_any_iff] at b2
      refine b2 ⟨o, ho, ?_⟩
      unfold cf_mtg
      rw [decide_eq_false hne, Bool.not_false, Bool.true_and, Bool.or_eq_true, decide_eq_true_iff, cf_dj]
      left
      intro w
      exact w _ (hd_ _ _ at_) (hd_ _ _ z)
  rw [h2]
  have h3 : (decide (S 3 (u i - 1) = 1) || !cf_has (cf_sq S 0 0) (S 9 (u i - 1) % 64)) = true := by
    rw [Bool.or_eq_true, decide_eq_true_iff, Bool.not_eq_true', cf_not_true]
    rcases b1.2 with z | z
    · exact Or.inl z.1
    · right
      have e : cf_st S 0 (u i - 1) / 256 = 0 := w2
      rw [e, cf_dj] at z
      exact z _ (hd_ _ _ at_)
  rw [h3]; rfl
theorem cf_sx_lt {S : cf_S} {ls : Nat} (I : cf_Ir ls S) {u : Nat → Nat} (W : cf_FW S u) {i : Nat} (hi : i < 3) : cf_sx S u i < 21 ∧ (u i = 0 → cf_sx S u i = 20) ∧ (¬ u i = 0 → cf_sx S u i < cf_rk S 64 ∧ cf_sk S (cf_sx S u i) = S 9 (u i - 1) % 64) := by
  have hn := W.2.2.2.2.2.2.2
  unfold cf_sx
  by_cases z : u i = 0
  · rw [if_pos z]; exact ⟨by omega, fun _ => rfl, fun q => absurd z q⟩
  · rw [if_neg z]
    have hf := cf_oq_fs (cf_oq_at I W hi z)
    have h64 : S 9 (u i - 1) % 64 < 64 := Nat.mod_lt _ (by decide)
    have lt := cf_rk_lt h64 hf
    exact ⟨by omega, fun q => absurd q z, fun _ => ⟨lt, cf_sk_rk h64 hf⟩⟩
theorem cf_pp_st {S : cf_S} {ls : Nat} (I : cf_Ir ls S) {u : Nat → Nat} (W : cf_FW S u) : cf_pp S u (cf_st3 S u) := by
  obtain ⟨a0, b0, c0⟩ := cf_sx_lt I W (i := 0) (by omega)
  obtain ⟨a1, b1, c1⟩ := cf_sx_lt I W (i := 1) (by omega)
  obtain ⟨a2, b2, c2⟩ := cf_sx_lt I W (i := 2) (by omega)
  obtain ⟨p0, p1, p2⟩ := cf_p0_mk a0 a1 a2
  have key : ∀ i, i < 3 → cf_p0 (cf_st3 S u) i = cf_sx S u i := fun i hi => by
    match i, hi with
    | 0, _ => exact p0
    | 1, _ => exact p1
    | 2, _ => exact p2
  refine ⟨by unfold cf_st3; omega, fun i hi => ?_⟩
  rw [key i hi]
  obtain ⟨a, b, c⟩ := cf_sx_lt I W hi
  refine ⟨b, fun z => Or.inl ⟨(c (by omega)).1, ?_⟩⟩
  rw [(c (by omega)).2]
  exact cf_oq_at I W hi (by omega)
section RXE
variable {L : Nat} {hl : Nat → Nat → Int64} {v : Nat → Nat → Option Nat}
variable {RI : Int32 → (Nat → Nat → Int32) → (Nat → Nat → Int64) → (Nat → Nat → Option Nat) → Prop}
variable {RV : (Nat → Nat → Int32) → (Nat → Nat → Int64) → (Nat → Nat → Option Nat) → Prop}
theorem c7a {hi0 : Nat → Nat → Int32} {y : Int32} (k : ∀ hi2, (∀ i j, ¬ i = 140 → hi2 i j = hi0 i j) → (∀ j, j < 9261 → hi2 140 j = y) → RV hi2 hl v) :
    rx_CV L rx_tr 7 [.ref 140, .int y] hi0 hl v RV := by
  have lp : ∀ d i, i + d = 9261 → ∀ hi : Nat → Nat → Int32, (∀ x y, ¬ x = 140 → hi x y = hi0 x y) → (∀ j, j < i → hi 140 j = y) → rx_aw 7 5 [.ref 140, .int y, .int (nI i), .int 9261] [] (rx_hp L rx_tr hi hl v) (fun r h2 => r = none ∧ rx_ok2 L rx_tr h2 RV) := by
    intro d
    induction d with
    | zero =>
      intro i hid hi F W
      refine w7_fill_at140_5 ⟨fun g => c_retV (k hi F (fun j hj => W j (by omega))), fun g => absurd ?_ g⟩
      rw [show (9261 : Int32) = nI 9261 from rfl, cf_nle (by omega) (by omega)]; omega
    | succ d ih =>
      intro i hid hi F W
      refine w7_fill_at140_5 ⟨fun g => ?_, fun g => ⟨i, rfl, by omega, ?_⟩⟩
      · rw [show (9261 : Int32) = nI 9261 from rfl, cf_nle (by omega) (by omega)] at g; omega
      · rw [show nI i + 1 = nI (i + 1) from nI_add i 1]
        refine ih (i + 1) (by omega) _ (fun x y q => ?_) (fun j hj => ?_)
        · rw [cf_ru_ne (by omega)]; exact F x y q
        · by_cases e : j = i
          · subst e; rw [cf_ru_eq]
          · rw [cf_ru_ne (by omega)]; exact W j (by omega)
  exact w7_fill_at140 (lp 9261 0 (by omega) hi0 (fun _ _ _ => rfl) (fun j hj => by omega))
theorem c131 {hi0 : Nat → Nat → Int32} (k : ∀ hi2, (∀ a b, ¬ (140 ≤ a ∧ a ≤ 142) → hi2 a b = hi0 a b) → (∀ j, j < 9261 → hi2 140 j = nI 1000000) → (∀ r, r < 8 → hi2 141 (9261 + r) = nI (9261 + r) ∧ hi2 142 (9261 + r) = nI (9261 + r)) → RV hi2 hl v) : rx_CV L rx_tr 131 [.ref 134] hi0 hl v RV := by
  refine w131_clear (c7a (fun hi1 F1 W1 => ?_))
  have lp : ∀ d i, i + d = 8 → ∀ hi : Nat → Nat → Int32, (∀ a b, ¬ (140 ≤ a ∧ a ≤ 142) → hi a b = hi0 a b) → (∀ j, j < 9261 → hi 140 j = nI 1000000) → (∀ r, r < i → hi 141 (9261 + r) = nI (9261 + r) ∧ hi 142 (9261 + r) = nI (9261 + r)) → rx_aw 131 11 [.ref 134, .int (nI i)] [] (rx_hp L rx_tr hi hl v) (fun r h2 => r = none ∧ rx_ok2 L rx_tr h2 RV) := by
    intro d
    induction d with
    | zero =>
      intro i hid hi F W W2
      refine w131_clear_11 ⟨fun _ => c_retV (k hi F W (fun r hr => W2 r (by omega))), fun g => absurd ?_ g⟩
      rw [show (8 : Int32) = nI 8 from rfl, cf_nle (by omega) (by omega)]; omega
    | succ d ih =>
      intro i hid hi F W W2
      have e : (9261 : Int32) + nI i = nI (9261 + i) := by rw [show (9261 : Int32) = nI 9261 from rfl, nI_add]
      refine w131_clear_11 ⟨fun g => ?_, fun _ => ⟨9261 + i, e, by omega, 9261 + i, e, by omega, ?_⟩⟩
      · rw [show (8 : Int32) = nI 8 from rfl, cf_nle (by omega) (by omega)] at g; omega
      · rw [e, show nI i + 1 = nI (i + 1) from nI_add i 1]
        refine ih (i + 1) (by omega) _ (fun a b q => by rw [cf_ru_ne (by omega), cf_ru_ne (by omega)]; exact F a b q) (fun j hj => by rw [cf_ru_ne (by omega), cf_ru_ne (by omega)]; exact W j hj) (fun r hr => ?_)
        by_cases z : r = i
        · subst z
          exact ⟨by rw [cf_ru_ne (by omega), cf_ru_eq], cf_ru_eq⟩
        · rw [cf_ru_ne (by omega), cf_ru_ne (by omega), cf_ru_ne (by omega), cf_ru_ne (by omega)]
          exact W2 r (by omega)
  exact lp 8 0 (by omega) hi1 (fun a b q => F1 a b (by omega)) W1 (fun r hr => by omega)
theorem c124 {hi0 : Nat → Nat → Int32} {S : cf_S} {ls : Nat} (I : cf_Ir ls S) (X : cf_XR S hi0 hl) {u : Nat → Nat} (W : cf_FW S u)
    (k : ∀ z hi2, (∀ a b, ¬ (134 ≤ a ∧ a ≤ 142) → hi2 a b = hi0 a b) → cf_an (cf_gg S u) (cf_ss S u) (cf_st3 S u) z → RI z hi2 hl v) : rx_CI L rx_tr 124 [.ref 134, .int (oI (u 0)), .int (oI (u 1)), .int (oI (u 2))] hi0 hl v RI := by
  have V := X.1.1
  have h6 := V.2.2.1
  have F := cf_game V W
  have P := cf_pp_st I W
  have hn := W.2.2.2.2.2.2.2
  have hu3 := W.1
  have u0 := hu3 0 (by omega)
  have u1 := hu3 1 (by omega)
  have u2 := hu3 2 (by omega)
  have hs : ∀ i, i < 3 → ¬ u i = 0 → cf_fs S (S 9 (u i - 1) % 64) = true := fun i hi z => cf_oq_fs (cf_oq_at I W hi z)
  refine w124_leastSum (c125 X hn (fun hi1 F1 K1 => ?_))
  have X1 : cf_XR S hi1 hl := cf_A_XR X (fun a b _ _ => F1 a b (by omega) (by omega)) (fun _ _ _ _ => rfl)
  have sto : ∀ {Rr : Int64 → (Nat → Nat → Int32) → (Nat → Nat → Int64) → (Nat → Nat → Option Nat) → Prop}, Rr (cf_sto S u) hi1 hl v → rx_CL L rx_tr 126 [.ref 134, .int (oI (u 0)), .int (oI (u 1)), .int (oI (u 2))] hi1 hl v Rr := fun {Rr} z => by
    let u' : Nat → Nat := fun i => if i < 3 then u i else 0
    have e : cf_sto S u' = cf_sto S u := rfl
    rw [← e] at z
    exact c126 (u := u') X1 (fun i => by
      show (if i < 3 then u i else 0) ≤ 6
      split
      · rename_i q; have := hu3 i q; omega
      · omega) z
  refine sto (c127 (i := 0) X1 K1 W (by omega) (hs 0 (by omega)) (fun hi2 F2 T0 => ?_))
  have X2 : cf_XR S hi2 hl := cf_A_XR X1 (fun a b _ _ => F2 a b (by omega) (by omega) (by omega)) (fun _ _ _ _ => rfl)
  have K2 : cf_Sk S hi2 := cf_Sk_ext K1 (fun a b _ _ => F2 a b (by omega) (by omega) (by omega))
  refine c127 (i := 1) X2 K2 W (by omega) (hs 1 (by omega)) (fun hi3 F3 T1 => ?_)
  have X3 : cf_XR S hi3 hl := cf_A_XR X2 (fun a b _ _ => F3 a b (by omega) (by omega) (by omega)) (fun _ _ _ _ => rfl)
  have K3 : cf_Sk S hi3 := cf_Sk_ext K2 (fun a b _ _ => F3 a b (by omega) (by omega) (by omega))
  refine c127 (i := 2) X3 K3 W (by omega) (hs 2 (by omega)) (fun hi4 F4 T2 => ?_)
  refine c131 (fun hi5 F5 W5 W6 => ?_)
  have T : cf_Tb (cf_gg S u) (cf_ss S u) (cf_hh S u) hi5 := by
    refine cf_Tb_ext (hi := hi4) ⟨fun i hi => ?_, fun i p m hi hp hm => ?_, fun i p hi hp => ?_⟩ (fun a b q1 q2 => F5 a b (by omega))
    · match i, hi with
      | 0, _ => rw [F4 _ _ (by omega) (by omega) (by omega), F3 _ _ (by omega) (by omega) (by omega)]; exact T0.1
      | 1, _ => rw [F4 _ _ (by omega) (by omega) (by omega)]; exact T1.1
      | 2, _ => exact T2.1
    · match i, hi with
      | 0, _ => rw [F4 _ _ (by omega) (by omega) (by omega), F3 _ _ (by omega) (by omega) (by omega)]; exact T0.2.1 p m hp hm
      | 1, _ => rw [F4 _ _ (by omega) (by omega) (by omega)]; exact T1.2.1 p m hp hm
      | 2, _ => exact T2.2.1 p m hp hm
    · match i, hi with
      | 0, _ => rw [F4 _ _ (by omega) (by omega) (by omega), F3 _ _ (by omega) (by omega) (by omega)]; exact T0.2.2 p hp
      | 1, _ => rw [F4 _ _ (by omega) (by omega) (by omega)]; exact T1.2.2 p hp
      | 2, _ => exact T2.2.2 p hp
  have fr5 : ∀ a b, ¬ (134 ≤ a ∧ a ≤ 142) → hi5 a b = hi0 a b := fun a b q => by
    rw [F5 a b (by omega), F4 a b (by omega) (by omega) (by omega), F3 a b (by omega) (by omega) (by omega), F2 a b (by omega) (by omega) (by omega), F1 a b (by omega) (by omega)]
  have es : (nI (cf_sx S u 0) + 21 * nI (cf_sx S u 1)) + 441 * nI (cf_sx S u 2) = nI (cf_st3 S u) := by
    rw [show (21 : Int32) = nI 21 from rfl, show (441 : Int32) = nI 441 from rfl, cf_nmul, cf_nmul, nI_add, nI_add]; rfl
  rw [es]
  have hs0 := P.1
  have hno := cf_far_no V W P
  generalize cf_st3 S u = s0 at *
  have hb : cf_h3 (cf_hh S u) s0 < 2 ^ 31 := by
    have a : ∀ i, i < 3 → cf_hh S u i (cf_p0 s0 i) ≤ 1000000 := fun i hi => by
      rcases F.2.2.2.1 i (cf_p0 s0 i) hi (by have := cf_p0_lt s0 i; omega) with q | q <;> omega
    have := a 0 (by omega)
    have := a 1 (by omega)
    have := a 2 (by omega)
    unfold cf_h3; omega
  refine c132 T (by omega) ⟨fun q => ⟨s0, rfl, hs0, ?_⟩, fun q => c_retI (k _ hi5 fr5 (Or.inr ⟨rfl, hno ?_⟩))⟩
  · rw [show (1000000 : Int32) = nI 1000000 from rfl, cf_lt, nI_toInt hb, nI_toInt (by omega)] at q
    have q : cf_h3 (cf_hh S u) s0 < 1000000 := by omega
    have h189 := cf_h3_189 F q
    have G0 : cf_Rg (rx_u hi5 140 s0 0) (fun _ => 0) (fun _ => 0) 0 := by
      refine ⟨fun j => j, fun j => j, fun j hj hr => ?_⟩
      by_cases z : j < 9261
      · rw [cf_Rk_s z] at hr; omega
      · obtain ⟨w1, w2⟩ := W6 (j - 9261) (by omega)
        rw [show 9261 + (j - 9261) = j by omega] at w1 w2
        exact ⟨by rw [cf_ru_ne (by omega)]; exact w1, by rw [cf_ru_ne (by omega)]; exact w2, hj, hj, rfl, rfl, rfl, rfl, fun w => absurd w z, fun w => absurd w z⟩
    refine c134 (r := fun _ => 0) G0 hs0 rfl (by omega) (fun hi6 F6 G6 => ?_)
    have gg := g124 (RI := RI) (hi0 := hi6) (L := L) (hl := hl) (v := v) (x1 := oI (u 0)) (x2 := oI (u 1)) (x3 := oI (u 2)) (x6 := nI s0) (x7 := nI (cf_h3 (cf_hh S u) s0)) (x4 := cf_sto S u) (s0 := s0) F h189 (fun z hi2 G A => k z hi2 (fun a b w => ?_) A) (1000000 - cf_h3 (cf_hh S u) s0) (cf_h3 (cf_hh S u) s0) (by omega) hi6 (cf_fu (fun _ => 1000000) s0 0) (fun _ => false) 0 (fun _ _ _ => rfl) (cf_Tb_ext T (fun a b w1 w2 => by rw [F6 a b (by omega) (by omega), cf_ru_ne (by omega)])) ⟨_, _, _, G6, fun x hx => ?_, fun x hx => ?_, cf_fu_eq, hs0⟩ (by omega) (by omega)
    · exact gg
    · rw [G a b (by omega), F6 a b (by omega) (by omega), cf_ru_ne (by omega)]; exact fr5 a b w
    · rw [F6 _ _ (by omega) (by omega)]
      by_cases z : x = s0
      · subst z; rw [cf_ru_eq, cf_fu_eq]; rfl
      · rw [cf_ru_ne (by omega), cf_fu_ne z]; exact W5 x hx
    · by_cases z : x = s0
      · subst z
        rw [cf_fu_eq, cf_fu_eq]
        refine ⟨by omega, by omega, fun _ => ⟨⟨0, rfl, rfl⟩, q⟩, fun _ => ⟨rfl, by omega, by omega, by omega, by rw [Nat.zero_add]⟩, fun w => by omega, fun w => by cases w⟩
      · rw [cf_fu_ne z, cf_fu_ne z]
        exact ⟨Nat.le_refl _, by omega, fun w => by omega, fun w => by omega, fun _ w => by omega, fun w => by cases w⟩
  · rw [show (1000000 : Int32) = nI 1000000 from rfl, cf_lt, nI_toInt hb, nI_toInt (by omega)] at q
    omega
end RXE
