/-! few of the reference: settle. -/
section CFF
variable {S : cf_S} {u : Nat → Nat} {x : Nat}
/-- a cart is done: the reference's number -/
theorem cf_fin_ph (V : cf_V S) (W : cf_FW S u) (P : cf_pp S u x) {j : Nat} (hj : j < 3) (hg : cf_p0 x j + 1 = cf_gg S u j) : cf_ph (cf_gg S u) (x + (20 - cf_p0 x j) * cf_pw j) + 2 ^ j = cf_ph (cf_gg S u) x := by
  have F := cf_game V W
  have g20 := F.1 j hj
  obtain ⟨_, d1, d2⟩ := cf_p0_dn P.1 hj
  generalize x + (20 - cf_p0 x j) * cf_pw j = y at *
  have pf : ∀ i, i < 3 → cf_pf (cf_gg S u) y i = cf_pf (cf_gg S u) x i := fun i hi => by
    unfold cf_pf
    by_cases q : i = j
    · subst q; rw [if_pos d1, if_neg (by omega)]; omega
    · rw [d2 i hi q]
  have wt : ∀ i, i < 3 → ¬ i = j → cf_wt1 y i = cf_wt1 x i := fun i hi q => by unfold cf_wt1; rw [d2 i hi q]
  have wj : cf_wt1 y j = 0 ∧ cf_wt1 x j = 1 := by
    unfold cf_wt1
    rw [if_pos d1, if_neg (by omega)]; exact ⟨rfl, rfl⟩
  unfold cf_ph
  rw [pf 0 (by omega), pf 1 (by omega), pf 2 (by omega)]
  match j, hj with
  | 0, _ =>
    have := wt 1 (by omega) (by omega)
    have := wt 2 (by omega) (by omega)
    have e : 2 ^ 0 = 1 := rfl
    omega
  | 1, _ =>
    have := wt 0 (by omega) (by omega)
    have := wt 2 (by omega) (by omega)
    have e : 2 ^ 1 = 2 := rfl
    omega
  | 2, _ =>
    have := wt 0 (by omega) (by omega)
    have := wt 1 (by omega) (by omega)
    have e : 2 ^ 2 = 4 := rfl
    omega
/-- at its END SQUARE -/
theorem cf_fin_sk (V : cf_V S) (P : cf_pp S u x) {j : Nat} (hj : j < 3) (hu : ¬ u j = 0) (h20 : ¬ cf_p0 x j = 20) : cf_sk S (cf_p0 x j) = S 5 (u j - 1) - 1 ↔ cf_p0 x j + 1 = cf_gg S u j := by
  rcases (P.2 j hj).2 (by omega) with ⟨h1, h2⟩ | ⟨h1, _⟩
  · obtain ⟨s1, s2, s3⟩ := cf_sk_ok h1
    constructor
    · intro e
      unfold cf_gg
      rw [if_neg hu, ← e, if_pos s2, s3]
    · intro e
      have := (cf_gg_sk V (u := u) (i := j) (by omega)).1
      rw [← e, Nat.add_sub_cancel] at this; exact this
  · exact absurd h1 h20
end CFF
section RXE
variable {L : Nat} {t : List (Nat × Nat)} {hl : Nat → Nat → Int64} {v : Nat → Nat → Option Nat}
variable {RI : Int32 → (Nat → Nat → Int32) → (Nat → Nat → Int64) → (Nat → Nat → Option Nat) → Prop}
variable {RV : (Nat → Nat → Int32) → (Nat → Nat → Int64) → (Nat → Nat → Option Nat) → Prop}
/-- what settle keeps -/
def cf_Kt (S : cf_S) (u : Nat → Nat) (s0 vl : Nat) (hi0 hi : Nat → Nat → Int32) (c : Nat → Nat) (e : Nat → Bool) (X : Nat) : Prop := (∀ a b, ¬ (a = 129 ∨ a = 130 ∨ a = 132 ∨ a = 133) → hi a b = hi0 a b) ∧ cf_Cs hi c e ∧ cf_D3 S u s0 c e X vl
/-- all that is done with one state -/
theorem g234 {hi0 : Nat → Nat → Int32} {S : cf_S} {u : Nat → Nat} {s0 vl x : Nat} {e : Nat → Bool} {x2 x3 : Int32} {Q : Option Value → rx_H → Prop} (V : cf_V S) (W : cf_FW S u) (R0 : cf_Fr S u hi0 hl) (P : cf_pp S u x) (hX : e (cf_ph (cf_gg S u) x) = true) (hb : vl + 3 ≤ 3 * cf_cnt e 64000)
    (k : ∀ hi2 c2, cf_Kt S u s0 vl hi0 hi2 c2 e 9261 → rx_aw 234 13 [.ref 90, .int (nI vl), .int x2, .int x3, .int (nI (cf_ph (cf_gg S u) x + 1)), rx_no, rx_no, rx_no] [] (rx_hp L t hi2 hl v) Q) :
    ∀ hi c, cf_Kt S u s0 vl hi0 hi c e x → c (cf_ph (cf_gg S u) x) = vl → (∀ i, i < 3 → hi 132 i = nI (cf_pf (cf_gg S u) x i)) → rx_aw 234 83 [.ref 90, .int (nI vl), .int x2, .int x3, .int (nI (cf_ph (cf_gg S u) x)), .int (nI (cf_lt3 x)), .int 0, rx_no] [] (rx_hp L t hi hl v) Q := by
  have g3 := cf_gr_le u
  have hgr : ∀ i, i < 3 → (i < cf_gr u ↔ ¬ u i = 0) := fun i hi => cf_gr_c W.2.1 W.2.2.1 hi
  have lx := (cf_ph_c V W P).1
  have hwh := cf_V_wh V
  have h6 := V.2.2.1
  have cl := cf_cnt_le e 64000
  have lt3 : cf_lt3 x < 8 := by
    have := cf_wt1_c x 0
    have := cf_wt1_c x 1
    have := cf_wt1_c x 2
    unfold cf_lt3; omega
  -- the end: all edges
  have fin : ∀ hi c, cf_Kt S u s0 vl hi0 hi c e x → c (cf_ph (cf_gg S u) x) = vl → (∀ y w, cf_Ed (cf_gg S u) (cf_ss S u) x y w → c (cf_ph (cf_gg S u) y) ≤ vl + w) → rx_aw 234 13 [.ref 90, .int (nI vl), .int x2, .int x3, .int (nI (cf_ph (cf_gg S u) x) + 1), rx_no, rx_no, rx_no] [] (rx_hp L t hi hl v) Q := by
    intro hi c K hv hE
    rw [show nI (cf_ph (cf_gg S u) x) + 1 = nI (cf_ph (cf_gg S u) x + 1) from nI_add _ 1]
    refine k hi c ⟨K.1, K.2.1, K.2.2.1, fun z Pz hz _ y w E => ?_, K.2.2.2.2⟩
    by_cases q : z = x
    · subst q; rw [hv]; exact hE y w E
    · exact K.2.2.2.1 z Pz hz q y w E
  have lp : ∀ d j, j + d = cf_gr u → ∀ hi c, cf_Kt S u s0 vl hi0 hi c e x → c (cf_ph (cf_gg S u) x) = vl → (∀ i, i < 3 → hi 132 i = nI (cf_pf (cf_gg S u) x i)) → (∀ j', j' < j → cf_p0 x j' + 1 = cf_gg S u j' → c (cf_ph (cf_gg S u) (x + (20 - cf_p0 x j') * cf_pw j')) ≤ vl) → rx_aw 234 83 [.ref 90, .int (nI vl), .int x2, .int x3, .int (nI (cf_ph (cf_gg S u) x)), .int (nI (cf_lt3 x)), .int (nI j), rx_no] [] (rx_hp L t hi hl v) Q := by
    intro d
    induction d with
    | zero =>
      intro j hjd hi c K hv hh hf
      have R := cf_Fr_ext R0 (hi2 := hi) K.1
      have hfin : ∀ i y w, i < 3 → cf_p0 x i + 1 = cf_gg S u i → y = x + (20 - cf_p0 x i) * cf_pw i → w = 0 → c (cf_ph (cf_gg S u) y) ≤ vl + w := fun i y w h1 h2 h3 h4 => by
        have hu : ¬ u i = 0 := (cf_gg_c (S := S) (u := u) (i := i) (by omega)).1
        rw [h3, h4, Nat.add_zero]
        exact hf i (by have := (hgr i h1).mpr hu; omega) h2
      refine w234_settle_r_83 ⟨fun _ => ⟨fun q => fin hi c K hv (fun y w E => ?_), fun q => ?_⟩, fun q => absurd ?_ q⟩
      · rw [show (0 : Int32) = nI 0 from rfl, nI_eq (by omega) (by omega)] at q
        have hx : x = 9260 := (cf_ph_end V W P).mp (by rw [(cf_ph_c V W P).2.1]; exact q)
        rcases E with ⟨i, hi, q1, q2, q3⟩ | ⟨m0, m1, m2, a, b, c', h0, h1, h2, e0, e1, e2, _, _, _, ey, rfl⟩
        · exact hfin i y w hi q1 q2 q3
        · have k20 : ∀ i m a, cf_p0 x i = 20 → cf_nxs (cf_ss S u) x i m = a + 1 → a = 20 := fun i m a z1 z2 => by
            unfold cf_nxs at z2
            rw [if_pos z1] at z2
            split at z2 <;> omega
          have z0 := k20 0 m0 a (by rw [hx]; rfl) e0
          have z1 := k20 1 m1 b (by rw [hx]; rfl) e1
          have z2 := k20 2 m2 c' (by rw [hx]; rfl) e2
          have : y = x := by omega
          rw [this, hv]; omega
      · refine c236 V W R K.2.1 K.2.2 P hX hv hb hh (fun hi2 c2 F2 C2 D2 d1 d2 d3 => fin hi2 c2 ⟨fun a b q => (F2 a b (by omega)).trans (K.1 a b q), C2, D2⟩ d2 (fun y w E => ?_))
        rcases E with ⟨i, hi, q1, q2, q3⟩ | ⟨m0, m1, m2, a, b, c', h0, h1, h2, e0, e1, e2, c0, c1, c2', ey, rfl⟩
        · exact Nat.le_trans (d1 _) (hfin i y w hi q1 q2 q3)
        · refine d3 (m0 + 5 * m1 + 25 * m2) y (by omega) ⟨a, b, c', ?_, ?_, ?_, c0, c1, c2', ey⟩
          · have : cf_m5 (m0 + 5 * m1 + 25 * m2) 0 = m0 := by show (m0 + 5 * m1 + 25 * m2) % 5 = m0; omega
            rw [this]; exact e0
          · have : cf_m5 (m0 + 5 * m1 + 25 * m2) 1 = m1 := by show (m0 + 5 * m1 + 25 * m2) / 5 % 5 = m1; omega
            rw [this]; exact e1
          · have : cf_m5 (m0 + 5 * m1 + 25 * m2) 2 = m2 := by show (m0 + 5 * m1 + 25 * m2) / 5 / 5 % 5 = m2; omega
            rw [this]; exact e2
      · rw [R.2.1, cf_nle (by omega) (by omega)]; omega
    | succ d ih =>
      intro j hjd hi c K hv hh hf
      have h3 : j < 3 := by omega
      have hu := (hgr j h3).mp (by omega)
      have huj := W.1 j h3
      have R := cf_Fr_ext R0 (hi2 := hi) K.1
      have nx : ∀ hi2 c2, cf_Kt S u s0 vl hi0 hi2 c2 e x → c2 (cf_ph (cf_gg S u) x) = vl → (∀ i, i < 3 → hi2 132 i = nI (cf_pf (cf_gg S u) x i)) → (∀ y, c2 y ≤ c y) → (cf_p0 x j + 1 = cf_gg S u j → c2 (cf_ph (cf_gg S u) (x + (20 - cf_p0 x j) * cf_pw j)) ≤ vl) → rx_aw 234 83 [.ref 90, .int (nI vl), .int x2, .int x3, .int (nI (cf_ph (cf_gg S u) x)), .int (nI (cf_lt3 x)), .int (nI j + 1), rx_no] [] (rx_hp L t hi2 hl v) Q := by
        intro hi2 c2 K2 hv2 hh2 dec h
        rw [show nI j + 1 = nI (j + 1) from nI_add j 1]
        refine ih (j + 1) (by omega) hi2 c2 K2 hv2 hh2 (fun j' hj' q => ?_)
        by_cases z : j' = j
        · subst z; exact h q
        · exact Nat.le_trans (dec _) (hf j' (by omega) q)
      refine w234_settle_r_83 ⟨fun q => ?_, fun _ => ⟨fun q => ⟨j, rfl, h3, cf_pf (cf_gg S u) x j, hh j h3, cf_pf_lt V W P h3, j, rfl, h3, u j - 1, R.2.2.1 j h3 hu, by omega, fun q2 => ?_, fun q2 => nx hi c K hv hh (fun _ => Nat.le_refl _) (fun q3 => absurd ?_ q2)⟩, fun q => nx hi c K hv hh (fun _ => Nat.le_refl _) (fun q3 => ?_)⟩⟩
      · rw [R.2.1, cf_nle (by omega) (by omega)] at q; omega
      all_goals rw [cf_lt3_bit x h3, show (1 : Int32) = nI 1 from rfl, nI_eq (by have := cf_wt1_c x j; omega) (by omega)] at q
      · have q20 : ¬ cf_p0 x j = 20 := by rcases cf_wt1_c x j with z | z <;> omega
        have epf : cf_pf (cf_gg S u) x j = cf_p0 x j := by unfold cf_pf; rw [if_neg q20]
        have o1 := (cf_pf_open V W P h3 hu).1
        have w5 := (W.2.2.2.2.2.2.1 j h3 (by omega)).2.2.1
        have e97 := (R.1.2.2.2.2.2.1 (u j - 1) (by omega)).2.2.2.1 w5
        have gl := cf_goal_lt V (c := u j - 1) (by omega) w5
        rw [epf] at o1
        obtain ⟨s1, s2, s3⟩ := cf_sk_ok o1
        rw [epf, R.2.2.2.1 _ o1, e97.1, nI_eq (by omega) (by omega), cf_fin_sk V P h3 hu q20] at q2
        have eph := cf_fin_ph V W P h3 q2
        have eidx : nI (cf_ph (cf_gg S u) x) - ((1 : Int32) <<< (nI j &&& 31)) = nI (cf_ph (cf_gg S u) (x + (20 - cf_p0 x j) * cf_pw j)) := by
          rw [cf_sh1 (by omega), ← eph, cf_nsub (by omega), Nat.add_sub_cancel]
        have E : cf_Ed (cf_gg S u) (cf_ss S u) x (x + (20 - cf_p0 x j) * cf_pw j) 0 := Or.inl ⟨j, h3, q2, rfl, rfl⟩
        have Py := cf_pp_ed V W P E
        have ly := (cf_ph_c V W Py).1
        have cb := (K.2.2.1 _ ly).1
        have D2 := cf_D3_mn V W K.2.2 P hX hv hb E
        rw [Nat.add_zero] at D2
        rw [eidx]
        refine c232 K.2.1 ly (by omega) (by omega) (fun hi2 z F2 C2 => nx hi2 _ ⟨fun a b w => (F2 a b (by omega)).trans (K.1 a b w), C2, D2⟩ ?_ (fun i h => (F2 _ _ (by omega)).trans (hh i h)) (fun y => cf_mn_le _ _ _ y) (fun _ => cf_mn_at _ _ _))
        by_cases z : cf_ph (cf_gg S u) x = cf_ph (cf_gg S u) (x + (20 - cf_p0 x j) * cf_pw j)
        · have : 0 < 2 ^ j := Nat.two_pow_pos j
          omega
        · rw [cf_mn_ne z]; exact hv
      · have q20 : ¬ cf_p0 x j = 20 := by rcases cf_wt1_c x j with z | z <;> omega
        have epf : cf_pf (cf_gg S u) x j = cf_p0 x j := by unfold cf_pf; rw [if_neg q20]
        have o1 := (cf_pf_open V W P h3 hu).1
        have w5 := (W.2.2.2.2.2.2.1 j h3 (by omega)).2.2.1
        have e97 := (R.1.2.2.2.2.2.1 (u j - 1) (by omega)).2.2.2.1 w5
        have gl := cf_goal_lt V (c := u j - 1) (by omega) w5
        rw [epf] at o1
        obtain ⟨s1, s2, s3⟩ := cf_sk_ok o1
        rw [epf, R.2.2.2.1 _ o1, e97.1, nI_eq (by omega) (by omega), cf_fin_sk V P h3 hu q20]
        exact q3
      · have q20 : cf_p0 x j = 20 := by rcases cf_wt1_c x j with z | z <;> omega
        have := (cf_game V W).1 j h3
        omega
  exact fun hi c K hv hh => lp (cf_gr u) 0 (by omega) hi c K hv hh (fun j' h => by omega)
theorem c234 {hi0 : Nat → Nat → Int32} {S : cf_S} {u : Nat → Nat} {s0 vl : Nat} {c0 : Nat → Nat} {e0 : Nat → Bool} (V : cf_V S) (W : cf_FW S u) (R0 : cf_Fr S u hi0 hl) (C0 : cf_Cs hi0 c0 e0) (D0 : cf_D3 S u s0 c0 e0 9261 vl) (hvl : vl < 1000000) (Z0 : ∀ j, j < 64000 → e0 j = true → ¬ j % 8 = 0)
    (k : ∀ hi2 c2 e2 (f : Bool), (∀ a b, ¬ (a = 129 ∨ a = 130 ∨ a = 132 ∨ a = 133) → hi2 a b = hi0 a b) → cf_Cs hi2 c2 e2 → cf_D3 S u s0 c2 e2 9261 (vl + 1) → (f = true → ∃ m, m ≤ vl ∧ cf_Re (cf_gg S u) (cf_ss S u) s0 9260 m) → (f = false → ∀ j, j < 64000 → e2 j = true → ¬ j % 8 = 0) → RI (cf_B f) hi2 hl v) : rx_CI L t 234 [.ref 90, .int (nI vl)] hi0 hl v RI := by
  let Fs : Bool → (Nat → Bool) → Prop := fun f e => (f = true → ∃ m, m ≤ vl ∧ cf_Re (cf_gg S u) (cf_ss S u) s0 9260 m) ∧ (f = false → ∀ j, j < 64000 → e j = true → ¬ j % 8 = 0)
  have ret : ∀ (hi : Nat → Nat → Int32) c e (f : Bool), cf_Kt S u s0 vl hi0 hi c e 9261 → Fs f e → (∀ j, j < 64000 → e j = false → ¬ c j = vl) → rx_aw 234 4 [.ref 90, .int (nI vl), .int (cf_B false), .int (cf_B f), rx_no, rx_no, rx_no, rx_no] [] (rx_hp L t hi hl v) (fun r h2 => ∃ z : Int32, r = some (.int z) ∧ rx_ok2 L t h2 (RI z)) := by
    intro hi c e f K hf hm
    refine w234_settle_r_4 ⟨fun _ => ⟨cf_B01 f, c_retI (k hi c e f K.1 K.2.1 ⟨fun j hj => ?_, K.2.2.2⟩ hf.1 hf.2)⟩, fun q => absurd rfl q⟩
    obtain ⟨d1, d2, d3, d4⟩ := K.2.2.1 j hj
    exact ⟨d1, d2, fun h => ⟨(d3 h).1, by have := (d3 h).2; omega⟩, fun h1 h2 => by have := d4 h1 h2; have := hm j hj h1; omega⟩
  have pass : ∀ (E : Nat), (∀ (hi : Nat → Nat → Int32) c e (f : Bool), E < cf_cnt e 64000 → cf_Kt S u s0 vl hi0 hi c e 9261 → Fs f e → rx_aw 234 4 [.ref 90, .int (nI vl), .int (cf_B true), .int (cf_B f), rx_no, rx_no, rx_no, rx_no] [] (rx_hp L t hi hl v) (fun r h2 => ∃ z : Int32, r = some (.int z) ∧ rx_ok2 L t h2 (RI z))) → ∀ d2 i, i + d2 = 64000 → ∀ (hi : Nat → Nat → Int32) c e (f mm : Bool), cf_Kt S u s0 vl hi0 hi c e 9261 → Fs f e → E ≤ cf_cnt e 64000 → (mm = true → E < cf_cnt e 64000) → (mm = false → ∀ j, j < i → e j = false → ¬ c j = vl) → rx_aw 234 13 [.ref 90, .int (nI vl), .int (cf_B mm), .int (cf_B f), .int (nI i), rx_no, rx_no, rx_no] [] (rx_hp L t hi hl v) (fun r h2 => ∃ z : Int32, r = some (.int z) ∧ rx_ok2 L t h2 (RI z)) := by
    intro E again d2
    induction d2 with
    | zero =>
      intro i hid hi c e f mm K hf hE h1 h2
      refine w234_settle_r_13 ⟨fun _ => ?_, fun q => absurd ?_ q⟩
      · cases mm with
        | true => exact again hi c e f (h1 rfl) K hf
        | false => exact ret hi c e f K hf (fun j hj => h2 rfl j (by omega))
      · rw [show (64000 : Int32) = nI 64000 from rfl, cf_nle (by omega) (by omega)]; omega
    | succ d2 ih =>
      intro i hid hi c e f mm K hf hE h1 h2
      have hi6 : i < 64000 := by omega
      obtain ⟨c1, c2⟩ := K.2.1 i hi6
      have cb := (K.2.2.1 i hi6).1
      have nx : ¬ (e i = false ∧ c i = vl) → rx_aw 234 13 [.ref 90, .int (nI vl), .int (cf_B mm), .int (cf_B f), .int (nI i + 1), rx_no, rx_no, rx_no] [] (rx_hp L t hi hl v) (fun r h2 => ∃ z : Int32, r = some (.int z) ∧ rx_ok2 L t h2 (RI z)) := fun w => by
        rw [show nI i + 1 = nI (i + 1) from nI_add i 1]
        refine ih (i + 1) (by omega) hi c e f mm K hf hE h1 (fun z j hj he hc => ?_)
        by_cases q : j = i
        · subst q; exact w ⟨he, hc⟩
        · exact h2 z j (by omega) he hc
      have e8 : nI i - nI i / 8 * 8 = nI (i % 8) := by rw [show (8 : Int32) = nI 8 from rfl, cf_nmod (by omega) (by decide)]
      refine w234_settle_r_13 ⟨fun q => ?_, fun _ => ⟨i, rfl, hi6, fun q => ⟨i, rfl, hi6, fun q2 => ⟨i, rfl, hi6, ?_⟩, fun q2 => nx ?_⟩, fun q => nx ?_⟩⟩
      · rw [show (64000 : Int32) = nI 64000 from rfl, cf_nle (by omega) (by omega)] at q; omega
      · rw [c1, nI_eq (by omega) (by omega)] at q
        rw [c2] at q2
        have q2 := cf_B_eq q2
        obtain ⟨x, Px, ex, Dx, hcn, hb⟩ := cf_D3_set V W K.2.2 hi6 q2 q hvl
        have hsp := cf_ph_c V W Px
        rw [e8]
        have go : ∀ f' : Bool, Fs f' (cf_pu e i) → rx_CV L t 235 [.ref 90, .int (nI i)] (rx_u hi 130 i (vp_nar .boolean 1)) hl v (fun hi9 hl9 v9 => rx_aw 234 83 [.ref 90, .int (nI vl), .int 1, .int (cf_B f'), .int (nI i), .int (nI (i % 8)), .int 0, rx_no] [] (rx_hp L t hi9 hl9 v9) (fun r h2 => ∃ z : Int32, r = some (.int z) ∧ rx_ok2 L t h2 (RI z))) := by
          intro f' hf'
          refine c235 hi6 (fun hi2 F2 p0 p1 p2 => ?_)
          have hX : cf_pu e i (cf_ph (cf_gg S u) x) = true := by rw [ex]; exact cf_pu_eq
          have g := g234 (hi0 := hi0) (L := L) (t := t) (hl := hl) (v := v) (x2 := 1) (x3 := cf_B f') (Q := fun r h2 => ∃ z : Int32, r = some (.int z) ∧ rx_ok2 L t h2 (RI z)) V W R0 Px hX hb (fun hi3 c3 K3 => by
            rw [ex]
            exact ih (i + 1) (by omega) hi3 c3 (cf_pu e i) f' true K3 hf' (by omega) (fun _ => by omega) (fun z => Bool.noConfusion z)) hi2 c ⟨fun a b w => by rw [F2 a b (by omega), cf_ru_ne (by omega)]; exact K.1 a b w, fun j hj => ⟨?_, ?_⟩, Dx⟩ (by rw [ex]; exact q) (fun j hj => ?_)
          · have el : cf_lt3 x = i % 8 := by unfold cf_lt3; rw [← ex]; exact hsp.2.1.symm
            rw [ex, el] at g; exact g
          · rw [F2 _ _ (by omega), cf_ru_ne (by omega)]; exact (K.2.1 j hj).1
          · rw [F2 _ _ (by omega)]
            by_cases w : j = i
            · subst w; rw [cf_ru_eq, cf_pu_eq]; rfl
            · rw [cf_ru_ne (by omega), cf_pu_ne w]; exact (K.2.1 j hj).2
          · rw [ex] at hsp
            match j, hj with
            | 0, _ => rw [p0, hsp.2.2.1]
            | 1, _ => rw [p1, hsp.2.2.2.1]
            | 2, _ => rw [p2, hsp.2.2.2.2]
        refine ⟨fun z => ?_, fun z => ?_⟩
        all_goals rw [show (0 : Int32) = nI 0 from rfl, nI_eq (by omega) (by omega)] at z
        · rw [cf_Bor1]
          refine go true ⟨fun _ => ?_, fun w => Bool.noConfusion w⟩
          obtain ⟨_, x', Px', ex', Rx'⟩ := (K.2.2.1 i hi6).2.1 (by omega)
          have : x' = 9260 := (cf_ph_end V W Px').mp (by rw [ex']; exact z)
          subst this
          exact ⟨c i, by omega, Rx'⟩
        · rw [cf_Bor0]
          refine go f ⟨hf.1, fun w j hj he => ?_⟩
          by_cases w2 : j = i
          · subst w2; exact z
          · rw [cf_pu_ne w2] at he; exact hf.2 w j hj he
      · rw [c2] at q2
        intro w
        rw [w.1] at q2; exact q2 rfl
      · rw [c1, nI_eq (by omega) (by omega)] at q
        exact fun w => q w.2
  have outer : ∀ d (hi : Nat → Nat → Int32) c e (f : Bool), 64000 ≤ cf_cnt e 64000 + d → cf_Kt S u s0 vl hi0 hi c e 9261 → Fs f e → rx_aw 234 4 [.ref 90, .int (nI vl), .int (cf_B true), .int (cf_B f), rx_no, rx_no, rx_no, rx_no] [] (rx_hp L t hi hl v) (fun r h2 => ∃ z : Int32, r = some (.int z) ∧ rx_ok2 L t h2 (RI z)) := by
    intro d
    induction d with
    | zero =>
      intro hi c e f hd K hf
      refine w234_settle_r_4 ⟨fun q => absurd q (by decide), fun _ => pass (cf_cnt e 64000) (fun hi' c' e' f' hlt => ?_) 64000 0 (by omega) hi c e f false K hf (Nat.le_refl _) (fun z => Bool.noConfusion z) (fun _ j hj => by omega)⟩
      have := cf_cnt_le e' 64000
      omega
    | succ d ih =>
      intro hi c e f hd K hf
      refine w234_settle_r_4 ⟨fun q => absurd q (by decide), fun _ => pass (cf_cnt e 64000) (fun hi' c' e' f' hlt K' hf' => ih hi' c' e' f' (by omega) K' hf') 64000 0 (by omega) hi c e f false K hf (Nat.le_refl _) (fun z => Bool.noConfusion z) (fun _ j hj => by omega)⟩
  exact w234_settle_r (outer 64000 hi0 c0 e0 false (by omega) ⟨fun _ _ _ => rfl, C0, D0⟩ ⟨fun w => Bool.noConfusion w, fun _ => Z0⟩)
end RXE
