/-! few: all that leads from one state is offered. -/
section RXE
variable {L : Nat} {hl : Nat → Nat → Int64} {v : Nat → Nat → Option Nat}
variable {RI : Int32 → (Nat → Nat → Int32) → (Nat → Nat → Int64) → (Nat → Nat → Option Nat) → Prop}
variable {RV : (Nat → Nat → Int32) → (Nat → Nat → Int64) → (Nat → Nat → Option Nat) → Prop}
variable {g : Nat → Nat} {st : Nat → Nat → Nat → Nat} {hh : Nat → Nat → Nat} {s0 : Nat}
/-- what holds while a state is expanded -/
def cf_Xp (g : Nat → Nat) (st : Nat → Nat → Nat → Nat) (hh : Nat → Nat → Nat) (s0 : Nat) (hi0 hi : Nat → Nat → Int32) (s : Nat → Nat) (cl : Nat → Bool) (X l n : Nat) : Prop := (∀ a b, ¬ (139 ≤ a ∧ a ≤ 142) → hi a b = hi0 a b) ∧ cf_Tb g st hh hi ∧ cf_Q3 g st hh s0 hi s cl X l 0 ∧ s X = n
/-- what leads from the state is offered -/
theorem c137e (F : cf_GF g st hh) {hi0 hi : Nat → Nat → Int32} {s : Nat → Nat} {cl : Nat → Bool} {X l n y w : Nat} (P : cf_Xp g st hh s0 hi0 hi s cl X l n) (hX : X < 9261) (hcl : cl X = true) (hl1 : n + cf_h3 hh X = l) (hl2 : l < 900000) (E : cf_Ed g st X y w)
    (k : ∀ hi2 s2, (∀ a b, ¬ (140 ≤ a ∧ a ≤ 142) → hi2 a b = hi a b) → cf_Xp g st hh s0 hi0 hi2 s2 cl X l n → (∀ x, s2 x ≤ s x) → s2 y ≤ n + w → RV hi2 hl v) : rx_CV L rx_tr 137 [.ref 134, .int (nI y), .int (nI (n + w))] hi hl v RV := by
  obtain ⟨P1, P2, P3, P4⟩ := P
  obtain ⟨r, tt, K, _, _, J⟩ := id P3
  obtain ⟨j1, j2, j3, j4, j5, j6⟩ := J.1 X hX
  obtain ⟨a1, a2, a3, a4, a5⟩ := j6 hcl
  obtain ⟨b1, b2⟩ := j3 a2
  have lt := cf_Ed_lt F hX E
  have hE := cf_Ed_h F hX b2 E
  refine c137 F P2 P3 lt.1 (by omega) (by rw [← P4]; exact cf_Re_st b1 E) hE.1 (by omega) (by omega) (fun hi2 s2 F2 Q2 d1 d2 d3 => k hi2 s2 F2 ⟨fun a b q => (F2 a b (by omega)).trans (P1 a b q), cf_Tb_ext P2 (fun a b q1 q2 => F2 a b (by omega)), Q2, (d2 X hX hcl).trans P4⟩ d1 d3)
theorem c141 (F : cf_GF g st hh) {hi0 hi : Nat → Nat → Int32} {s : Nat → Nat} {cl : Nat → Bool} {X l n m0 m1 a b : Nat} (P : cf_Xp g st hh s0 hi0 hi s cl X l n) (hse : cf_se hi X) (hX : X < 9261) (hcl : cl X = true) (hl1 : n + cf_h3 hh X = l) (hl2 : l < 900000) (h0 : m0 < 5) (h1 : m1 < 5) (e0 : cf_nxs st X 0 m0 = a + 1) (e1 : cf_nxs st X 1 m1 = b + 1) (ec : cf_col g X 0 a 1 b = false)
    (k : ∀ hi2 s2, cf_Xp g st hh s0 hi0 hi2 s2 cl X l n → cf_se hi2 X → (∀ x, s2 x ≤ s x) → (∀ m2 c, m2 < 5 → cf_nxs st X 2 m2 = c + 1 → cf_col g X 0 a 2 c = false → cf_col g X 1 b 2 c = false → s2 (a + 21 * b + 441 * c) ≤ n + cf_wt X) → RV hi2 hl v) : rx_CV L rx_tr 141 [.ref 134, .int (nI a), .int (nI b), .int (nI (n + cf_wt X))] hi hl v RV := by
  have la := cf_nxs_lt F (by omega) h0 e0
  have lb := cf_nxs_lt F (by omega) h1 e1
  have lp : ∀ d i, i + d = 5 → ∀ hi' s', cf_Xp g st hh s0 hi0 hi' s' cl X l n → cf_se hi' X → (∀ x, s' x ≤ s x) → (∀ m2 c, m2 < i → cf_nxs st X 2 m2 = c + 1 → cf_col g X 0 a 2 c = false → cf_col g X 1 b 2 c = false → s' (a + 21 * b + 441 * c) ≤ n + cf_wt X) → rx_aw 141 3 [.ref 134, .int (nI a), .int (nI b), .int (nI (n + cf_wt X)), .int (nI i), rx_no] [] (rx_hp L rx_tr hi' hl v) (fun r h2 => r = none ∧ rx_ok2 L rx_tr h2 RV) := by
    intro d
    induction d with
    | zero =>
      intro i hid hi' s' P' E' d1 d2
      have : i = 5 := by omega
      subst this
      exact w141_expandThird_3 ⟨fun _ => c_retV (k hi' s' P' E' d1 d2), fun q => absurd (by decide) q⟩
    | succ d ih =>
      intro i hid hi' s' P' E' d1 d2
      have nx : ∀ hi2 s2, cf_Xp g st hh s0 hi0 hi2 s2 cl X l n → cf_se hi2 X → (∀ x, s2 x ≤ s' x) → (∀ c, cf_nxs st X 2 i = c + 1 → cf_col g X 0 a 2 c = false → cf_col g X 1 b 2 c = false → s2 (a + 21 * b + 441 * c) ≤ n + cf_wt X) → rx_aw 141 3 [.ref 134, .int (nI a), .int (nI b), .int (nI (n + cf_wt X)), .int (nI i + 1), rx_no] [] (rx_hp L rx_tr hi2 hl v) (fun r h2 => r = none ∧ rx_ok2 L rx_tr h2 RV) := by
        intro hi2 s2 P2 E2 q1 q2
        rw [show nI i + 1 = nI (i + 1) from nI_add i 1]
        refine ih (i + 1) (by omega) hi2 s2 P2 E2 (fun x => Nat.le_trans (q1 x) (d1 x)) (fun m2 c z1 z2 z3 z4 => ?_)
        by_cases w : m2 = i
        · subst w; exact q2 c z2 z3 z4
        · exact Nat.le_trans (q1 _) (d2 m2 c (by omega) z2 z3 z4)
      refine w141_expandThird_3 ⟨fun q => ?_, fun _ => c138 (i := 2) (m := i) F P'.2.1 E' (by omega) (show i < 5 by omega) ?_⟩
      · rw [show (5 : Int32) = nI 5 from rfl, cf_nle (by omega) (by omega)] at q; omega
      have l5 : cf_nxs st X 2 i ≤ 21 := by
        cases h : cf_nxs st X 2 i with
        | zero => omega
        | succ c => have := cf_nxs_lt F (by omega) (show i < 5 by omega) h; omega
      refine ⟨fun q => nx hi' s' P' E' (fun _ => Nat.le_refl _) (fun c z1 _ _ => ?_), fun q => ?_⟩
      · rw [cf_oneg (by omega)] at q; omega
      rw [cf_oneg (by omega)] at q
      obtain ⟨c, hc⟩ : ∃ c, cf_nxs st X 2 i = c + 1 := ⟨cf_nxs st X 2 i - 1, by omega⟩
      rw [hc, cf_oS]
      refine c139 (i := 0) (a := a) (j := 2) (b := c) F P'.2.1 E' (by omega) (by omega) (show a ≤ 20 by omega) (show c ≤ 20 by omega) ⟨fun z => ?_, fun z => nx hi' s' P' E' (fun _ => Nat.le_refl _) (fun c' z1 z2 _ => ?_)⟩
      · refine c139 (i := 1) (a := b) (j := 2) (b := c) F P'.2.1 E' (by omega) (by omega) (show b ≤ 20 by omega) (show c ≤ 20 by omega) ⟨fun z2 => ?_, fun z2 => nx hi' s' P' E' (fun _ => Nat.le_refl _) (fun c' z1 _ z3 => ?_)⟩
        · have ey : (nI a + 21 * nI b) + 441 * nI c = nI (a + 21 * b + 441 * c) := by
            rw [show (21 : Int32) = nI 21 from rfl, show (441 : Int32) = nI 441 from rfl, cf_nmul, cf_nmul, nI_add, nI_add]
          rw [ey]
          refine c137e F P' hX hcl hl1 hl2 (Or.inr ⟨m0, m1, i, a, b, c, h0, h1, by omega, e0, e1, hc, ec, cf_B_eq z, cf_B_eq z2, rfl, rfl⟩) (fun hi2 s2 F2 P2 q1 q2 => nx hi2 s2 P2 (fun j hj => (F2 _ _ (by omega)).trans (E' j hj)) q1 (fun c' z1 _ _ => ?_))
          have : c' = c := by omega
          subst this; exact q2
        · have : c' = c := by omega
          subst this
          rw [cf_B_ne z2] at z3; cases z3
      · have : c' = c := by omega
        subst this
        rw [cf_B_ne z] at z2; cases z2
  exact w141_expandThird (lp 5 0 (by omega) hi s P hse (fun _ => Nat.le_refl _) (fun m2 c z => by omega))
theorem c136 (F : cf_GF g st hh) {hi0 hi : Nat → Nat → Int32} {s : Nat → Nat} {cl : Nat → Bool} {X l n : Nat} (P : cf_Xp g st hh s0 hi0 hi s cl X l n) (hX : X < 9261) (hcl : cl X = true) (hl1 : n + cf_h3 hh X = l) (hl2 : l < 900000)
    (k : ∀ hi2 s2, (∀ a b, ¬ (139 ≤ a ∧ a ≤ 142) → hi2 a b = hi0 a b) → cf_Tb g st hh hi2 → cf_Q3 g st hh s0 hi2 s2 cl 9261 l 0 → s2 X = n → (∀ x, s2 x ≤ s x) → RV hi2 hl v) : rx_CV L rx_tr 136 [.ref 134, .int (nI X)] hi hl v RV := by
  have sumX : ∀ hi' s', cf_Xp g st hh s0 hi0 hi' s' cl X l n → hi' 140 X = nI n := fun hi' s' P' => by
    obtain ⟨_, _, ⟨_, _, _, _, S, _⟩, e⟩ := P'
    rw [S X hX, e]
  -- all pairs, then all thirds
  have fin : ∀ hi' s', cf_Xp g st hh s0 hi0 hi' s' cl X l n → (∀ x, s' x ≤ s x) → (∀ y w, cf_Ed g st X y w → s' y ≤ n + w) → RV hi' hl v := by
    intro hi' s' P' d1 d2
    refine k hi' s' P'.1 P'.2.1 ?_ P'.2.2.2 d1
    obtain ⟨_, _, ⟨r, tt, K, G, S, J⟩, e⟩ := P'
    refine ⟨r, tt, K, G, S, fun x hx => ?_, J.2⟩
    obtain ⟨j1, j2, j3, j4, j5, j6⟩ := J.1 x hx
    refine ⟨j1, j2, j3, j4, j5, fun z => ?_⟩
    obtain ⟨a1, a2, a3, a4, a5⟩ := j6 z
    refine ⟨a1, a2, a3, a4, fun _ y w E => ?_⟩
    by_cases q : x = X
    · subst q; rw [e]; exact d2 y w E
    · exact a5 q y w E
  let Fn : (Nat → Nat) → Prop := fun s' => ∀ i y, i < 3 → cf_p0 X i + 1 = g i → y = X + (20 - cf_p0 X i) * cf_pw i → s' y ≤ n
  let St : (Nat → Nat) → Nat → Nat → Prop := fun s' i j => ∀ m0 m1 m2 a b c, m0 < 5 → m1 < 5 → m2 < 5 → (m0 < i ∨ (m0 = i ∧ m1 < j)) → cf_nxs st X 0 m0 = a + 1 → cf_nxs st X 1 m1 = b + 1 → cf_nxs st X 2 m2 = c + 1 → cf_col g X 0 a 1 b = false → cf_col g X 0 a 2 c = false → cf_col g X 1 b 2 c = false → s' (a + 21 * b + 441 * c) ≤ n + cf_wt X
  have pw : Int32 := 0
  have l102 : ∀ (P3 : Int32) d i, i + d = 5 → ∀ hi' s', cf_Xp g st hh s0 hi0 hi' s' cl X l n → cf_se hi' X → (∀ x, s' x ≤ s x) → Fn s' → St s' i 0 → rx_aw 136 102 [.ref 134, .int (nI X), .int (nI (cf_wt X)), .int P3, .int (nI i), rx_no, rx_no, rx_no] [] (rx_hp L rx_tr hi' hl v) (fun r h2 => r = none ∧ rx_ok2 L rx_tr h2 RV) := by
    intro P3 d
    induction d with
    | zero =>
      intro i hid hi' s' P' E' d1 f1 t1
      have : i = 5 := by omega
      subst this
      refine w136_expand_102 ⟨fun _ => c_retV (fin hi' s' P' d1 (fun y w E => ?_)), fun q => absurd (by decide) q⟩
      rcases E with ⟨i, hi, q1, q2, rfl⟩ | ⟨m0, m1, m2, a, b, c, h0, h1, h2, e0, e1, e2, c0, c1, c2, rfl, rfl⟩
      · exact f1 i y hi q1 q2
      · exact t1 m0 m1 m2 a b c h0 h1 h2 (Or.inl h0) e0 e1 e2 c0 c1 c2
    | succ d ih =>
      intro i hid hi' s' P' E' d1 f1 t1
      refine w136_expand_102 ⟨fun q => ?_, fun _ => c138 (i := 0) (m := i) F P'.2.1 E' (by omega) (show i < 5 by omega) ?_⟩
      · rw [show (5 : Int32) = nI 5 from rfl, cf_nle (by omega) (by omega)] at q; omega
      have l5 : cf_nxs st X 0 i ≤ 21 := by
        cases h : cf_nxs st X 0 i with
        | zero => omega
        | succ c => have := cf_nxs_lt F (by omega) (show i < 5 by omega) h; omega
      have nxt : ∀ hi2 s2, cf_Xp g st hh s0 hi0 hi2 s2 cl X l n → cf_se hi2 X → (∀ x, s2 x ≤ s x) → Fn s2 → St s2 (i + 1) 0 → rx_aw 136 102 [.ref 134, .int (nI X), .int (nI (cf_wt X)), .int P3, .int (nI i + 1), rx_no, rx_no, rx_no] [] (rx_hp L rx_tr hi2 hl v) (fun r h2 => r = none ∧ rx_ok2 L rx_tr h2 RV) := fun hi2 s2 P2 E2 q1 q2 q3 => by
        rw [show nI i + 1 = nI (i + 1) from nI_add i 1]
        exact ih (i + 1) (by omega) hi2 s2 P2 E2 q1 q2 q3
      have l120 : ∀ d2 j, j + d2 = 5 → ∀ hi' s', cf_Xp g st hh s0 hi0 hi' s' cl X l n → cf_se hi' X → (∀ x, s' x ≤ s x) → Fn s' → St s' i j → rx_aw 136 120 [.ref 134, .int (nI X), .int (nI (cf_wt X)), .int P3, .int (nI i), .int (oI (cf_nxs st X 0 i)), .int (nI j), rx_no] [] (rx_hp L rx_tr hi' hl v) (fun r h2 => r = none ∧ rx_ok2 L rx_tr h2 RV) := by
        intro d2
        induction d2 with
        | zero =>
          intro j hjd hi' s' P' E' d1 f1 t1
          have : j = 5 := by omega
          subst this
          refine w136_expand_120 ⟨fun _ => nxt hi' s' P' E' d1 f1 (fun m0 m1 m2 a b c z0 z1 z2 z3 => ?_), fun q => absurd (by decide) q⟩
          exact t1 m0 m1 m2 a b c z0 z1 z2 (by omega)
        | succ d2 ih2 =>
          intro j hjd hi' s' P' E' d1 f1 t1
          refine w136_expand_120 ⟨fun q => ?_, fun _ => ⟨fun q => nxt hi' s' P' E' d1 f1 (fun m0 m1 m2 a b c z0 z1 z2 z3 e0 => ?_), fun q => c138 (i := 1) (m := j) F P'.2.1 E' (by omega) (show j < 5 by omega) ?_⟩⟩
          · rw [show (5 : Int32) = nI 5 from rfl, cf_nle (by omega) (by omega)] at q; omega
          · rw [cf_oneg (by omega)] at q
            have : ¬ m0 = i := fun z => by subst z; omega
            exact t1 m0 m1 m2 a b c z0 z1 z2 (by omega) e0
          rw [cf_oneg (by omega)] at q
          obtain ⟨a, ha⟩ : ∃ a, cf_nxs st X 0 i = a + 1 := ⟨cf_nxs st X 0 i - 1, by omega⟩
          have la := cf_nxs_lt F (by omega) (show i < 5 by omega) ha
          have lj : cf_nxs st X 1 j ≤ 21 := by
            cases h : cf_nxs st X 1 j with
            | zero => omega
            | succ c => have := cf_nxs_lt F (by omega) (show j < 5 by omega) h; omega
          have nx2 : ∀ hi2 s2, cf_Xp g st hh s0 hi0 hi2 s2 cl X l n → cf_se hi2 X → (∀ x, s2 x ≤ s' x) → (∀ m2 b c, m2 < 5 → cf_nxs st X 1 j = b + 1 → cf_nxs st X 2 m2 = c + 1 → cf_col g X 0 a 1 b = false → cf_col g X 0 a 2 c = false → cf_col g X 1 b 2 c = false → s2 (a + 21 * b + 441 * c) ≤ n + cf_wt X) → rx_aw 136 120 [.ref 134, .int (nI X), .int (nI (cf_wt X)), .int P3, .int (nI i), .int (oI (cf_nxs st X 0 i)), .int (nI j + 1), rx_no] [] (rx_hp L rx_tr hi2 hl v) (fun r h2 => r = none ∧ rx_ok2 L rx_tr h2 RV) := by
            intro hi2 s2 P2 E2 q1 q2
            rw [show nI j + 1 = nI (j + 1) from nI_add j 1]
            refine ih2 (j + 1) (by omega) hi2 s2 P2 E2 (fun x => Nat.le_trans (q1 x) (d1 x)) (fun i' y z1 z2 z3 => Nat.le_trans (q1 y) (f1 i' y z1 z2 z3)) (fun m0 m1 m2 a' b c z0 z1 z2 z3 e0 e1 e2 c0 c1 c2 => ?_)
            by_cases w : m0 = i ∧ m1 = j
            · obtain ⟨rfl, rfl⟩ := w
              have : a' = a := by omega
              subst this
              exact q2 m2 b c z2 e1 e2 c0 c1 c2
            · exact Nat.le_trans (q1 _) (t1 m0 m1 m2 a' b c z0 z1 z2 (by omega) e0 e1 e2 c0 c1 c2)
          refine ⟨fun q2 => nx2 hi' s' P' E' (fun _ => Nat.le_refl _) (fun m2 b c _ z => ?_), fun q2 => ?_⟩
          · rw [cf_oneg (by omega)] at q2; omega
          rw [cf_oneg (by omega)] at q2
          obtain ⟨b, hb⟩ : ∃ b, cf_nxs st X 1 j = b + 1 := ⟨cf_nxs st X 1 j - 1, by omega⟩
          have lb := cf_nxs_lt F (by omega) (show j < 5 by omega) hb
          rw [hb, cf_oS]
          have key : ∀ {Rr : Int32 → (Nat → Nat → Int32) → (Nat → Nat → Int64) → (Nat → Nat → Option Nat) → Prop}, rx_CI L rx_tr 139 [.ref 134, .int (nI 0), .int (nI a), .int (nI 1), .int (nI b)] hi' hl v Rr → rx_CI L rx_tr 139 [.ref 134, .int 0, .int (oI (cf_nxs st X 0 i)), .int 1, .int (nI b)] hi' hl v Rr := fun z => by rw [ha, cf_oS]; exact z
          refine key (c139 (i := 0) (a := a) (j := 1) (b := b) F P'.2.1 E' (by omega) (by omega) (show a ≤ 20 by omega) (show b ≤ 20 by omega) ⟨fun z => ⟨X, rfl, hX, ?_⟩, fun z => nx2 hi' s' P' E' (fun _ => Nat.le_refl _) (fun m2 b' c _ z1 _ z2 => ?_)⟩)
          · rw [sumX hi' s' P', nI_add]
            have key2 : ∀ {Rr : (Nat → Nat → Int32) → (Nat → Nat → Int64) → (Nat → Nat → Option Nat) → Prop}, rx_CV L rx_tr 141 [.ref 134, .int (nI a), .int (nI b), .int (nI (n + cf_wt X))] hi' hl v Rr → rx_CV L rx_tr 141 [.ref 134, .int (oI (cf_nxs st X 0 i)), .int (nI b), .int (nI (n + cf_wt X))] hi' hl v Rr := fun z => by rw [ha, cf_oS]; exact z
            refine key2 (c141 F P' E' hX hcl hl1 hl2 (show i < 5 by omega) (show j < 5 by omega) ha hb (cf_B_eq z) (fun hi2 s2 P2 E2 q3 q4 => nx2 hi2 s2 P2 E2 q3 (fun m2 b' c z1 z2 z3 _ z5 z6 => ?_)))
            have : b' = b := by omega
            subst this
            exact q4 m2 c z1 z3 z5 z6
          · have : b' = b := by omega
            subst this
            rw [cf_B_ne z] at z2; cases z2
      exact l120 5 0 (by omega) hi' s' P' E' d1 f1 t1
  -- which of them are at their END SQUARES
  have l7 : ∀ i W, i < 3 → ∀ hi' s', cf_Xp g st hh s0 hi0 hi' s' cl X l n → (∀ j, j < i → hi' 139 j = nI (cf_p0 X j)) → (∀ x, s' x ≤ s x) → (∀ i' y, i' < i → cf_p0 X i' + 1 = g i' → y = X + (20 - cf_p0 X i') * cf_pw i' → s' y ≤ n)
      → (∀ hi2 s2, cf_Xp g st hh s0 hi0 hi2 s2 cl X l n → (∀ j, j < i + 1 → hi2 139 j = nI (cf_p0 X j)) → (∀ x, s2 x ≤ s x) → (∀ i' y, i' < i + 1 → cf_p0 X i' + 1 = g i' → y = X + (20 - cf_p0 X i') * cf_pw i' → s2 y ≤ n) → rx_aw 136 7 [.ref 134, .int (nI X), .int (nI (W + cf_wt1 X i)), .int (nI (cf_pw i) * 21), .int (nI (i + 1)), rx_no, rx_no, rx_no] [] (rx_hp L rx_tr hi2 hl v) (fun r h2 => r = none ∧ rx_ok2 L rx_tr h2 RV))
      → rx_aw 136 7 [.ref 134, .int (nI X), .int (nI W), .int (nI (cf_pw i)), .int (nI i), rx_no, rx_no, rx_no] [] (rx_hp L rx_tr hi' hl v) (fun r h2 => r = none ∧ rx_ok2 L rx_tr h2 RV) := by
    intro i W h3 hi' s' P' E' d1 f1 kk
    have lt := cf_p0_lt X i
    have hg := F.1 i h3
    have P2 : cf_Xp g st hh s0 hi0 (rx_u hi' 139 i (nI (cf_p0 X i))) s' cl X l n := ⟨fun a b q => by rw [cf_ru_ne (by omega)]; exact P'.1 a b q, cf_Tb_ext P'.2.1 (fun a b q1 q2 => cf_ru_ne (by omega)), cf_Q3_ext P'.2.2.1 (fun a b q1 q2 => cf_ru_ne (by omega)), P'.2.2.2⟩
    have E2 : ∀ j, j < i + 1 → rx_u hi' 139 i (nI (cf_p0 X i)) 139 j = nI (cf_p0 X j) := fun j hj => by
      by_cases q : j = i
      · subst q; exact cf_ru_eq
      · rw [cf_ru_ne (by omega)]; exact E' j (by omega)
    have go : ∀ hi2 s2, cf_Xp g st hh s0 hi0 hi2 s2 cl X l n → (∀ j, j < i + 1 → hi2 139 j = nI (cf_p0 X j)) → (∀ x, s2 x ≤ s x) → (∀ i' y, i' < i + 1 → cf_p0 X i' + 1 = g i' → y = X + (20 - cf_p0 X i') * cf_pw i' → s2 y ≤ n) → ((hi2 139 i = 20 → rx_aw 136 7 [.ref 134, .int (nI X), .int (nI W + 0), .int (nI (cf_pw i) * 21), .int (nI i + 1), rx_no, rx_no, rx_no] [] (rx_hp L rx_tr hi2 hl v) (fun r h2 => r = none ∧ rx_ok2 L rx_tr h2 RV)) ∧ (¬ hi2 139 i = 20 → rx_aw 136 7 [.ref 134, .int (nI X), .int (nI W + 1), .int (nI (cf_pw i) * 21), .int (nI i + 1), rx_no, rx_no, rx_no] [] (rx_hp L rx_tr hi2 hl v) (fun r h2 => r = none ∧ rx_ok2 L rx_tr h2 RV))) := by
      intro hi2 s2 P2 E2 q1 q2
      have kk2 := kk hi2 s2 P2 E2 q1 q2
      rw [E2 i (by omega), show (20 : Int32) = nI 20 from rfl, nI_eq (by omega) (by omega), show nI i + 1 = nI (i + 1) from nI_add i 1]
      unfold cf_wt1 at kk2
      refine ⟨fun z => ?_, fun z => ?_⟩
      · rw [if_pos z, Nat.add_zero] at kk2
        rw [show nI W + 0 = nI W from by rw [show (0 : Int32) = nI 0 from rfl, nI_add]; rfl]; exact kk2
      · rw [if_neg z] at kk2
        rw [show nI W + 1 = nI (W + 1) from nI_add W 1]; exact kk2
    refine w136_expand_7 ⟨fun q => ?_, fun _ => c133 (by omega) h3 ⟨i, rfl, h3, i, rfl, h3, i, rfl, h3, fun q => ⟨i, rfl, h3, X, rfl, hX, ?_⟩, fun q => ⟨i, rfl, h3, ?_⟩⟩⟩
    · rw [show (3 : Int32) = nI 3 from rfl, cf_nle (by omega) (by omega)] at q; omega
    all_goals rw [cf_ru_eq, P2.2.1.1 i h3] at q
    · have eg : cf_p0 X i + 1 = g i := by
        have := (cf_oneq (a := g i) (b := cf_p0 X i) (by omega) (by omega)).mp q.symm
        omega
      have ey : nI X + (20 - rx_u hi' 139 i (nI (cf_p0 X i)) 139 i) * nI (cf_pw i) = nI (X + (20 - cf_p0 X i) * cf_pw i) := by
        rw [cf_ru_eq, show (20 : Int32) = nI 20 from rfl, cf_nsub (by omega), cf_nmul, nI_add]
      rw [ey, sumX _ _ P2]
      refine c137e (w := 0) F P2 hX hcl hl1 hl2 (Or.inl ⟨i, h3, eg, rfl, rfl⟩) (fun hi2 s2 F2 P3 q1 q2 => ⟨i, rfl, h3, go hi2 s2 P3 (fun j hj => (F2 _ _ (by omega)).trans (E2 j hj)) (fun x => Nat.le_trans (q1 x) (d1 x)) (fun i' y z1 z2 z3 => ?_)⟩)
      by_cases w : i' = i
      · subst w; rw [z3]; exact q2
      · exact Nat.le_trans (q1 y) (f1 i' y (by omega) z2 z3)
    · refine go _ s' P2 E2 d1 (fun i' y z1 z2 z3 => ?_)
      by_cases w : i' = i
      · subst w
        exact absurd (show nI (cf_p0 X i') = oI (g i') by rw [← z2, cf_oS]) q
      · exact f1 i' y (by omega) z2 z3
  refine w136_expand (l7 0 0 (by omega) hi s P (fun j hj => by omega) (fun _ => Nat.le_refl _) (fun i' y hj => by omega) (fun hi1 s1 P1 E1 d1 f1 => l7 1 _ (by omega) hi1 s1 P1 E1 d1 f1 (fun hi2 s2 P2 E2 d2 f2 => l7 2 _ (by omega) hi2 s2 P2 E2 d2 f2 (fun hi3 s3 P3 E3 d3 f3 => w136_expand_7 ⟨fun _ => ?_, fun q => absurd (by decide) q⟩))))
  have ew : 0 + cf_wt1 X 0 + cf_wt1 X 1 + cf_wt1 X 2 = cf_wt X := by unfold cf_wt; omega
  rw [ew]
  exact l102 _ 5 0 (by omega) hi3 s3 P3 E3 d3 f3 (fun m0 m1 m2 a b c _ _ _ z => by omega)
end RXE
