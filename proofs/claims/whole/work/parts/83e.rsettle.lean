/-! few of the reference: spread, settle, isPending. -/
section RXE
variable {L : Nat} {t : List (Nat × Nat)} {hl : Nat → Nat → Int64} {v : Nat → Nat → Option Nat}
variable {RI : Int32 → (Nat → Nat → Int32) → (Nat → Nat → Int64) → (Nat → Nat → Option Nat) → Prop}
variable {RV : (Nat → Nat → Int32) → (Nat → Nat → Int64) → (Nat → Nat → Option Nat) → Prop}
theorem c236 {hi0 : Nat → Nat → Int32} {S : cf_S} {u : Nat → Nat} {x s0 vl : Nat} {c0 : Nat → Nat} {e : Nat → Bool} (V : cf_V S) (W : cf_FW S u) (R0 : cf_Fr S u hi0 hl) (C0 : cf_Cs hi0 c0 e) (D0 : cf_D3 S u s0 c0 e x vl) (P : cf_pp S u x) (hX : e (cf_ph (cf_gg S u) x) = true) (hv : c0 (cf_ph (cf_gg S u) x) = vl) (hb : vl + 3 ≤ 3 * cf_cnt e 64000) (hh0 : ∀ i, i < 3 → hi0 132 i = nI (cf_pf (cf_gg S u) x i))
    (k : ∀ hi2 c2, (∀ a b, ¬ (a = 129 ∨ a = 133) → hi2 a b = hi0 a b) → cf_Cs hi2 c2 e → cf_D3 S u s0 c2 e x vl → (∀ j, c2 j ≤ c0 j) → c2 (cf_ph (cf_gg S u) x) = vl → (∀ n y, n < 125 → cf_Es S u x (cf_m5 n) y → c2 (cf_ph (cf_gg S u) y) ≤ vl + cf_wt x) → RV hi2 hl v) : rx_CV L t 236 [.ref 90, .int (nI (cf_lt3 x)), .int (nI vl)] hi0 hl v RV := by
  have hn := W.2.2.2.2.2.2.2
  have cl := cf_cnt_le e 64000
  have lx := (cf_ph_c V W P).1
  have w3 := cf_wt_le x
  have hm5 : ∀ n i, cf_m5 n i < 5 := fun n i => by
    match i with
    | 0 => exact Nat.mod_lt _ (by decide)
    | 1 => exact Nat.mod_lt _ (by decide)
    | j + 2 => exact Nat.mod_lt _ (by decide)
  have ed : ∀ n y, cf_Es S u x (cf_m5 n) y → cf_Ed (cf_gg S u) (cf_ss S u) x y (cf_wt x) := fun n y ⟨a, b, c, e0, e1, e2, q0, q1, q2, ey⟩ => Or.inr ⟨_, _, _, a, b, c, hm5 n 0, hm5 n 1, hm5 n 2, e0, e1, e2, q0, q1, q2, ey, rfl⟩
  have lp : ∀ d n, n + d = 125 → ∀ hi c, (∀ a b, ¬ (a = 129 ∨ a = 133) → hi a b = hi0 a b) → cf_Cs hi c e → cf_D3 S u s0 c e x vl → (∀ j, c j ≤ c0 j) → c (cf_ph (cf_gg S u) x) = vl → (∀ n' y, n' < n → cf_Es S u x (cf_m5 n') y → c (cf_ph (cf_gg S u) y) ≤ vl + cf_wt x) → rx_aw 236 19 [.ref 90, .int (nI (cf_lt3 x)), .int (nI vl), .int (nI (cf_wt x)), .int (nI n), rx_no, rx_no, rx_no, rx_no, rx_no, rx_no] [] (rx_hp L t hi hl v) (fun r h2 => r = none ∧ rx_ok2 L t h2 RV) := by
    intro d
    induction d with
    | zero =>
      intro n hnd hi c F C D d1 d2 d3
      have : n = 125 := by omega
      subst this
      exact w236_spread_r_19 ⟨fun _ => c_retV (k hi c F C D d1 d2 d3), fun q => absurd (by decide) q⟩
    | succ d ih =>
      intro n hnd hi c F C D d1 d2 d3
      refine w236_spread_r_19 ⟨fun q => ?_, fun _ => ?_⟩
      · rw [show (125 : Int32) = nI 125 from rfl, cf_nle (by omega) (by omega)] at q; omega
      have R := cf_Fr_ext R0 (hi2 := hi) (fun a b q => F a b (by omega))
      have hh : ∀ i, i < 3 → hi 132 i = nI (cf_pf (cf_gg S u) x i) := fun i h => (F _ _ (by omega)).trans (hh0 i h)
      refine g236 (i := 0) (r := n) V W R P hh true (by omega) (by omega) (fun hi1 F1 e1 => ?_)
      have R1 := cf_Fr_ext R (hi2 := hi1) (fun a b q => F1 a b (by omega))
      have hh1 : ∀ i, i < 3 → hi1 132 i = nI (cf_pf (cf_gg S u) x i) := fun i h => (F1 _ _ (by omega)).trans (hh i h)
      refine g236 (i := 1) (r := n / 5) V W R1 P hh1 _ (by omega) (by omega) (fun hi2 F2 e2 => ?_)
      have R2 := cf_Fr_ext R1 (hi2 := hi2) (fun a b q => F2 a b (by omega))
      have hh2 : ∀ i, i < 3 → hi2 132 i = nI (cf_pf (cf_gg S u) x i) := fun i h => (F2 _ _ (by omega)).trans (hh1 i h)
      refine g236 (i := 2) (r := n / 5 / 5) V W R2 P hh2 _ (by omega) (by omega) (fun hi3 F3 e3 => ?_)
      have R3 := cf_Fr_ext R2 (hi2 := hi3) (fun a b q => F3 a b (by omega))
      have hh3 : ∀ i, i < 3 → hi3 132 i = nI (cf_pf (cf_gg S u) x i) := fun i h => (F3 _ _ (by omega)).trans (hh2 i h)
      have F' : ∀ a b, ¬ (a = 129 ∨ a = 133) → hi3 a b = hi0 a b := fun a b q => by rw [F3 a b (by omega), F2 a b (by omega), F1 a b (by omega)]; exact F a b q
      have C3 : cf_Cs hi3 c e := cf_Cs_ext C (fun a b q => by rw [F3 a b (by omega), F2 a b (by omega), F1 a b (by omega)])
      have th : ∀ i, i < 3 → hi3 133 i = nI (cf_rtt S u x i (cf_m5 n i)) := fun i h => by
        match i, h with
        | 0, _ => rw [F3 _ _ (by omega), F2 _ _ (by omega)]; exact e1
        | 1, _ => rw [F3 _ _ (by omega)]; exact e2
        | 2, _ => exact e3
      obtain ⟨iff1, iff2⟩ := cf_Es_iff V W R3 P (m := cf_m5 n) (fun i _ => hm5 n i)
      have nx : ∀ hi' c', (∀ a b, ¬ (a = 129 ∨ a = 133) → hi' a b = hi0 a b) → cf_Cs hi' c' e → cf_D3 S u s0 c' e x vl → (∀ j, c' j ≤ c j) → c' (cf_ph (cf_gg S u) x) = vl → (∀ y, cf_Es S u x (cf_m5 n) y → c' (cf_ph (cf_gg S u) y) ≤ vl + cf_wt x) → rx_aw 236 19 [.ref 90, .int (nI (cf_lt3 x)), .int (nI vl), .int (nI (cf_wt x)), .int (nI n + 1), rx_no, rx_no, rx_no, rx_no, rx_no, rx_no] [] (rx_hp L t hi' hl v) (fun r h2 => r = none ∧ rx_ok2 L t h2 RV) := by
        intro hi' c' G1 G2 G3 G4 G5 G6
        rw [show nI n + 1 = nI (n + 1) from nI_add n 1]
        refine ih (n + 1) (by omega) hi' c' G1 G2 G3 (fun j => Nat.le_trans (G4 j) (d1 j)) G5 (fun n' y hn' E => ?_)
        by_cases z : n' = n
        · subst z; exact G6 y E
        · exact Nat.le_trans (G4 _) (d3 n' y (by omega) E)
      have rall : (true && cf_rtc S x 0 (n % 5) && cf_rtc S x 1 (n / 5 % 5) && cf_rtc S x 2 (n / 5 / 5 % 5)) = true ↔ ∀ i, i < 3 → cf_rtc S x i (cf_m5 n i) = true := by
        rw [Bool.true_and, Bool.and_eq_true, Bool.and_eq_true]
        constructor
        · rintro ⟨⟨q0, q1⟩, q2⟩ i h
          match i, h with
          | 0, _ => exact q0
          | 1, _ => exact q1
          | 2, _ => exact q2
        · intro h
          exact ⟨⟨h 0 (by omega), h 1 (by omega)⟩, h 2 (by omega)⟩
      refine w236_spread_r_36 ⟨fun _ => ⟨fun q => nx hi3 c F' C3 D (fun _ => Nat.le_refl _) d2 (fun y E => ?_), fun q => ?_⟩, fun q => absurd (by decide) q⟩
      · have := rall.mpr (iff1 y E).1
        rw [cf_B_eq q] at this; cases this
      have q := rall.mp (cf_B_ne q)
      have hgr : ∀ i, i < 3 → (i < cf_gr u ↔ ¬ u i = 0) := fun i hi => cf_gr_c W.2.1 W.2.2.1 hi
      have g3 := cf_gr_le u
      refine c237 (a := cf_pf (cf_gg S u) x) (b := fun i => cf_rtt S u x i (cf_m5 n i)) R3 hn (fun i h => ⟨hh3 i (by omega), cf_pf_lt V W P (by omega)⟩) (fun i h => ⟨th i (by omega), cf_rtt_lt V W P (by omega) ((hgr i (by omega)).mp h)⟩) (fun z hz => ⟨fun w => nx hi3 c F' C3 D (fun _ => Nat.le_refl _) d2 (fun y E => ?_), fun w => ?_⟩)
      · have := hz.mpr (iff1 y E).2.1
        rw [cf_B_eq w] at this; cases this
      have w := hz.mp (cf_B_ne w)
      obtain ⟨y, E⟩ := iff2 q w
      have ep := (iff1 y E).2.2
      have Py := cf_pp_ed V W P (ed n y E)
      refine c231b (u := u) (b := fun i => cf_rtt S u x i (cf_m5 n i)) R3.2.1 (fun i h => th i (by omega)) (fun i h1 h2 => ?_) ?_
      · have hu : u i = 0 := Classical.byContradiction fun z => h2 ((hgr i h1).mpr z)
        have p20 := (P.2 i h1).1 hu
        show cf_rtt S u x i (cf_m5 n i) = 0
        unfold cf_rtt cf_pf cf_gg
        rw [if_pos p20, if_pos p20, if_pos hu]
      · rw [← ep, nI_add]
        have cb := (D.1 _ (cf_ph_c V W Py).1).1
        refine c232 C3 (cf_ph_c V W Py).1 (by omega) (by omega) (fun hi4 z F4 C4 => nx hi4 _ (fun a b q => (F4 a b (by omega)).trans (F' a b q)) C4 (cf_D3_mn V W D P hX d2 hb (ed n y E)) (fun j => cf_mn_le _ _ _ j) ?_ (fun y' E' => ?_))
        · have := (D.1 _ lx).2.2.1 hX
          by_cases z : cf_ph (cf_gg S u) x = cf_ph (cf_gg S u) y
          · rw [← z]
            unfold cf_mn
            rw [if_pos rfl, d2]; omega
          · rw [cf_mn_ne z]; exact d2
        · have : cf_ph (cf_gg S u) y' = cf_ph (cf_gg S u) y := by rw [ep, (iff1 y' E').2.2]
          rw [this]; exact cf_mn_at _ _ _
  have ew : ((nI (cf_lt3 x) &&& (1 : Int32)) + ((nI (cf_lt3 x) >>> ((1 : Int32) &&& 31)) &&& (1 : Int32))) + ((nI (cf_lt3 x) >>> ((2 : Int32) &&& 31)) &&& (1 : Int32)) = nI (cf_wt x) := by
    have b0 := cf_lt3_bit x (i := 0) (by omega)
    have b1 := cf_lt3_bit x (i := 1) (by omega)
    have b2 := cf_lt3_bit x (i := 2) (by omega)
    have a := cf_wt1_c x 0
    have b := cf_wt1_c x 1
    have c := cf_wt1_c x 2
    have e0 : nI (cf_lt3 x) &&& (1 : Int32) = nI (cf_wt1 x 0) := by
      rw [show (1 : Int32) = nI 1 from rfl, cf_nand, Nat.and_one_is_mod]
      have : cf_lt3 x % 2 = cf_wt1 x 0 := by unfold cf_lt3; omega
      rw [this]
    have e1 : (nI (cf_lt3 x) >>> ((1 : Int32) &&& 31)) &&& (1 : Int32) = nI (cf_wt1 x 1) := b1
    have e2 : (nI (cf_lt3 x) >>> ((2 : Int32) &&& 31)) &&& (1 : Int32) = nI (cf_wt1 x 2) := b2
    rw [e0, e1, e2, nI_add, nI_add]; rfl
  refine w236_spread_r ?_
  rw [ew]
  exact lp 125 0 (by omega) hi0 c0 (fun _ _ _ => rfl) C0 D0 (fun _ => Nat.le_refl _) hv (fun n' y h => by omega)
theorem c233 {hi : Nat → Nat → Int32} {c : Nat → Nat} {e : Nat → Bool} {vl : Nat} (C : cf_Cs hi c e) (hc : ∀ k, k < 64000 → c k ≤ 1000000) (hvl : vl < 2 ^ 31) (k : ∀ z : Bool, (z = true ↔ ∃ j, j < 64000 ∧ e j = false ∧ vl ≤ c j ∧ c j < 1000000) → RI (cf_B z) hi hl v) : rx_CI L t 233 [.ref 90, .int (nI vl)] hi hl v RI := by
  have lp : ∀ d i, i + d = 64000 → (∀ j, j < i → ¬ (e j = false ∧ vl ≤ c j ∧ c j < 1000000)) → rx_aw 233 4 [.ref 90, .int (nI vl), .int 0, .int (nI i)] [] (rx_hp L t hi hl v) (fun r h2 => ∃ z : Int32, r = some (.int z) ∧ rx_ok2 L t h2 (RI z)) := by
    intro d
    induction d with
    | zero =>
      intro i hid N
      refine w233_isPending_r_4 ⟨fun _ => ⟨Or.inl rfl, c_retI (k false ⟨fun z => Bool.noConfusion z, fun ⟨j, h1, h2⟩ => absurd h2 (N j (by omega))⟩)⟩, fun q => absurd ?_ q⟩
      rw [show (64000 : Int32) = nI 64000 from rfl, cf_nle (by omega) (by omega)]; omega
    | succ d ih =>
      intro i hid N
      obtain ⟨c1, c2⟩ := C i (by omega)
      have cb := hc i (by omega)
      have nx : ¬ (e i = false ∧ vl ≤ c i ∧ c i < 1000000) → rx_aw 233 4 [.ref 90, .int (nI vl), .int 0, .int (nI i + 1)] [] (rx_hp L t hi hl v) (fun r h2 => ∃ z : Int32, r = some (.int z) ∧ rx_ok2 L t h2 (RI z)) := fun w => by
        rw [show nI i + 1 = nI (i + 1) from nI_add i 1]
        refine ih (i + 1) (by omega) (fun j hj => ?_)
        by_cases z : j = i
        · subst z; exact w
        · exact N j (by omega)
      refine w233_isPending_r_4 ⟨fun q => ?_, fun _ => ⟨fun _ => ⟨i, rfl, by omega, fun q => ⟨i, rfl, by omega, fun q2 => nx ?_, fun q2 => ⟨i, rfl, by omega, fun q3 => nx ?_, fun q3 => ?_⟩⟩, fun q => nx ?_⟩, fun q => absurd rfl q⟩⟩
      · rw [show (64000 : Int32) = nI 64000 from rfl, cf_nle (by omega) (by omega)] at q; omega
      all_goals rw [c2] at q
      · rw [c1, cf_lt, nI_toInt (by omega), nI_toInt (by omega)] at q2
        omega
      · rw [c1, show (1000000 : Int32) = nI 1000000 from rfl, cf_nle (by omega) (by omega)] at q3
        omega
      · rw [c1, cf_lt, nI_toInt (by omega), nI_toInt (by omega)] at q2
        rw [c1, show (1000000 : Int32) = nI 1000000 from rfl, cf_nle (by omega) (by omega)] at q3
        have yes : ∃ j, j < 64000 ∧ e j = false ∧ vl ≤ c j ∧ c j < 1000000 := ⟨i, by omega, cf_B_eq q, by omega, by omega⟩
        refine w233_isPending_r_4 ⟨fun _ => ⟨Or.inr rfl, c_retI (k true ⟨fun _ => yes, fun _ => rfl⟩)⟩, fun _ => ⟨fun w => absurd w (by decide), fun _ => ⟨Or.inr rfl, c_retI (k true ⟨fun _ => yes, fun _ => rfl⟩)⟩⟩⟩
      · rw [cf_B_ne q]
        intro w; exact Bool.noConfusion w.1
  exact w233_isPending_r (lp 64000 0 (by omega) (fun j hj => by omega))
end RXE
