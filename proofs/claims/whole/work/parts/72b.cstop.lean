/-! Planner.planTroubled, keepWays, restoreWays, CartFloor.stop. -/
theorem cf_R_sam {S S2 : cf_S} (h : cf_sam S S2) {hi : Nat → Nat → Int32} {hl : Nat → Nat → Int64} (R : cf_R S hi hl) : cf_R S2 hi hl := by
  have es : cf_set S2 = cf_set S := by
    unfold cf_set
    have e4 : S2 4 = S 4 := by funext c; exact h 4 c (by omega) (by omega) (by omega) (by omega) (by omega)
    rw [e4, h 0 2 (by omega) (by omega) (by omega) (by omega) (by omega)]
  unfold cf_R
  rw [es, cf_st_sam h, cf_sp_sam h, cf_sd_sam h, cf_hd_sam h, cf_made_sam h, h 0 2 (by omega) (by omega) (by omega) (by omega) (by omega), h 0 3 (by omega) (by omega) (by omega) (by omega) (by omega)]
  exact R
theorem cf_X_fte {S : cf_S} {hi : Nat → Nat → Int32} {hl : Nat → Nat → Int64} (X : cf_X S hi hl) {c x : Nat} (hc : c < S 0 2) (hx : x ≤ 2) : cf_X (cf_fte S c x) (rx_u hi (rx_ct c) 10 (nI x)) hl := by
  obtain ⟨V, K1, K2, K3, C, G1, G2, Bb⟩ := X
  have h6 := V.2.2.1
  have r : ∀ a b, ¬ a = 8 → cf_fte S c x a b = S a b := fun a b h => by unfold cf_fte; rw [if_neg (fun q => h q.1)]
  have u : ∀ a b, ¬ (a = rx_ct c ∧ b = 10) → rx_u hi (rx_ct c) 10 (nI x) a b = hi a b := fun a b q => cf_ru_ne q
  have u0 : ∀ a b, a < 16 → rx_u hi (rx_ct c) 10 (nI x) a b = hi a b := fun a b q => u a b (by unfold rx_ct; omega)
  refine ⟨cf_V_fte V c hx, ?_, ?_, ?_, ?_, fun q hq => by rw [r 1 _ (by omega)]; exact (u0 8 q (by omega)).trans (G1 q hq), fun q hq => by rw [r 2 _ (by omega)]; exact (u0 9 q (by omega)).trans (G2 q hq), ?_⟩
  · rw [r 0 _ (by omega), r 0 _ (by omega)]
    obtain ⟨a1, a2, a3, a4, a5, a6⟩ := K1
    exact ⟨a1, a2, a3, a4, (u0 7 0 (by omega)).trans a5, (u0 7 1 (by omega)).trans a6⟩
  · rw [r 0 _ (by omega), r 0 _ (by omega)]
    exact cf_K2_eq K2 (fun b => u0 10 b (by omega)) (fun b => rfl) (fun b => rfl)
  · rw [r 0 _ (by omega), r 0 _ (by omega)]; exact K3
  · obtain ⟨c1, c2, c3, c4⟩ := C
    refine ⟨by rw [r 0 _ (by omega)]; exact (u0 13 3 (by omega)).trans c1, by rw [r 0 _ (by omega)]; exact (u0 13 4 (by omega)).trans c2, fun o ho => ?_, fun s hs => ?_⟩
    · rw [r 0 _ (by omega)] at ho
      obtain ⟨d1, d2, d3, d4, d5, d6, d7, d8⟩ := c3 o ho
      rw [r 3 _ (by omega), r 9 _ (by omega), r 4 _ (by omega), r 5 _ (by omega), r 6 _ (by omega), r 7 _ (by omega)]
      refine ⟨(u _ _ (by omega)).trans d1, (u _ _ (by omega)).trans d2, (u _ _ (by omega)).trans d3, (u _ _ (by omega)).trans d4, (u _ _ (by omega)).trans d5, ?_, (u _ _ (by omega)).trans d7, fun w hw => ?_⟩
      · unfold cf_fte
        by_cases e : o = c
        · subst e; rw [cf_ru_eq, if_pos ⟨rfl, rfl⟩]
        · rw [if_neg (fun q => e q.2), u _ _ (by unfold rx_ct; omega)]; exact d6
      · rw [r _ _ (by omega), u _ _ (by unfold rx_ct; omega)]; exact d8 w hw
    · rw [r 0 _ (by omega)] at hs
      rw [r 12 _ (by omega), u _ _ (by unfold rx_sf rx_ct; omega)]; exact c4 s hs
  · rw [Bb]
    unfold cf_bar
    rw [r 0 _ (by omega), r 0 _ (by omega)]
    refine cf_un_eq (fun q _ => ?_)
    unfold cf_isb
    rw [r 0 _ (by omega), r 1 _ (by omega), r 2 _ (by omega)]
theorem cf_XR_fte {S : cf_S} {hi : Nat → Nat → Int32} {hl : Nat → Nat → Int64} (X : cf_XR S hi hl) {c x : Nat} (hc : c < S 0 2) (hx : x ≤ 2) : cf_XR (cf_fte S c x) (rx_u hi (rx_ct c) 10 (nI x)) hl := by
  have h6 := X.1.1.2.2.1
  have h12 := X.1.1.2.2.2.1
  refine ⟨cf_X_fte X.1 hc hx, cf_R_sam (cf_r78_sam (cf_r78_fte S c x)) ?_⟩
  obtain ⟨r1, r2, r3⟩ := X.2
  refine ⟨by rw [cf_ru_ne (by unfold rx_ct; omega)]; exact r1, fun o ho => ⟨fun u hu => ?_, ?_⟩, fun s hs u hu => ?_⟩
  · rw [cf_ru_ne (by unfold rx_ct; omega)]; exact (r2 o ho).1 u hu
  · rw [cf_ru_ne (by omega)]; exact (r2 o ho).2
  · rw [cf_ru_ne (by unfold rx_ct rx_sf; omega)]; exact r3 s hs u hu
theorem cf_X_cut {S : cf_S} {hi : Nat → Nat → Int32} {hl : Nat → Nat → Int64} (X : cf_X S hi hl) {c k : Nat} (hc : c < S 0 2) (hk : k ≤ S 4 c) : cf_X (cf_cut S c k) (rx_u hi (rx_ct c) 7 (nI k)) hl := by
  refine cf_X_way (c := c) X (cf_V_cut X.1 hk) hc (fun a b q1 q2 q3 => cf_cut_r q1) (fun a b q1 q2 q3 => cf_ru_ne (fun q => q3 ⟨q.1, Or.inl q.2⟩)) (fun _ _ _ => rfl) (by rw [cf_ru_eq, cf_cut_4]) ?_ (fun u hu => cf_cut_r (by omega)) (fun u h1 h2 => by rw [cf_cut_4] at h2; omega)
  rw [cf_ru_ne (by omega), cf_cut_r (by omega)]
  exact (X.2.2.2.2.1.2.2.1 c hc).2.2.2.2.2.2.1
/-- what the rounds of stop() leave alone -/
theorem cf_lp_row {k : Nat} {r : cf_S × Nat} : ∀ (f : Nat) (S : cf_S) (n : Nat), cf_Jk k S → cf_lp k f S n = some r → cf_Jk k r.1 ∧ cf_frt r.1 k false = 0 ∧ ∀ a b, ¬ a = 4 → ¬ a = 8 → a < 20 → r.1 a b = S a b
  | 0, S, n, _, h => by cases h
  | f + 1, S, n, J, h => by
    rw [cf_lp] at h
    by_cases e : cf_frt S k false = 0
    · rw [if_pos e] at h
      have h := (Option.some_inj.mp h).symm
      subst h
      exact ⟨J, e, fun _ _ _ _ _ => rfl⟩
    · rw [if_neg e] at h
      obtain ⟨h1, h2, h3⟩ := cf_frt_x e
      obtain ⟨t8, t4⟩ := cf_trb_t h3
      have h2 := of_decide_eq_false h2
      generalize cf_frt S k false - 1 = x at *
      have J' := (cf_stp_ok J (P := fun _ => false) (fun c _ q => by cases q) h1 h2 h3).1
      obtain ⟨g1, g2, g3⟩ := cf_lp_row f _ _ J' h
      refine ⟨g1, g2, fun a b q1 q2 q3 => ?_⟩
      rw [g3 a b q1 q2 q3]
      unfold cf_stp
      cases hp : cf_pl (cf_cut S x k) x with
      | none =>
        show cf_fte (cf_cut S x k) x 2 a b = S a b
        unfold cf_fte
        rw [if_neg (fun q => q2 q.1), cf_cut_r (by omega)]
      | some S1 =>
        show cf_pd S1 x a b = S a b
        obtain ⟨_, _, L1, _⟩ := cf_pl_some (cf_V_cut (c := x) J.1 (Nat.le_of_lt t4)) (cf_G_cut (c := x) J.2.1 t4) (by rw [cf_cut_r (by omega)]; exact h1) (cf_cut_dn J.2.1 h1 t4) hp
        unfold cf_pd
        by_cases q : a = 7 ∧ b = x
        · rw [if_pos q, q.1, q.2]; exact (J.2.2.1 x h1 h2 (by omega)).2.symm
        · rw [if_neg q, cf_lg_e L1 q1 (by omega), cf_cut_r (by omega)]
section RXE
variable {L : Nat} {t : List (Nat × Nat)}
variable {RI : Int32 → (Nat → Nat → Int32) → (Nat → Nat → Int64) → (Nat → Nat → Option Nat) → Prop}
variable {RV : (Nat → Nat → Int32) → (Nat → Nat → Int64) → (Nat → Nat → Option Nat) → Prop}
theorem cf_cn_o {n x : Nat} (hx : x ≤ n) (hn : n ≤ 6) : cf_cn n (oI x) = x := by
  unfold cf_cn
  rw [cf_oI_toInt (by omega)]
  by_cases h : x = 0
  · subst h; rfl
  · rw [if_pos (by omega)]; omega
theorem c63k {hi : Nat → Nat → Int32} {hl : Nat → Nat → Int64} {v : Nat → Nat → Option Nat} {S : cf_S} {c k : Nat} (hk : S 4 c = k) (X : cf_XR S hi hl) (G : cf_G S) (hc : c < S 0 2) (nd : ¬ cf_dn S c) (h5 : 0 < S 5 c) (ns : cf_nsw S c (S 4 c))
    (k0 : cf_pl S c = none → ∀ hi2 hl2 v2, cf_fC hi hi2 hl hl2 → cf_fv v v2 → cf_XR S hi2 hl2 → RI 0 hi2 hl2 v2)
    (k1 : ∀ S1, cf_pl S c = some S1 → cf_V S1 → cf_G S1 → cf_lg S c S1 → ∀ hi2 hl2 v2, cf_fC hi hi2 hl hl2 → cf_fv v v2 → cf_XR (cf_pd S1 c) hi2 hl2 → RI 1 hi2 hl2 v2) :
    rx_CI L t 63 [.ref 76, .ref (rx_ct c), .int (nI k)] hi hl v RI := by
  subst hk
  exact c63 X G hc nd h5 ns k0 k1
theorem c89 {k : Nat} {r : cf_S × Nat} : ∀ (f : Nat) (S : cf_S) (n i : Nat) (hi : Nat → Nat → Int32) (hl : Nat → Nat → Int64) (v : Nat → Nat → Option Nat), cf_Jk k S → cf_XR S hi hl → cf_lp k f S n = some r → i + f ≤ 10000 → (∀ hi2 hl2 v2, cf_fC hi hi2 hl hl2 → cf_fv v v2 → cf_XR r.1 hi2 hl2 → RI (nI r.2) hi2 hl2 v2) →
    rx_aw 89 4 [.ref 76, .int (nI k), .int (nI n), .int (nI i), rx_no] [] (rx_hp L t hi hl v) (fun r h2 => ∃ z : Int32, r = some (.int z) ∧ rx_ok2 L t h2 (RI z))
  | 0, S, n, i, hi, hl, v, _, _, h, _, _ => by cases h
  | f + 1, S, n, i, hi, hl, v, J, X, h, hif, kk => by
    have V := J.1
    have G := J.2.1
    have h6 := V.2.2.1
    have hk4 := J.2.2.2.2.2
    rw [cf_lp] at h
    have hfl : cf_frt S k false ≤ S 0 2 := cf_ff_le _ _
    refine w89_planTroubled_4 ⟨fun g => ?_, fun _ => c90 (g := false) X G hk4 (c59 V X.1.2.2.2.2.1 ?_)⟩
    · rw [show (10006 : Int32) = nI 10006 from rfl, nI_leI (by decide) (by omega)] at g; omega
    rw [cf_cn_o hfl h6]
    by_cases e : cf_frt S k false = 0
    · rw [if_pos e] at h
      have h := (Option.some_inj.mp h).symm
      subst h
      rw [if_pos e]
      exact Or.inl ⟨rfl, c_retI (kk hi hl v cf_fC_r (fun _ _ _ => rfl) X)⟩
    · rw [if_neg e] at h
      rw [if_neg e]
      obtain ⟨h1, h2, h3⟩ := cf_frt_x e
      obtain ⟨t8, t4⟩ := cf_trb_t h3
      have h2 := of_decide_eq_false h2
      generalize cf_frt S k false - 1 = x at *
      have hC := X.1.2.2.2.2.1.2.2.1 x h1
      have h400 := (V.2.2.2.2.2.2.1 x h1).2.2.2.1
      have J' := (cf_stp_ok J (P := fun _ => false) (fun c _ q => by cases q) h1 h2 h3).1
      refine Or.inr ⟨x, by omega, rfl, w88_cut (by omega) (c_retV ?_)⟩
      rw [hC.2.2.1, if_pos (nI_lt t4 (by omega))]
      have Xc := cf_X_cut X.1 h1 (Nat.le_of_lt t4)
      have Vc := Xc.1
      have Gc := cf_G_cut (c := x) G t4
      have hxc : x < cf_cut S x k 0 2 := by rw [cf_cut_r (by omega)]; exact h1
      have FC0 : cf_fC hi (rx_u hi (rx_ct x) 7 (nI k)) hl hl := ⟨fun a b q => by unfold cf_kc at q; exact cf_ru_ne (by unfold rx_ct; omega), fun _ _ _ => rfl, fun c' _ b => Or.inl (cf_ru_ne (by unfold rx_ct; omega))⟩
      refine c41 Xc (fun hi5 hl5 F5 R5 => ⟨fun g => ?_, fun _ => ?_⟩)
      · rw [show (10000 : Int32) = nI 10000 from rfl, nI_leI (by decide) (by omega)] at g; omega
      have X5 : cf_XR (cf_cut S x k) hi5 hl5 := ⟨cf_X_fr Xc F5, R5⟩
      have FC5 := cf_fC_t FC0 (cf_fr_fC F5)
      have hns : cf_nsw (cf_cut S x k) x (cf_cut S x k 4 x) := by
        rw [cf_cut_4]
        exact ((cf_bad_iff Vc hxc).mp (cf_cut_bad V (Nat.le_of_lt t4) h1 (Nat.le_refl _) (J.2.2.2.2.1 x h1 k (Nat.le_refl _)))).2
      have h5c : 0 < cf_cut S x k 5 x := by rw [cf_cut_r (by omega)]; exact (J.2.2.1 x h1 h2 (by omega)).1
      refine c63k cf_cut_4 X5 Gc hxc (cf_cut_dn G h1 t4) h5c hns (fun hp hi6 hl6 v6 F6 Fv6 X6 => ⟨fun _ => ?_, fun g => absurd rfl g⟩) (fun S1 hp V1 G1 L1 hi6 hl6 v6 F6 Fv6 X6 => ⟨fun g => absurd g (by decide), fun _ => ?_⟩)
      · have est : cf_stp S k x = (cf_fte (cf_cut S x k) x 2, 0) := by unfold cf_stp; rw [hp]
        rw [est] at h J'
        rw [nI_1]
        have X7 := cf_XR_fte X6 (x := 2) hxc (by decide)
        refine c89 f _ n (i + 1) _ hl6 v6 J' X7 h (by omega) (fun hi8 hl8 v8 F8 Fv8 X8 => kk hi8 hl8 v8 (cf_fC_t FC5 (cf_fC_t F6 (cf_fC_t ⟨fun a b q => ?_, fun _ _ _ => rfl, fun c' _ b => Or.inl ?_⟩ F8))) (cf_fv_t Fv6 Fv8) X8)
        · unfold cf_kc at q; exact cf_ru_ne (by unfold rx_ct; omega)
        · exact cf_ru_ne (by unfold rx_ct; omega)
      · have est : cf_stp S k x = (cf_pd S1 x, 1) := by unfold cf_stp; rw [hp]
        rw [est] at h J'
        rw [nI_1, nI_1]
        exact c89 f _ (n + 1) (i + 1) hi6 hl6 v6 J' X6 h (by omega) (fun hi8 hl8 v8 F8 Fv8 X8 => kk hi8 hl8 v8 (cf_fC_t FC5 (cf_fC_t F6 F8)) (cf_fv_t Fv6 Fv8) X8)
/-- all that stands in the ways, and in the ways kept, are bytes -/
def cf_bts (hi : Nat → Nat → Int32) : Prop := ∀ c, c < 6 → ∀ b, b < 400 → fits .byte (.int (hi (rx_ct c + 1) b)) = true ∧ fits .byte (.int (hi (rx_ct c + 2) b)) = true
theorem cf_bt7 {m : Nat} (h : m < 7) : fits .byte (.int (nI m)) = true := by
  have : ∀ i : Fin 7, fits .byte (.int (nI i.val)) = true := by decide +kernel
  exact this ⟨m, h⟩
theorem cf_bts_fC {hi hi2 : Nat → Nat → Int32} {hl hl2 : Nat → Nat → Int64} (b : cf_bts hi) (F : cf_fC hi hi2 hl hl2) : cf_bts hi2 := by
  intro c hc j hj
  refine ⟨?_, ?_⟩
  · rcases F.2.2 c hc j with q | ⟨m, h1, h2⟩
    · rw [q]; exact (b c hc j hj).1
    · rw [h2]; exact cf_bt7 h1
  · rw [F.1 _ _ (Or.inr (Or.inr (Or.inr (by unfold cf_kc rx_ct; omega))))]; exact (b c hc j hj).2
/-- the ways and fates of a state are kept -/
def cf_kpt (S : cf_S) (n : Nat) (hi : Nat → Nat → Int32) : Prop := ∀ c, c < n → hi (rx_ct c) 13 = nI (S 4 c) ∧ hi (rx_ct c) 14 = nI (S 8 c) ∧ ∀ u, u < S 4 c → hi (rx_ct c + 2) u = nI (S (20 + c) u)
theorem cf_row_ne {α : Type} {f : Nat → Nat → α} {i a : Nat} {g : Nat → α} (h : ¬ a = i) : rx_row f i g a = f a := by unfold rx_row; rw [if_neg h]
theorem cf_row_eq {α : Type} {f : Nat → Nat → α} {i : Nat} {g : Nat → α} : rx_row f i g i = g := by unfold rx_row; rw [if_pos rfl]
theorem c86 {hi : Nat → Nat → Int32} {hl : Nat → Nat → Int64} {v : Nat → Nat → Option Nat} {S : cf_S} (V : cf_V S) (C : cf_C S hi) (b : cf_bts hi) (k : ∀ hi2, (∀ a b, ¬ cf_kc a b → hi2 a b = hi a b) → cf_kpt S (S 0 2) hi2 → cf_bts hi2 → RV hi2 hl v) : rx_CV L t 86 [.ref 13] hi hl v RV := by
  have h6 := V.2.2.1
  have loop : ∀ d i, i + d = S 0 2 → ∀ hi2 : Nat → Nat → Int32, (∀ a b, ¬ cf_kc a b → hi2 a b = hi a b) → cf_kpt S i hi2 → cf_bts hi2 → rx_aw 86 2 [.ref 13, .int (nI i)] [] (rx_hp L t hi2 hl v) (fun r h2 => r = none ∧ rx_ok2 L t h2 RV) := by
    intro d
    induction d with
    | zero =>
      intro i hi0 hi2 F K B
      have : i = S 0 2 := by omega
      subst this
      refine w86_keepWays_2 ⟨fun _ => c_retV (k hi2 F K B), fun q => absurd ?_ q⟩
      rw [F 13 3 (by unfold cf_kc; omega), C.1]; exact nI_le (Nat.le_refl _) (by omega)
    | succ d ih =>
      intro i hi0 hi2 F K B
      have hC := C.2.2.1 i (by omega)
      have h400 := (V.2.2.2.2.2.2.1 i (by omega)).2.2.2.1
      refine w86_keepWays_2 ⟨fun q => ?_, fun _ => ⟨i, rfl, by omega, w87_keep (by omega) ⟨0, 0, 400, rfl, rfl, rfl, by omega, by omega, fun _ j hj => ?_, c_retV ?_⟩⟩⟩
      · rw [F 13 3 (by unfold cf_kc; omega), C.1] at q; exact absurd q (nI_ge (by omega) (by omega))
      · rw [Nat.zero_add]; exact (B i (by omega) j hj).1
      · rw [nI_1]
        have e7 : ∀ g, rx_row hi2 (rx_ct i + 2) g (rx_ct i) 7 = nI (S 4 i) := fun g => by rw [cf_row_ne (by omega), F _ _ (by unfold cf_kc rx_ct; omega)]; exact hC.2.2.1
        have e10 : ∀ g, rx_row hi2 (rx_ct i + 2) g (rx_ct i) 10 = nI (S 8 i) := fun g => by rw [cf_row_ne (by omega), F _ _ (by unfold cf_kc rx_ct; omega)]; exact hC.2.2.2.2.2.1
        rw [e7, cf_ru_ne (show ¬ (rx_ct i = rx_ct i ∧ 10 = 13) by omega), e10]
        have cpy : ∀ u, u < 400 → va_cpy (hi2 (rx_ct i + 1)) (hi2 (rx_ct i + 2)) 0 0 400 u = hi2 (rx_ct i + 1) u := by
          intro u hu
          unfold va_cpy
          rw [if_pos (by omega)]
          congr 1; omega
        refine ih (i + 1) (by omega) _ (fun a b q => ?_) (fun c hc => ?_) (fun c hc j hj => ?_)
        · rw [cf_ru_ne (fun z => q (by rw [z.1, z.2]; unfold cf_kc rx_ct; omega)), cf_ru_ne (fun z => q (by rw [z.1, z.2]; unfold cf_kc rx_ct; omega)), cf_row_ne (fun z => q (by rw [z]; unfold cf_kc rx_ct; omega))]
          exact F a b q
        · by_cases e : c = i
          · subst e
            refine ⟨by rw [cf_ru_ne (by omega), cf_ru_eq], by rw [cf_ru_eq], fun u hu => ?_⟩
            rw [cf_ru_ne (by omega), cf_ru_ne (by omega), cf_row_eq, cpy u (by omega), F _ _ (by unfold cf_kc rx_ct; omega)]
            exact hC.2.2.2.2.2.2.2 u hu
          · obtain ⟨k1, k2, k3⟩ := K c (by omega)
            refine ⟨?_, ?_, fun u hu => ?_⟩
            · rw [cf_ru_ne (by unfold rx_ct; omega), cf_ru_ne (by unfold rx_ct; omega), cf_row_ne (by unfold rx_ct; omega)]; exact k1
            · rw [cf_ru_ne (by unfold rx_ct; omega), cf_ru_ne (by unfold rx_ct; omega), cf_row_ne (by unfold rx_ct; omega)]; exact k2
            · rw [cf_ru_ne (by unfold rx_ct; omega), cf_ru_ne (by unfold rx_ct; omega), cf_row_ne (by unfold rx_ct; omega)]; exact k3 u hu
        · rw [cf_ru_ne (by unfold rx_ct; omega), cf_ru_ne (by unfold rx_ct; omega), cf_row_ne (by unfold rx_ct; omega), cf_ru_ne (by unfold rx_ct; omega), cf_ru_ne (by unfold rx_ct; omega)]
          refine ⟨(B c hc j hj).1, ?_⟩
          by_cases e : c = i
          · subst e
            rw [cf_row_eq, cpy j hj]; exact (B c hc j hj).1
          · rw [cf_row_ne (by unfold rx_ct; omega)]; exact (B c hc j hj).2
  exact w86_keepWays (loop (S 0 2) 0 (by omega) hi (fun _ _ _ => rfl) (fun c hc => by omega) b)
/-- the class's numbers of a state, out of those of one with other ways and fates -/
theorem cf_X_back {S S2 : cf_S} {hi hi2 : Nat → Nat → Int32} {hl : Nat → Nat → Int64} (V : cf_V S) (X : cf_X S2 hi hl) (hr : ∀ a b, ¬ a = 4 → ¬ a = 8 → a < 20 → S2 a b = S a b) (F : ∀ a b, ¬ (∃ c, c < 6 ∧ (a = rx_ct c + 1 ∨ (a = rx_ct c ∧ (b = 7 ∨ b = 10)))) → hi2 a b = hi a b)
    (K : ∀ c, c < S 0 2 → hi2 (rx_ct c) 7 = nI (S 4 c) ∧ hi2 (rx_ct c) 10 = nI (S 8 c) ∧ ∀ u, u < S 4 c → hi2 (rx_ct c + 1) u = nI (S (20 + c) u)) : cf_X S hi2 hl := by
  obtain ⟨V2, K1, K2, K3, C, G1, G2, Bb⟩ := X
  have h6 := V.2.2.1
  have h12 := V.2.2.2.1
  have e0 : ∀ b, S2 0 b = S 0 b := fun b => hr 0 b (by omega) (by omega) (by omega)
  have e1 : ∀ b, S2 1 b = S 1 b := fun b => hr 1 b (by omega) (by omega) (by omega)
  have e2 : ∀ b, S2 2 b = S 2 b := fun b => hr 2 b (by omega) (by omega) (by omega)
  have f0 : ∀ a b, a < 16 → hi2 a b = hi a b := fun a b h => F a b (fun ⟨c, _, q⟩ => by unfold rx_ct at q; omega)
  rw [e0, e0] at K1 K2 K3
  refine ⟨V, ?_, ?_, K3, ?_, fun q hq => by rw [← e1]; exact (f0 8 q (by omega)).trans (G1 q hq), fun q hq => by rw [← e2]; exact (f0 9 q (by omega)).trans (G2 q hq), ?_⟩
  · obtain ⟨a1, a2, a3, a4, a5, a6⟩ := K1
    exact ⟨a1, a2, a3, a4, (f0 7 0 (by omega)).trans a5, (f0 7 1 (by omega)).trans a6⟩
  · exact cf_K2_eq K2 (fun b => f0 10 b (by omega)) (fun b => rfl) (fun b => rfl)
  · obtain ⟨c1, c2, c3, c4⟩ := C
    rw [e0] at c1 c2
    refine ⟨(f0 13 3 (by omega)).trans c1, (f0 13 4 (by omega)).trans c2, fun o ho => ?_, fun s hs => ?_⟩
    · obtain ⟨d1, d2, d3, d4, d5, d6, d7, d8⟩ := c3 o (by rw [e0]; exact ho)
      rw [hr 3 o (by omega) (by omega) (by omega)] at d1
      rw [hr 9 o (by omega) (by omega) (by omega)] at d2
      rw [hr 5 o (by omega) (by omega) (by omega)] at d4
      rw [hr 6 o (by omega) (by omega) (by omega)] at d5
      rw [hr 7 o (by omega) (by omega) (by omega)] at d7
      obtain ⟨q1, q2, q3⟩ := K o ho
      have ff : ∀ j, ¬ j = 7 → ¬ j = 10 → hi2 (rx_ct o) j = hi (rx_ct o) j := fun j z1 z2 => F _ _ (fun ⟨c, _, q⟩ => by unfold rx_ct at q; omega)
      exact ⟨(ff 5 (by omega) (by omega)).trans d1, (ff 6 (by omega) (by omega)).trans d2, q1, (ff 8 (by omega) (by omega)).trans d4, (ff 9 (by omega) (by omega)).trans d5, q2, (ff 11 (by omega) (by omega)).trans d7, q3⟩
    · rw [F _ _ (fun ⟨c, _, q⟩ => by unfold rx_ct rx_sf at q; omega), ← hr 12 s (by omega) (by omega) (by omega)]
      exact c4 s (by rw [e0]; exact hs)
  · rw [Bb]
    unfold cf_bar
    rw [e0, e0]
    refine cf_un_eq (fun q _ => ?_)
    unfold cf_isb
    rw [e0, e1, e2]
theorem c94 {hi : Nat → Nat → Int32} {hl : Nat → Nat → Int64} {v : Nat → Nat → Option Nat} {S S2 : cf_S} (V : cf_V S) (X : cf_X S2 hi hl) (hr : ∀ a b, ¬ a = 4 → ¬ a = 8 → a < 20 → S2 a b = S a b) (K : cf_kpt S (S 0 2) hi) (b : cf_bts hi)
    (k : ∀ hi2 hl2, (∀ a b, (a < 13 ∨ a = 76 ∨ 84 ≤ a) → hi2 a b = hi a b) → (∀ a b, (a < 16 ∨ a = 76 ∨ 84 ≤ a) → hl2 a b = hl a b) → cf_bts hi2 → cf_XR S hi2 hl2 → RV hi2 hl2 v) : rx_CV L t 94 [.ref 13] hi hl v RV := by
  have h6 := V.2.2.1
  have en : S2 0 2 = S 0 2 := hr 0 2 (by omega) (by omega) (by omega)
  have loop : ∀ d i, i + d = S 0 2 → ∀ hi2 : Nat → Nat → Int32, (∀ a b, ¬ (∃ c, c < 6 ∧ (a = rx_ct c + 1 ∨ (a = rx_ct c ∧ (b = 7 ∨ b = 10)))) → hi2 a b = hi a b) → (∀ c, c < i → hi2 (rx_ct c) 7 = nI (S 4 c) ∧ hi2 (rx_ct c) 10 = nI (S 8 c) ∧ ∀ u, u < S 4 c → hi2 (rx_ct c + 1) u = nI (S (20 + c) u)) → cf_bts hi2 →
      rx_aw 94 2 [.ref 13, .int (nI i)] [] (rx_hp L t hi2 hl v) (fun r h2 => r = none ∧ rx_ok2 L t h2 RV) := by
    intro d
    induction d with
    | zero =>
      intro i hi0 hi2 F G B
      have : i = S 0 2 := by omega
      subst this
      refine w94_restoreWays_2 ⟨fun _ => ?_, fun q => absurd ?_ q⟩
      · have XS := cf_X_back V X hr F G
        refine c41 XS (fun hi3 hl3 F3 R3 => c_retV (k hi3 hl3 (fun a b q => ?_) (fun a b q => F3.2 a b (by unfold cf_rwl; omega)) (fun c hc j hj => ?_) ⟨cf_X_fr XS F3, R3⟩))
        · rw [F3.1 a b (by unfold cf_rw; omega)]
          exact F a b (fun ⟨c, _, z⟩ => by unfold rx_ct at z; omega)
        · rw [F3.1 _ _ (by unfold cf_rw rx_ct; omega), F3.1 _ _ (by unfold cf_rw rx_ct; omega)]; exact B c hc j hj
      · rw [F 13 3 (fun ⟨c, _, z⟩ => by unfold rx_ct at z; omega), X.2.2.2.2.1.1, en]; exact nI_le (Nat.le_refl _) (by omega)
    | succ d ih =>
      intro i hi0 hi2 F G B
      obtain ⟨k1, k2, k3⟩ := K i (by omega)
      have h400 := (V.2.2.2.2.2.2.1 i (by omega)).2.2.2.1
      have nk : ∀ a b, cf_kc a b → ¬ (∃ c, c < 6 ∧ (a = rx_ct c + 1 ∨ (a = rx_ct c ∧ (b = 7 ∨ b = 10)))) := by
        rintro a b h ⟨c, _, z⟩
        unfold cf_kc at h
        unfold rx_ct at z
        omega
      refine w94_restoreWays_2 ⟨fun q => ?_, fun _ => ⟨i, rfl, by omega, w95_restore (by omega) ⟨0, 0, 400, rfl, rfl, rfl, by omega, by omega, fun _ j hj => ?_, c_retV ?_⟩⟩⟩
      · rw [F 13 3 (fun ⟨c, _, z⟩ => by unfold rx_ct at z; omega), X.2.2.2.2.1.1, en] at q; exact absurd q (nI_ge (by omega) (by omega))
      · rw [Nat.zero_add]; exact (B i (by omega) j hj).2
      · rw [nI_1]
        have e13 : ∀ g, rx_row hi2 (rx_ct i + 1) g (rx_ct i) 13 = nI (S 4 i) := fun g => by rw [cf_row_ne (by omega), F _ _ (nk _ _ (by unfold cf_kc rx_ct; omega))]; exact k1
        have e14 : ∀ g, rx_row hi2 (rx_ct i + 1) g (rx_ct i) 14 = nI (S 8 i) := fun g => by rw [cf_row_ne (by omega), F _ _ (nk _ _ (by unfold cf_kc rx_ct; omega))]; exact k2
        rw [e13, cf_ru_ne (show ¬ (rx_ct i = rx_ct i ∧ 14 = 7) by omega), e14]
        have cpy : ∀ u, u < 400 → va_cpy (hi2 (rx_ct i + 2)) (hi2 (rx_ct i + 1)) 0 0 400 u = hi2 (rx_ct i + 2) u := by
          intro u hu
          unfold va_cpy
          rw [if_pos (by omega)]
          congr 1; omega
        refine ih (i + 1) (by omega) _ (fun a b q => ?_) (fun c hc => ?_) (fun c hc j hj => ?_)
        · rw [cf_ru_ne (fun z => q ⟨i, by omega, Or.inr ⟨z.1, Or.inr z.2⟩⟩), cf_ru_ne (fun z => q ⟨i, by omega, Or.inr ⟨z.1, Or.inl z.2⟩⟩), cf_row_ne (fun z => q ⟨i, by omega, Or.inl z⟩)]
          exact F a b q
        · by_cases e : c = i
          · subst e
            refine ⟨by rw [cf_ru_ne (by omega), cf_ru_eq], by rw [cf_ru_eq], fun u hu => ?_⟩
            rw [cf_ru_ne (by omega), cf_ru_ne (by omega), cf_row_eq, cpy u (by omega), F _ _ (nk _ _ (by unfold cf_kc rx_ct; omega))]
            exact k3 u hu
          · obtain ⟨g1, g2, g3⟩ := G c (by omega)
            refine ⟨?_, ?_, fun u hu => ?_⟩
            · rw [cf_ru_ne (by unfold rx_ct; omega), cf_ru_ne (by unfold rx_ct; omega), cf_row_ne (by unfold rx_ct; omega)]; exact g1
            · rw [cf_ru_ne (by unfold rx_ct; omega), cf_ru_ne (by unfold rx_ct; omega), cf_row_ne (by unfold rx_ct; omega)]; exact g2
            · rw [cf_ru_ne (by unfold rx_ct; omega), cf_ru_ne (by unfold rx_ct; omega), cf_row_ne (by unfold rx_ct; omega)]; exact g3 u hu
        · rw [cf_ru_ne (by unfold rx_ct; omega), cf_ru_ne (by unfold rx_ct; omega), cf_ru_ne (by unfold rx_ct; omega), cf_ru_ne (by unfold rx_ct; omega), cf_row_ne (a := rx_ct c + 2) (by unfold rx_ct; omega)]
          refine ⟨?_, (B c hc j hj).2⟩
          by_cases e : c = i
          · subst e
            rw [cf_row_eq, cpy j hj]; exact (B c hc j hj).2
          · rw [cf_row_ne (by unfold rx_ct; omega)]; exact (B c hc j hj).1
  exact w94_restoreWays (loop (S 0 2) 0 (by omega) hi (fun _ _ _ => rfl) (fun c hc => by omega) b)
theorem cf_XR_ext {S : cf_S} {hi hi2 : Nat → Nat → Int32} {hl hl2 : Nat → Nat → Int64} (X : cf_XR S hi hl) (F : ∀ a b, (a < 16 ∨ (16 ≤ a ∧ a < 52 ∧ (((a - 16) % 6 = 0 ∧ 5 ≤ b ∧ b ≤ 12) ∨ (a - 16) % 6 = 1 ∨ (a - 16) % 6 = 3)) ∨ (52 ≤ a ∧ a < 76)) → hi2 a b = hi a b) (Fl : ∀ a b, a < 52 → hl2 a b = hl a b) : cf_XR S hi2 hl2 := by
  obtain ⟨⟨V, K1, K2, K3, C, G1, G2, B⟩, R1, R2, R3⟩ := X
  have h6 := V.2.2.1
  have h12 := V.2.2.2.1
  have f0 : ∀ a b, a < 16 → hi2 a b = hi a b := fun a b h => F a b (Or.inl h)
  have fc : ∀ o j, o < 6 → 5 ≤ j → j ≤ 12 → hi2 (rx_ct o) j = hi (rx_ct o) j := fun o j h1 h2 h3 => F _ _ (by unfold rx_ct; omega)
  refine ⟨⟨V, ?_, ?_, fun q hq => ?_, ?_, fun q hq => (f0 8 q (by omega)).trans (G1 q hq), fun q hq => (f0 9 q (by omega)).trans (G2 q hq), (Fl 7 10 (by omega)).trans B⟩, R1.imp (fun z => (f0 13 5 (by omega)).trans z) (fun z => ⟨z.1, z.2.1, (f0 13 5 (by omega)).trans z.2.2⟩), fun o ho => ⟨fun u hu => ?_, ?_⟩, fun s hs u hu => ?_⟩
  · obtain ⟨a1, a2, a3, a4, a5, a6⟩ := K1
    exact ⟨a1, a2, a3, a4, (f0 7 0 (by omega)).trans a5, (f0 7 1 (by omega)).trans a6⟩
  · exact cf_K2_eq K2 (fun b => f0 10 b (by omega)) (fun b => Fl 11 b (by omega)) (fun b => Fl 12 b (by omega))
  · obtain ⟨k1, k2, k3⟩ := K3 q hq
    rw [Fl 7 2 (by omega), Fl 7 3 (by omega), Fl 7 4 (by omega)]
    exact ⟨k1, k2, k3⟩
  · obtain ⟨c1, c2, c3, c4⟩ := C
    refine ⟨(f0 13 3 (by omega)).trans c1, (f0 13 4 (by omega)).trans c2, fun o ho => ?_, fun s hs => ?_⟩
    · obtain ⟨d1, d2, d3, d4, d5, d6, d7, d8⟩ := c3 o ho
      exact ⟨(fc o 5 (by omega) (by omega) (by omega)).trans d1, (fc o 6 (by omega) (by omega) (by omega)).trans d2, (fc o 7 (by omega) (by omega) (by omega)).trans d3, (fc o 8 (by omega) (by omega) (by omega)).trans d4, (fc o 9 (by omega) (by omega) (by omega)).trans d5, (fc o 10 (by omega) (by omega) (by omega)).trans d6, (fc o 11 (by omega) (by omega) (by omega)).trans d7, fun u hu => (F _ _ (by unfold rx_ct; omega)).trans (d8 u hu)⟩
    · exact (F _ _ (by unfold rx_sf; omega)).trans (c4 s hs)
  · obtain ⟨r1, r2, r3⟩ := (R2 o ho).1 u hu
    rw [F _ _ (by unfold rx_ct; omega), Fl _ _ (by unfold rx_ct; omega), Fl _ _ (by unfold rx_ct; omega)]
    exact ⟨r1, r2, r3⟩
  · rw [fc o 12 (by omega) (by omega) (by omega)]; exact (R2 o ho).2
  · rw [F _ _ (by unfold rx_sf; omega)]; exact R3 s hs u hu
/-- stop() begins -/
def cf_st0 (S : cf_S) (c k : Nat) : cf_S := cf_fte (cf_cut S c (min (S 4 c) k)) c 1
theorem c85 {hi : Nat → Nat → Int32} {hl : Nat → Nat → Int64} {v : Nat → Nat → Option Nat} {S : cf_S} (X : cf_XR S hi hl) (b : cf_bts hi) {ls : Nat} (hls : hi 76 3 = nI ls) (hls4 : ls ≤ 400) {a0 a1 : Int32}
    (kr : (cf_cn (S 0 2) a0 = 0 ∨ S 3 (cf_cn (S 0 2) a0 - 1) = 3 ∨ ¬ S 8 (cf_cn (S 0 2) a0 - 1) = 0 ∨ ¬ ((ls : Int) ≤ a1.toInt ∧ a1.toInt ≤ 400)) → RI (-2) hi hl v)
    (kg : ¬ cf_cn (S 0 2) a0 = 0 → ¬ S 3 (cf_cn (S 0 2) a0 - 1) = 3 → S 8 (cf_cn (S 0 2) a0 - 1) = 0 → ∀ k, a1 = nI k → ls ≤ k → k ≤ 400 → cf_Jk k (cf_st0 S (cf_cn (S 0 2) a0 - 1) k) ∧ ∃ f r, f ≤ 400 ∧ cf_lp k f (cf_st0 S (cf_cn (S 0 2) a0 - 1) k) 0 = some r
      ∧ (cf_frt r.1 k true = 0 → ∀ hi2 hl2 v2, (∀ a b, (a < 13 ∨ 84 ≤ a) → hi2 a b = hi a b) → (∀ a b, (a < 16 ∨ 84 ≤ a) → hl2 a b = hl a b) → cf_fv v v2 → cf_bts hi2 → hi2 76 3 = nI k → cf_XR r.1 hi2 hl2 → RI (nI r.2) hi2 hl2 v2)
      ∧ (¬ cf_frt r.1 k true = 0 → ∀ hi2 hl2 v2, (∀ a b, (a < 13 ∨ 84 ≤ a) → hi2 a b = hi a b) → (∀ a b, (a < 16 ∨ 84 ≤ a) → hl2 a b = hl a b) → cf_fv v v2 → cf_bts hi2 → hi2 76 3 = nI ls → cf_XR S hi2 hl2 → RI (-3) hi2 hl2 v2)) :
    rx_CI L t 85 [.ref 1, .int a0, .int a1] hi hl v RI := by
  have V := X.1.1
  have h6 := V.2.2.1
  refine w85_stop (c59 V X.1.2.2.2.2.1 ?_)
  by_cases h0 : cf_cn (S 0 2) a0 = 0
  · rw [if_pos h0]
    exact Or.inl ⟨rfl, c_retI (kr (Or.inl h0))⟩
  rw [if_neg h0]
  have hcl : cf_cn (S 0 2) a0 - 1 < S 0 2 := by
    unfold cf_cn at h0 ⊢
    split
    · omega
    · rename_i q; rw [if_neg q] at h0; exact absurd rfl h0
  generalize cf_cn (S 0 2) a0 - 1 = c at *
  obtain ⟨hkd, _, _, h400, _, _, _, v8, _⟩ := V.2.2.2.2.2.2.1 c hcl
  have hC := X.1.2.2.2.2.1.2.2.1 c hcl
  refine Or.inr ⟨c, by omega, rfl, fun g => c_retI (kr (Or.inr (Or.inl ?_))), fun g => ⟨fun g2 => ⟨fun g3 => c_retI (kr (Or.inr (Or.inr (Or.inr ?_)))), fun g3 => ⟨fun g4 => ?_, fun g4 => c_retI (kr (Or.inr (Or.inr (Or.inr ?_))))⟩⟩, fun g2 => c_retI (kr (Or.inr (Or.inr (Or.inl ?_))))⟩⟩
  · rw [hC.1, show (3 : Int32) = nI 3 from rfl, nI_eq (by omega) (by decide)] at g; exact g
  · rw [hls, cf_lt, nI_toInt (by omega)] at g3; omega
  · rw [hC.1, show (3 : Int32) = nI 3 from rfl, nI_eq (by omega) (by decide)] at g
    rw [hC.2.2.2.2.2.1, show (0 : Int32) = nI 0 from rfl, nI_eq (by omega) (by decide)] at g2
    rw [hls, cf_lt, nI_toInt (by omega)] at g3
    rw [show (400 : Int32) = nI 400 from rfl, cf_le', nI_toInt (by decide)] at g4
    obtain ⟨ek, hkb⟩ := cf_x (x := a1) (by omega)
    generalize hkk : a1.toInt.toNat = k at *
    obtain ⟨J, f, r, hf, hr, kA, kB⟩ := kg h0 g g2 k ek (by omega) (by omega)
    subst ek
    have hk4 : k ≤ 400 := by omega
    refine c86 V X.1.2.2.2.2.1 b (fun hi2 F2 K2 B2 => ?_)
    have X2 : cf_XR S hi2 hl := cf_XR_ext X (fun a b q => F2 a b (by unfold cf_kc; omega)) (fun _ _ _ => rfl)
    have hmin : min (S 4 c) k ≤ S 4 c := Nat.min_le_left _ _
    have e7 : (if nI k < hi2 (rx_ct c) 7 then nI k else hi2 (rx_ct c) 7) = nI (min (S 4 c) k) := by
      rw [(X2.1.2.2.2.2.1.2.2.1 c hcl).2.2.1]
      by_cases q : k < S 4 c
      · rw [if_pos (nI_lt q (by omega)), Nat.min_eq_right (by omega)]
      · rw [if_neg (nI_nlt (by omega) (by omega)), Nat.min_eq_left (by omega)]
    refine w88_cut (by omega) (c_retV ?_)
    rw [e7]
    have Xc := cf_X_cut X2.1 hcl hmin
    have Xf := cf_X_fte (x := 1) Xc (by rw [cf_cut_r (by omega)]; exact hcl) (by decide)
    refine c41 Xf (fun hi3 hl3 F3 R3 => w89_planTroubled ?_)
    have X3 : cf_XR (cf_st0 S c k) hi3 hl3 := ⟨cf_X_fr Xf F3, R3⟩
    have FC3 : cf_fC hi2 hi3 hl hl3 := by
      refine cf_fC_t ⟨fun a b q => ?_, fun _ _ _ => rfl, fun c' _ b => Or.inl ?_⟩ (cf_fr_fC F3)
      · unfold cf_kc at q; rw [cf_ru_ne (by unfold rx_ct; omega), cf_ru_ne (by unfold rx_ct; omega)]
      · rw [cf_ru_ne (by unfold rx_ct; omega), cf_ru_ne (by unfold rx_ct; omega)]
    refine c89 f _ 0 0 hi3 hl3 v J X3 hr (by omega) (fun hi4 hl4 v4 F4 Fv4 X4 => ?_)
    obtain ⟨Jr, _, hrow⟩ := cf_lp_row f _ _ J hr
    have FC4 := cf_fC_t FC3 F4
    have B4 := cf_bts_fC B2 FC4
    have F4a : ∀ a b, (a < 13 ∨ 84 ≤ a) → hi4 a b = hi a b := fun a b q => (FC4.1 a b (by omega)).trans (F2 a b (by unfold cf_kc; omega))
    have F4l : ∀ a b, (a < 16 ∨ 84 ≤ a) → hl4 a b = hl a b := fun a b q => FC4.2.1 a b (by omega)
    have h763 : hi4 76 3 = nI ls := ((FC4.1 76 3 (by omega)).trans (F2 76 3 (by unfold cf_kc; omega))).trans hls
    have hfl : cf_frt r.1 k true ≤ r.1 0 2 := cf_ff_le _ _
    have h6r := Jr.1.2.2.1
    refine c90 (g := true) X4 Jr.2.1 hk4 ⟨fun q => c_retI ?_, fun q => ?_⟩
    · rw [cf_oneg (by omega)] at q
      refine kA q _ hl4 v4 (fun a b z => by rw [cf_ru_ne (by omega)]; exact F4a a b z) F4l Fv4 (fun c' hc' j hj => ?_) cf_ru_eq (cf_XR_ext X4 (fun a b z => cf_ru_ne (by omega)) (fun _ _ _ => rfl))
      rw [cf_ru_ne (by unfold rx_ct; omega), cf_ru_ne (by unfold rx_ct; omega)]; exact B4 c' hc' j hj
    · rw [cf_oneg (by omega)] at q
      have K4 : cf_kpt S (S 0 2) hi4 := by
        intro o ho
        obtain ⟨k1, k2, k3⟩ := K2 o ho
        have kc : ∀ a b, cf_kc a b → hi4 a b = hi2 a b := fun a b z => FC4.1 a b (Or.inr (Or.inr (Or.inr z)))
        exact ⟨(kc _ _ (by unfold cf_kc rx_ct; omega)).trans k1, (kc _ _ (by unfold cf_kc rx_ct; omega)).trans k2, fun u hu => (kc _ _ (by unfold cf_kc rx_ct; omega)).trans (k3 u hu)⟩
      refine c94 V X4.1 (fun a b z1 z2 z3 => ?_) K4 B4 (fun hi5 hl5 F5 Fl5 B5 X5 => c_retI (kB q hi5 hl5 v4 (fun a b z => (F5 a b (by omega)).trans (F4a a b z)) (fun a b z => (Fl5 a b (by omega)).trans (F4l a b z)) Fv4 B5 ((F5 76 3 (by omega)).trans h763) X5))
      rw [hrow a b z1 z2 z3]
      unfold cf_st0 cf_fte
      rw [if_neg (fun w => z2 w.1), cf_cut_r (fun w => z1 w.1)]
  · rw [show (400 : Int32) = nI 400 from rfl, cf_le', nI_toInt (by decide)] at g4; omega
  · rw [hC.2.2.2.2.2.1, show (0 : Int32) = nI 0 from rfl, nI_eq (by omega) (by decide)] at g2; exact g2
end RXE
