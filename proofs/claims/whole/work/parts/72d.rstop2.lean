/-! CartFloorModel.isCart, isOpen, stop. -/
/-- what stop() of the reference writes -/
def cf_fS (hi hi2 : Nat → Nat → Int32) : Prop := ∀ a b, ¬ (a = 90 ∧ (b = 33 ∨ b = 34 ∨ b = 48)) → ¬ (94 ≤ a ∧ a ≤ 95) → ¬ (99 ≤ a ∧ a ≤ 104) → ¬ a = 108 → ¬ a = 115 → ¬ a = 116 → ¬ (121 ≤ a ∧ a ≤ 124) → hi2 a b = hi a b
theorem cf_fS_t {hi hi2 hi3 : Nat → Nat → Int32} (h1 : cf_fS hi hi2) (h2 : cf_fS hi2 hi3) : cf_fS hi hi3 := fun a b q1 q2 q3 q4 q5 q6 q7 => (h2 a b q1 q2 q3 q4 q5 q6 q7).trans (h1 a b q1 q2 q3 q4 q5 q6 q7)
theorem cf_fS_P {hi hi2 : Nat → Nat → Int32} (h : cf_fP hi hi2) : cf_fS hi hi2 := fun a b q1 q2 q3 q4 q5 q6 q7 => h a b (by omega) (by omega) (by omega) q4 q5 q6
theorem cf_fS_w {hi hi2 : Nat → Nat → Int32} (h : cf_fw hi hi2) : cf_fS hi hi2 := fun a b q1 q2 q3 q4 q5 q6 q7 => h a b (by omega) (by omega) q4
theorem cf_fPl_w {hl hl2 : Nat → Nat → Int64} (h : cf_fwl hl hl2) : cf_fPl hl hl2 := fun a b _ q2 q3 _ => h a b q2 q3
section RXE
variable {L : Nat} {t : List (Nat × Nat)} {v : Nat → Nat → Option Nat}
variable {RI : Int32 → (Nat → Nat → Int32) → (Nat → Nat → Int64) → (Nat → Nat → Option Nat) → Prop}
theorem c161 {hi : Nat → Nat → Int32} {hl : Nat → Nat → Int64} {S : cf_S} (V : cf_V S) (M : cf_M S hi) {x : Int32} (k : RI (cf_B (decide (0 < cf_cn (S 0 2) x))) hi hl v) : rx_CI L t 161 [.ref 90, .int x] hi hl v RI := by
  have h6 := V.2.2.1
  unfold cf_cn at k
  have h0 : (x < 0 ↔ x.toInt < 0) := by rw [cf_lt]; rfl
  have h1 : (nI (S 0 2) ≤ x ↔ (S 0 2 : Int) ≤ x.toInt) := by rw [cf_le', nI_toInt (by omega)]
  refine w161_isCart_r ⟨fun g => c_retI ?_, fun g => ⟨fun g2 => c_retI ?_, fun g2 => c_retI ?_⟩⟩
  · rw [h0] at g
    rw [if_neg (by omega)] at k; exact k
  · rw [h0] at g
    rw [M.2.1, h1] at g2
    rw [if_neg (by omega)] at k; exact k
  · rw [h0] at g
    rw [M.2.1, h1] at g2
    rw [if_pos (by omega), decide_eq_true (by omega)] at k; exact k
theorem c162 {hi : Nat → Nat → Int32} {hl : Nat → Nat → Int64} {S : cf_S} (V : cf_V S) (M : cf_M S hi) {c : Nat} (hc : c < S 0 2) (k : RI (cf_B (cf_op S c)) hi hl v) : rx_CI L t 162 [.ref 90, .int (nI c)] hi hl v RI := by
  have h6 := V.2.2.1
  obtain ⟨_, _, _, _, _, _, v7, v8, _⟩ := V.2.2.2.2.2.2.1 c hc
  have hC := M.2.2.2.2.2.1 c hc
  have i0 : (0 : Int32) = nI 0 := rfl
  unfold cf_op at k
  refine w162_isOpen_r ⟨c, rfl, by omega, fun g => c_retI ?_, fun g => ⟨c, rfl, by omega, fun g2 => ⟨c, rfl, by omega, fun g3 => c_retI ?_, fun g3 => c_retI ?_⟩, fun g2 => c_retI ?_⟩⟩
  · rw [hC.2.2.1] at g
    rw [cf_B_eq g, Bool.false_and, Bool.false_and] at k; exact k
  all_goals rw [hC.2.2.1] at g; have g := cf_B_ne g
  · rw [hC.2.2.2.2.1, i0, nI_eq (by omega) (by decide)] at g2
    rw [hC.2.2.2.2.2.1, i0, nI_eq (by omega) (by decide)] at g3
    rw [g, decide_eq_true g2, decide_eq_true g3] at k; exact k
  · rw [hC.2.2.2.2.1, i0, nI_eq (by omega) (by decide)] at g2
    rw [hC.2.2.2.2.2.1, i0, nI_eq (by omega) (by decide)] at g3
    rw [g, decide_eq_true g2, decide_eq_false g3] at k; exact k
  · rw [hC.2.2.2.2.1, i0, nI_eq (by omega) (by decide)] at g2
    rw [g, decide_eq_false g2] at k; exact k
theorem cf_cn_x {n : Nat} {x : Int32} (hn : n ≤ 6) (h : 0 < cf_cn n x) : x = nI (cf_cn n x - 1) ∧ cf_cn n x - 1 < n := by
  unfold cf_cn at h ⊢
  split
  · rename_i q
    obtain ⟨e, _⟩ := cf_x q.1
    refine ⟨by rw [Nat.add_sub_cancel]; exact e, by omega⟩
  · rename_i q; rw [if_neg q] at h; omega
/-- the rounds -/
theorem g199 {k : Nat} {r : cf_S × Nat} {a0 : Int32} {S0 : cf_S} (V0 : cf_V S0) (H00 : cf_H0 S0) : ∀ (f : Nat) (S : cf_S) (n : Nat) (hi : Nat → Nat → Int32) (hl : Nat → Nat → Int64), cf_Jk k S → cf_RM S hi hl → cf_lp k f S n = some r → (∀ a b, ¬ a = 4 → ¬ a = 8 → a < 20 → S a b = S0 a b) → cf_kpr S0 6 hi → cf_kpw S0 2400 hi →
    (cf_frt r.1 k true = 0 → ∀ hi2 hl2, cf_fS hi hi2 → cf_fPl hl hl2 → hi2 90 48 = nI k → cf_RM r.1 hi2 hl2 → RI (nI r.2) hi2 hl2 v) →
    (¬ cf_frt r.1 k true = 0 → ∀ hi2 hl2, cf_fS hi hi2 → cf_fPl hl hl2 → hi2 90 48 = hi 90 48 → cf_RM S0 hi2 hl2 → RI (-3) hi2 hl2 v) →
    rx_aw 199 97 [.ref 90, .int a0, .int (nI k), .int (nI n), .int (oI (cf_frt S k false))] [] (rx_hp L t hi hl v) (fun r h2 => ∃ z : Int32, r = some (.int z) ∧ rx_ok2 L t h2 (RI z))
  | 0, S, n, hi, hl, _, _, h, _, _, _, _, _ => by cases h
  | f + 1, S, n, hi, hl, J, Z, h, hrow, K, W, kA, kB => by
    have V := J.1
    have G := J.2.1
    have h6 := V.2.2.1
    have hk4 := J.2.2.2.2.2
    have hfl : cf_frt S k false ≤ S 0 2 := cf_ff_le _ _
    rw [cf_lp] at h
    by_cases e : cf_frt S k false = 0
    · rw [if_pos e] at h
      have h := (Option.some_inj.mp h).symm
      subst h
      rw [e]
      have hgl : cf_frt S k true ≤ S 0 2 := cf_ff_le _ _
      refine w199_stop_r_97 ⟨fun _ => c201 (g := true) Z G hk4 ⟨fun q => c_retI (kA ?_ _ hl (fun a b q1 _ _ _ _ _ _ => cf_ru_ne (by omega)) (fun _ _ _ _ _ _ => rfl) cf_ru_eq ?_), fun q => ?_⟩, fun g => absurd (by decide) g⟩
      · rw [cf_oneg (by omega)] at q; exact q
      · obtain ⟨V1, H1, M1, K1, N1⟩ := Z
        obtain ⟨nl, e1, e2⟩ := K1.2
        refine ⟨V1, H1, cf_M_ext M1 (fun a b q1 q2 q3 => cf_ru_ne (by omega)), ⟨by rw [cf_ru_ne (by omega)]; exact K1.1, nl, by rw [cf_ru_ne (by omega)]; exact e1, e2⟩, ?_⟩
        refine ⟨fun o ho => ⟨fun u hu => ?_, fun u hu => by rw [cf_ru_ne (by omega)]; exact (N1.1 o ho).2 u hu⟩, fun s hs u hu => by rw [cf_ru_ne (by omega)]; exact N1.2 s hs u hu⟩
        rw [cf_ru_ne (by omega), cf_ru_ne (by omega), cf_ru_ne (by omega)]
        exact (N1.1 o ho).1 u hu
      · rw [cf_oneg (by omega)] at q
        refine c200t V0 Z.2.2.1 (fun a b q1 q2 q3 q4 => hrow a b q1 q3 q4) K W (fun hi2 F2 M2 => ?_)
        have K2 : cf_ck hi2 := by
          obtain ⟨nl, e1, e2⟩ := Z.2.2.2.1.2
          exact ⟨(F2 90 35 (by omega)).trans Z.2.2.2.1.1, nl, (F2 90 36 (by omega)).trans e1, e2⟩
        refine c191w V0 H00 M2 K2 (fun hi3 hl3 F3 Fl3 M3 K3 N3 => c_retI (kB q hi3 hl3 (cf_fS_t (fun a b q1 q2 q3 q4 q5 q6 q7 => F2 a b (by omega)) (cf_fS_w F3)) (cf_fPl_w Fl3) ((F3 90 48 (by omega) (by omega) (by omega)).trans (F2 90 48 (by omega))) ⟨V0, H00, M3, K3, N3⟩))
    · rw [if_neg e] at h
      obtain ⟨h1, h2, h3⟩ := cf_frt_x e
      obtain ⟨t8, t4⟩ := cf_trb_t h3
      have h2 := of_decide_eq_false h2
      obtain ⟨x, hx⟩ : ∃ x, cf_frt S k false = x + 1 := ⟨cf_frt S k false - 1, by omega⟩
      rw [hx, Nat.add_sub_cancel] at h h1 h2 h3 t8 t4
      rw [hx, cf_oS]
      have h400 := (V.2.2.2.2.2.2.1 x h1).2.2.2.1
      have J' := (cf_stp_ok J (P := fun _ => false) (fun c _ q => by cases q) h1 h2 h3).1
      obtain ⟨V1, H1, M1, K1, N1⟩ := Z
      have Vc := cf_V_cut (c := x) V (Nat.le_of_lt t4)
      have Mc := cf_M_cut M1 (Nat.le_of_lt t4)
      have Hc : cf_H0 (cf_cut S x k) := by
        intro o s ho hs e
        rw [cf_cut_r (by omega)] at ho hs e
        rw [cf_cut_r (by omega), cf_cut_r (by omega)]
        exact H1 o s ho hs e
      have Kc : cf_ck (rx_u hi 94 x (nI k)) := by
        obtain ⟨nl, e1, e2⟩ := K1.2
        exact ⟨by rw [cf_ru_ne (by omega)]; exact K1.1, nl, by rw [cf_ru_ne (by omega)]; exact e1, e2⟩
      have hxc : x < cf_cut S x k 0 2 := by rw [cf_cut_r (by omega)]; exact h1
      have h5c : 0 < cf_cut S x k 5 x := by rw [cf_cut_r (by omega)]; exact (J.2.2.1 x h1 h2 (by omega)).1
      refine w199_stop_r_97 ⟨fun g => absurd g (nI_pos (by omega)), fun _ => ⟨x, rfl, by omega, c191w Vc Hc Mc Kc (fun hi2 hl2 F2 Fl2 M2 K2 N2 => ?_)⟩⟩
      have FS2 : cf_fS hi hi2 := cf_fS_t (fun a b q1 q2 q3 q4 q5 q6 q7 => cf_ru_ne (by omega)) (cf_fS_w F2)
      -- what is remembered stays
      have keep : ∀ hi3 : Nat → Nat → Int32, (∀ a b, (121 ≤ a ∧ a ≤ 124) → hi3 a b = hi2 a b) → cf_kpr S0 6 hi3 ∧ cf_kpw S0 2400 hi3 := by
        intro hi3 F3
        have f : ∀ a b, (121 ≤ a ∧ a ≤ 124) → hi3 a b = hi a b := fun a b q => (F3 a b q).trans ((F2 a b (by omega) (by omega) (by omega)).trans (cf_ru_ne (by omega)))
        refine ⟨fun c q1 q2 => ?_, fun c hc u hu hlt => by rw [f _ _ (by omega)]; exact W c hc u hu hlt⟩
        rw [f _ _ (by omega), f _ _ (by omega), f _ _ (by omega)]; exact K c q1 q2
      have rowst : ∀ a b, ¬ a = 4 → ¬ a = 8 → a < 20 → (cf_stp S k x).1 a b = S0 a b := by
        intro a b q1 q2 q3
        rw [← hrow a b q1 q2 q3]
        unfold cf_stp
        cases hp : cf_pl (cf_cut S x k) x with
        | none =>
          show cf_fte (cf_cut S x k) x 2 a b = S a b
          unfold cf_fte
          rw [if_neg (fun q => q2 q.1), cf_cut_r (by omega)]
        | some S1 =>
          show cf_pd S1 x a b = S a b
          obtain ⟨_, _, L1, _⟩ := cf_pl_some Vc (cf_G_cut (c := x) G t4) hxc (cf_cut_dn G h1 t4) hp
          unfold cf_pd
          by_cases q : a = 7 ∧ b = x
          · rw [if_pos q, q.1, q.2]; exact (J.2.2.1 x h1 h2 (by omega)).2.symm
          · rw [if_neg q, cf_lg_e L1 q1 (by omega), cf_cut_r (by omega)]
      refine c163 ⟨Vc, Hc, M2, K2, N2⟩ hxc h5c (fun hp hi3 hl3 F3 Fl3 R3 => ⟨fun _ => ⟨x, rfl, by omega, ?_⟩, fun g => absurd rfl g⟩) (fun S1 hp L1 hi3 hl3 F3 Fl3 R3 => ⟨fun g => absurd g (by decide), fun _ => ?_⟩)
      · have est : cf_stp S k x = (cf_fte (cf_cut S x k) x 2, 0) := by unfold cf_stp; rw [hp]
        rw [est] at h J' rowst
        have R4 : cf_RM (cf_fte (cf_cut S x k) x 2) (rx_u hi3 100 x 2) hl3 := by
          obtain ⟨V3, H3, M3, K3, N3⟩ := R3
          obtain ⟨nl, e1, e2⟩ := K3.2
          refine ⟨cf_V_fte V3 x (by decide), cf_H0_sam (cf_r78_sam (cf_r78_fte _ _ _)) H3, cf_M_fte M3 x 2, ⟨by rw [cf_ru_ne (by omega)]; exact K3.1, nl, by rw [cf_ru_ne (by omega)]; exact e1, e2⟩, cf_NW_sam (cf_r78_sam (cf_r78_fte _ _ _)) ?_⟩
          refine ⟨fun o ho => ⟨fun u hu => ?_, fun u hu => by rw [cf_ru_ne (by omega)]; exact (N3.1 o ho).2 u hu⟩, fun s hs u hu => by rw [cf_ru_ne (by omega)]; exact N3.2 s hs u hu⟩
          rw [cf_ru_ne (by omega), cf_ru_ne (by omega), cf_ru_ne (by omega)]
          exact (N3.1 o ho).1 u hu
        have FS4 : cf_fS hi (rx_u hi3 100 x 2) := cf_fS_t FS2 (cf_fS_t (cf_fS_P F3) (fun a b q1 q2 q3 q4 q5 q6 q7 => cf_ru_ne (by omega)))
        obtain ⟨Kr, Kw⟩ := keep (rx_u hi3 100 x 2) (fun a b q => by rw [cf_ru_ne (by omega)]; exact F3 a b (by omega) (by omega) (by omega) (by omega) (by omega) (by omega))
        have e48 : (rx_u hi3 100 x 2) 90 48 = hi 90 48 := by rw [cf_ru_ne (by omega), F3 90 48 (by omega) (by omega) (by omega) (by omega) (by omega) (by omega), F2 90 48 (by omega) (by omega) (by omega), cf_ru_ne (by omega)]
        refine c201 (g := false) R4 J'.2.1 hk4 ?_
        exact g199 V0 H00 f _ n _ hl3 J' R4 h rowst Kr Kw (fun q hi5 hl5 F5 Fl5 => kA q hi5 hl5 (cf_fS_t FS4 F5) (cf_fPl_t (cf_fPl_w Fl2) (cf_fPl_t Fl3 Fl5))) (fun q hi5 hl5 F5 Fl5 e5 => kB q hi5 hl5 (cf_fS_t FS4 F5) (cf_fPl_t (cf_fPl_w Fl2) (cf_fPl_t Fl3 Fl5)) (e5.trans e48))
      · have est : cf_stp S k x = (cf_pd S1 x, 1) := by unfold cf_stp; rw [hp]
        rw [est] at h J' rowst
        have FS4 : cf_fS hi hi3 := cf_fS_t FS2 (cf_fS_P F3)
        obtain ⟨Kr, Kw⟩ := keep hi3 (fun a b q => F3 a b (by omega) (by omega) (by omega) (by omega) (by omega) (by omega))
        have e48 : hi3 90 48 = hi 90 48 := by rw [F3 90 48 (by omega) (by omega) (by omega) (by omega) (by omega) (by omega), F2 90 48 (by omega) (by omega) (by omega), cf_ru_ne (by omega)]
        rw [nI_1]
        refine c201 (g := false) R3 J'.2.1 hk4 ?_
        exact g199 V0 H00 f _ (n + 1) hi3 hl3 J' R3 h rowst Kr Kw (fun q hi5 hl5 F5 Fl5 => kA q hi5 hl5 (cf_fS_t FS4 F5) (cf_fPl_t (cf_fPl_w Fl2) (cf_fPl_t Fl3 Fl5))) (fun q hi5 hl5 F5 Fl5 e5 => kB q hi5 hl5 (cf_fS_t FS4 F5) (cf_fPl_t (cf_fPl_w Fl2) (cf_fPl_t Fl3 Fl5)) (e5.trans e48))
theorem cf_cut_fte (S : cf_S) (c x k : Nat) : cf_cut (cf_fte S c x) c k = cf_fte (cf_cut S c k) c x := by
  funext a b
  unfold cf_cut cf_fte
  by_cases h4 : a = 4 ∧ b = c
  · rw [if_pos h4, if_neg (by omega)]
    exact (if_pos h4).symm
  · rw [if_neg h4]
    by_cases h8 : a = 8 ∧ b = c
    · rw [if_pos h8, if_pos h8]
    · rw [if_neg h8, if_neg h8]
      exact (if_neg h4).symm
theorem c199 {hi : Nat → Nat → Int32} {hl : Nat → Nat → Int64} {S : cf_S} (Z : cf_RM S hi hl) {ls : Nat} (hls : hi 90 48 = nI ls) (hls4 : ls ≤ 400) {a0 a1 : Int32}
    (kr : (cf_cn (S 0 2) a0 = 0 ∨ S 3 (cf_cn (S 0 2) a0 - 1) = 3 ∨ ¬ S 8 (cf_cn (S 0 2) a0 - 1) = 0 ∨ ¬ ((ls : Int) ≤ a1.toInt ∧ a1.toInt ≤ 400)) → RI (-2) hi hl v)
    (kg : ¬ cf_cn (S 0 2) a0 = 0 → ¬ S 3 (cf_cn (S 0 2) a0 - 1) = 3 → S 8 (cf_cn (S 0 2) a0 - 1) = 0 → ∀ k, a1 = nI k → ls ≤ k → k ≤ 400 → cf_Jk k (cf_st0 S (cf_cn (S 0 2) a0 - 1) k) ∧ ∃ f r, cf_lp k f (cf_st0 S (cf_cn (S 0 2) a0 - 1) k) 0 = some r
      ∧ (cf_frt r.1 k true = 0 → ∀ hi2 hl2, cf_fS hi hi2 → cf_fPl hl hl2 → hi2 90 48 = nI k → cf_RM r.1 hi2 hl2 → RI (nI r.2) hi2 hl2 v)
      ∧ (¬ cf_frt r.1 k true = 0 → ∀ hi2 hl2, cf_fS hi hi2 → cf_fPl hl hl2 → hi2 90 48 = nI ls → cf_RM S hi2 hl2 → RI (-3) hi2 hl2 v)) :
    rx_CI L t 199 [.ref 90, .int a0, .int a1] hi hl v RI := by
  obtain ⟨V, H, M, K, N⟩ := Z
  have h6 := V.2.2.1
  refine w199_stop_r (c161 V M ⟨fun g => c_retI (kr (Or.inl ?_)), fun g => ?_⟩)
  · have := of_decide_eq_false (cf_B_eq g); omega
  have h0 := of_decide_eq_true (cf_B_ne g)
  obtain ⟨ex, hcl⟩ := cf_cn_x h6 h0
  generalize hcc : cf_cn (S 0 2) a0 - 1 = c at *
  subst ex
  obtain ⟨hkd, _, _, h400, _, _, _, v8, _⟩ := V.2.2.2.2.2.2.1 c hcl
  have hC := M.2.2.2.2.2.1 c hcl
  refine ⟨c, rfl, by omega, fun g => c_retI (kr (Or.inr (Or.inl ?_))), fun g => ⟨c, rfl, by omega, fun g2 => ⟨fun g3 => c_retI (kr (Or.inr (Or.inr (Or.inr ?_)))), fun g3 => ⟨fun g4 => ?_, fun g4 => c_retI (kr (Or.inr (Or.inr (Or.inr ?_))))⟩⟩, fun g2 => c_retI (kr (Or.inr (Or.inr (Or.inl ?_))))⟩⟩
  · rw [hC.1, show (3 : Int32) = nI 3 from rfl, nI_eq (by omega) (by decide)] at g; exact g
  · rw [hls, cf_lt, nI_toInt (by omega)] at g3; omega
  · rw [hC.1, show (3 : Int32) = nI 3 from rfl, nI_eq (by omega) (by decide)] at g
    rw [hC.2.2.2.2.2.1, show (0 : Int32) = nI 0 from rfl, nI_eq (by omega) (by decide)] at g2
    rw [hls, cf_lt, nI_toInt (by omega)] at g3
    rw [show (400 : Int32) = nI 400 from rfl, cf_le', nI_toInt (by decide)] at g4
    obtain ⟨ek, hkb⟩ := cf_x (x := a1) (by omega)
    generalize hkk : a1.toInt.toNat = k at *
    obtain ⟨J, f, r, hr, kA, kB⟩ := kg (by omega) g g2 k ek (by omega) (by omega)
    subst ek
    have hk4 : k ≤ 400 := by omega
    refine c200f V M (fun hi1 F1 Kr1 Kw1 => ?_)
    have M1 : cf_M S hi1 := cf_M_ext M (fun a b q1 q2 q3 => F1 a b (by omega))
    have K1 : cf_ck hi1 := by
      obtain ⟨nl, e1, e2⟩ := K.2
      exact ⟨(F1 90 35 (by omega)).trans K.1, nl, (F1 90 36 (by omega)).trans e1, e2⟩
    refine c191w V H M1 K1 (fun hi2 hl2 F2 Fl2 M2 K2 N2 => ⟨c, rfl, by omega, c, rfl, by omega, ?_⟩)
    have e94 : (rx_u hi2 100 c 1) 94 c = nI (S 4 c) := by rw [cf_ru_ne (by omega)]; exact (M2.2.2.2.2.2.1 c hcl).2.1
    rw [e94, nI_leI (by omega) (by omega)]
    -- behind the cut
    have rest : ∀ m, m = min (S 4 c) k → rx_CV L t 191 [.ref 90] (rx_u (rx_u hi2 100 c 1) 94 c (nI m)) hl2 v (fun hi15 hl15 v15 => rx_CI L t 201 [.ref 90, .int (nI k), .int 0] hi15 hl15 v15 (fun z16 hi16 hl16 v16 => rx_aw 199 97 [.ref 90, .int (nI c), .int (nI k), .int 0, .int z16] [] (rx_hp L t hi16 hl16 v16) (fun r h2 => ∃ z : Int32, r = some (.int z) ∧ rx_ok2 L t h2 (RI z)))) := by
      intro m hm
      have hml : m ≤ S 4 c := by omega
      have Ms : cf_M (cf_st0 S c k) (rx_u (rx_u hi2 100 c 1) 94 c (nI m)) := by
        unfold cf_st0
        rw [← hm, ← cf_cut_fte]
        refine cf_M_cut (cf_M_fte M2 c 1) ?_
        unfold cf_fte; rw [if_neg (by omega)]; exact hml
      have Hs : cf_H0 (cf_st0 S c k) := by
        refine cf_H0_sam (cf_r78_sam (cf_r78_fte _ _ _)) ?_
        intro o s ho hs e
        rw [cf_cut_r (by omega)] at ho hs e
        rw [cf_cut_r (by omega), cf_cut_r (by omega)]
        exact H o s ho hs e
      have Ks : cf_ck (rx_u (rx_u hi2 100 c 1) 94 c (nI m)) := by
        obtain ⟨nl, e1, e2⟩ := K2.2
        exact ⟨by rw [cf_ru_ne (by omega), cf_ru_ne (by omega)]; exact K2.1, nl, by rw [cf_ru_ne (by omega), cf_ru_ne (by omega)]; exact e1, e2⟩
      refine c191w J.1 Hs Ms Ks (fun hi3 hl3 F3 Fl3 M3 K3 N3 => ?_)
      have R3 : cf_RM (cf_st0 S c k) hi3 hl3 := ⟨J.1, Hs, M3, K3, N3⟩
      refine c201 (g := false) R3 J.2.1 hk4 ?_
      have FS3 : cf_fS hi hi3 := cf_fS_t (fun a b q1 q2 q3 q4 q5 q6 q7 => F1 a b (by omega)) (cf_fS_t (cf_fS_w F2) (cf_fS_t (fun a b q1 q2 q3 q4 q5 q6 q7 => by rw [cf_ru_ne (by omega), cf_ru_ne (by omega)]) (cf_fS_w F3)))
      have FL3 : cf_fPl hl hl3 := cf_fPl_t (cf_fPl_w Fl2) (cf_fPl_w Fl3)
      have f12 : ∀ a b, (121 ≤ a ∧ a ≤ 124) → hi3 a b = hi1 a b := fun a b q => by
        rw [F3 a b (by omega) (by omega) (by omega), cf_ru_ne (by omega), cf_ru_ne (by omega)]
        exact F2 a b (by omega) (by omega) (by omega)
      have e48 : hi3 90 48 = nI ls := by
        rw [F3 90 48 (by omega) (by omega) (by omega), cf_ru_ne (by omega), cf_ru_ne (by omega), F2 90 48 (by omega) (by omega) (by omega), F1 90 48 (by omega)]; exact hls
      refine g199 V H f _ 0 hi3 hl3 J R3 hr (fun a b q1 q2 q3 => ?_) (fun c' q1 q2 => ?_) (fun c' hc' u hu hlt => by rw [f12 _ _ (by omega)]; exact Kw1 c' hc' u hu hlt) (fun q hi5 hl5 F5 Fl5 => kA q hi5 hl5 (cf_fS_t FS3 F5) (cf_fPl_t FL3 Fl5)) (fun q hi5 hl5 F5 Fl5 e5 => kB q hi5 hl5 (cf_fS_t FS3 F5) (cf_fPl_t FL3 Fl5) (e5.trans e48))
      · unfold cf_st0 cf_fte
        rw [if_neg (fun w => q2 w.1), cf_cut_r (fun w => q1 w.1)]
      · rw [f12 _ _ (by omega), f12 _ _ (by omega), f12 _ _ (by omega)]; exact Kr1 c' q1 q2
    refine ⟨fun q => ⟨c, rfl, by omega, c, rfl, by omega, ?_⟩, fun q => ⟨c, rfl, by omega, rest k (by omega)⟩⟩
    rw [e94]; exact rest (S 4 c) (by omega)
  · rw [show (400 : Int32) = nI 400 from rfl, cf_le', nI_toInt (by decide)] at g4; omega
  · rw [hC.2.2.2.2.2.1, show (0 : Int32) = nI 0 from rfl, nI_eq (by omega) (by decide)] at g2; exact g2
end RXE
