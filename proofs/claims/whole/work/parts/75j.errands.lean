/-! errand: the class, the reference, both. -/
section RXE
variable {L : Nat} {t : List (Nat × Nat)} {hi : Nat → Nat → Int32} {hl : Nat → Nat → Int64} {v : Nat → Nat → Option Nat}
variable {RI : Int32 → (Nat → Nat → Int32) → (Nat → Nat → Int64) → (Nat → Nat → Option Nat) → Prop}
theorem c60 {S : cf_S} (V : cf_V S) (C : cf_C S hi) (G1 : ∀ q, q < 64 → hi 8 q = nI (S 1 q)) {c q s : Nat} (hc : c < S 0 2) (hq : q < 64) (hs : s < S 0 3) (k0 : ¬ cf_mbr S c q s → RI 0 hi hl v) (k1 : cf_mbr S c q s → RI 1 hi hl v) : rx_CI L t 60 [.ref 1, .ref (rx_ct c), .int (nI q), .int (nI s)] hi hl v RI := by
  have h6 := V.2.2.1
  have h12 := V.2.2.2.1
  have hC := C.2.2.1 c hc
  obtain ⟨v3, v9, vl, _⟩ := V.2.2.2.2.2.2.1 c hc
  have v1 := V.2.2.2.2.1 q
  have lp : (S 3 c = 1 ∧ S 1 q = 2 ∧ (S 9 c / 256 = 0 ∨ S 9 c / 256 = s + 1)) → ∀ d i, i + d = S 0 2 → cf_any (cf_bo S c s) i = false → rx_aw 60 48 [.ref 1, .ref (rx_ct c), .int (nI q), .int (nI s), .int (oI (S 9 c / 256)), .int (nI i), rx_no] [] (rx_hp L t hi hl v) (fun r h2 => ∃ z : Int32, r = some (.int z) ∧ rx_ok2 L t h2 (RI z)) := by
    intro hg d
    induction d with
    | zero =>
      intro i hid hb
      have : i = S 0 2 := by omega
      subst this
      refine w60_mayBring_48 (by omega) ⟨fun g => c_retI (k1 ⟨hg.1, hg.2.1, hg.2.2, hb⟩), fun g => absurd ?_ g⟩
      rw [C.1, cf_nle (by omega) (by omega)]; omega
    | succ d ih =>
      intro i hid hb
      have hi0 : i < S 0 2 := by omega
      have hCi := C.2.2.1 i hi0
      obtain ⟨_, _, vli, _, _, v6, _⟩ := V.2.2.2.2.2.2.1 i hi0
      have bad : cf_bo S c s i = true → ¬ cf_mbr S c q s := fun z w => by
        have := w.2.2.2
        rw [cf_not_true] at this
        exact this (cf_any_true hi0 z)
      have nx : cf_bo S c s i = false → rx_aw 60 48 [.ref 1, .ref (rx_ct c), .int (nI q), .int (nI s), .int (oI (S 9 c / 256)), .int (nI i + 1), rx_no] [] (rx_hp L t hi hl v) (fun r h2 => ∃ z : Int32, r = some (.int z) ∧ rx_ok2 L t h2 (RI z)) := fun z => by
        rw [show nI i + 1 = nI (i + 1) from nI_add i 1]
        exact ih (i + 1) (by omega) (by rw [cf_any, hb, z]; rfl)
      refine w60_mayBring_48 (by omega) ⟨fun g => ?_, fun g => ⟨i, rfl, by omega, fun g2 => nx ?_, fun g2 => ⟨fun g3 => c_retI (k0 (bad ?_)), fun g3 => ?_⟩⟩⟩
      · rw [C.1, cf_nle (by omega) (by omega)] at g; omega
      all_goals rw [cf_ct_inj] at g2
      · unfold cf_bo; rw [decide_eq_true g2]; rfl
      all_goals rw [hCi.2.2.2.2.1, cf_oneq (by omega) (by omega)] at g3
      · unfold cf_bo; rw [decide_eq_false g2, decide_eq_true g3]; rfl
      · rw [hCi.2.1]
        refine c48 (by omega) ⟨fun g4 => c_retI (k0 (bad ?_)), fun g4 => nx ?_⟩
        all_goals rw [cf_oneq (by omega) (by omega)] at g4
        · unfold cf_bo; rw [decide_eq_false g2, decide_eq_true g4, Bool.or_true]; rfl
        · unfold cf_bo; rw [decide_eq_false g2, decide_eq_false g3, decide_eq_false g4]; rfl
  refine w60_mayBring (by omega) ⟨fun g => ⟨q, rfl, hq, fun g2 => ?_, fun g2 => c_retI (k0 (fun z => g2 ?_))⟩, fun g => c_retI (k0 (fun z => g ?_))⟩
  · rw [hC.1, show (1 : Int32) = nI 1 from rfl, nI_eq (by omega) (by omega)] at g
    rw [G1 q hq, show (2 : Int32) = nI 2 from rfl, nI_eq (by omega) (by omega)] at g2
    rw [hC.2.1]
    refine c48 (by omega) ⟨fun g3 => lp ⟨g, g2, Or.inl ?_⟩ (S 0 2) 0 (by omega) rfl, fun g3 => ⟨fun g4 => lp ⟨g, g2, Or.inr ?_⟩ (S 0 2) 0 (by omega) rfl, fun g4 => c_retI (k0 (fun z => ?_))⟩⟩
    · rw [cf_oneg (by omega)] at g3; exact g3
    · rw [cf_oneq (by omega) (by omega)] at g4; exact g4
    · rw [cf_oneg (by omega)] at g3
      rw [cf_oneq (by omega) (by omega)] at g4
      rcases z.2.2.1 with w | w
      · exact g3 w
      · exact g4 w
  · rw [G1 q hq, z.2.1]; rfl
  · rw [hC.1, z.1]; rfl
theorem cf_XR_ge {S : cf_S} (X : cf_XR S hi hl) {c q f : Nat} (hc : c < S 0 2) (hq : q + 1 ≤ S 0 0 * S 0 1) (hf : f ≤ S 0 3) : cf_XR (cf_ge S c (q + 1) f) (rx_u (rx_u hi (rx_ct c) 8 (nI q)) (rx_ct c) 9 (oI f)) hl := by
  have r : ∀ a b, ¬ a = 5 → ¬ a = 6 → cf_ge S c (q + 1) f a b = S a b := fun a b h h2 => cf_ge_r (fun z => h z.1) (fun z => h2 z.1)
  have u : ∀ a b, ¬ (a = rx_ct c ∧ (b = 8 ∨ b = 9)) → rx_u (rx_u hi (rx_ct c) 8 (nI q)) (rx_ct c) 9 (oI f) a b = hi a b := fun a b h => by rw [cf_ru_ne (by omega), cf_ru_ne (by omega)]
  have V' := cf_V_ge X.1.1 (c := c) (q := q + 1) (f := f) hq hf
  obtain ⟨⟨V, K1, K2, K3, C, G1, G2, B⟩, R⟩ := X
  have h6 := V.2.2.1
  have h12 := V.2.2.2.1
  refine ⟨?_, ?_⟩
  · unfold cf_X
    rw [r 0 0 (by omega) (by omega), r 0 1 (by omega) (by omega)]
    refine ⟨V', ?_, cf_K2_eq K2 (fun b => u _ _ (by unfold rx_ct; omega)) (fun _ => rfl) (fun _ => rfl), K3, ⟨?_, ?_, fun o ho => ?_, fun s hs => ?_⟩, fun p hp => ?_, fun p hp => ?_, ?_⟩
    · obtain ⟨b1, b2, b3, b4, b5, b6⟩ := K1
      exact ⟨b1, b2, b3, b4, (u _ _ (by unfold rx_ct; omega)).trans b5, (u _ _ (by unfold rx_ct; omega)).trans b6⟩
    · rw [u _ _ (by unfold rx_ct; omega), r 0 2 (by omega) (by omega)]; exact C.1
    · rw [u _ _ (by unfold rx_ct; omega), r 0 3 (by omega) (by omega)]; exact C.2.1
    · rw [r 0 2 (by omega) (by omega)] at ho
      obtain ⟨d1, d2, d3, d4, d5, d6, d7, d8⟩ := C.2.2.1 o ho
      rw [r 3 _ (by omega) (by omega), r 9 _ (by omega) (by omega), r 4 _ (by omega) (by omega), r 7 _ (by omega) (by omega), r 8 _ (by omega) (by omega)]
      refine ⟨(u _ _ (by omega)).trans d1, (u _ _ (by omega)).trans d2, (u _ _ (by omega)).trans d3, ?_, ?_, (u _ _ (by omega)).trans d6, (u _ _ (by omega)).trans d7, fun j hj => ?_⟩
      · by_cases e : o = c
        · subst e; rw [cf_ge_5, cf_ru_ne (by omega), cf_ru_eq, cf_oS]
        · rw [cf_ge_r (by omega) (by omega), u _ _ (by unfold rx_ct; omega)]; exact d4
      · by_cases e : o = c
        · subst e; rw [cf_ge_6]; exact cf_ru_eq
        · rw [cf_ge_r (by omega) (by omega), u _ _ (by unfold rx_ct; omega)]; exact d5
      · rw [u _ _ (by unfold rx_ct; omega), r _ _ (by omega) (by omega)]; exact d8 j hj
    · rw [r _ _ (by omega) (by omega)] at hs
      rw [u _ _ (by unfold rx_ct rx_sf; omega), r _ _ (by omega) (by omega)]; exact C.2.2.2 s hs
    · rw [u _ _ (by unfold rx_ct; omega), r _ _ (by omega) (by omega)]; exact G1 p hp
    · rw [u _ _ (by unfold rx_ct; omega), r _ _ (by omega) (by omega)]; exact G2 p hp
    · rw [B]; exact (cf_bar_eq (r 0 0 (by omega) (by omega)) (r 0 1 (by omega) (by omega)) (funext fun b => r 1 b (by omega) (by omega)) (funext fun b => r 2 b (by omega) (by omega))).symm
  · refine cf_R_sam cf_ge_sam ?_
    obtain ⟨R1, R2, R3⟩ := R
    refine ⟨R1.imp (fun z => (u _ _ (by unfold rx_ct; omega)).trans z) (fun z => ⟨z.1, z.2.1, (u _ _ (by unfold rx_ct; omega)).trans z.2.2⟩), fun o ho => ⟨fun t ht => ?_, ?_⟩, fun s hs t ht => ?_⟩
    · rw [u _ _ (by unfold rx_ct; omega)]; exact (R2 o ho).1 t ht
    · rw [u _ _ (by omega)]; exact (R2 o ho).2
    · rw [u _ _ (by unfold rx_ct rx_sf; omega)]; exact R3 s hs t ht
theorem c58 {S : cf_S} {ls : Nat} (A : cf_A S ls hi hl) {a0 a1 a2 a3 : Int32} (kr : cf_erz S (cf_cn (S 0 2) a0) (cf_num (S 0 0) (S 0 1) a1 a2) a3 → RI (-2) hi hl v) (kg : ¬ cf_erz S (cf_cn (S 0 2) a0) (cf_num (S 0 0) (S 0 1) a1 a2) a3 → ∀ f, a3 = oI f → f ≤ S 0 3 → ∀ hi2, (∀ a b, (a < 13 ∨ 76 ≤ a) → hi2 a b = hi a b) → cf_A (cf_ge S (cf_cn (S 0 2) a0 - 1) (cf_num (S 0 0) (S 0 1) a1 a2) f) ls hi2 hl → RI 1 hi2 hl v) : rx_CI L t 58 [.ref 1, .int a0, .int a1, .int a2, .int a3] hi hl v RI := by
  have X := A.1
  have V := X.1.1
  have K1 := X.1.2.1
  have C := X.1.2.2.2.2.1
  have hb := X.1.2.2.2.2.2.2.2
  have hwh := cf_V_wh V
  have h6 := V.2.2.1
  have h12 := V.2.2.2.1
  have hn := cf_num_le V (a0 := a1) (a1 := a2)
  have hlt : ∀ q, cf_num (S 0 0) (S 0 1) a1 a2 = q + 1 → q < S 0 0 * S 0 1 := fun q e => cf_num_lt V e
  have h0 : ((0 : Int32)).toInt = 0 := rfl
  have hm1 : ((-1 : Int32)).toInt = -1 := rfl
  refine w58_errand (c59 V C ?_)
  by_cases hc0 : cf_cn (S 0 2) a0 = 0
  · rw [if_pos hc0]
    exact Or.inl ⟨rfl, c26 K1 (c_retI (kr (Or.inl hc0)))⟩
  rw [if_neg hc0]
  obtain ⟨_, hcl⟩ := cf_cn_x (x := a0) h6 (by omega)
  refine Or.inr ⟨_, by omega, rfl, c26 K1 ?_⟩
  generalize cf_num (S 0 0) (S 0 1) a1 a2 = n at *
  unfold cf_erz at kr kg
  generalize hcc : cf_cn (S 0 2) a0 - 1 = c at *
  have hC := C.2.2.1 c hcl
  obtain ⟨v3, _, _, _, v5, _, _, v8, _⟩ := V.2.2.2.2.2.2.1 c hcl
  refine ⟨fun g => c_retI (kr ?_), fun g => ⟨fun g2 => c_retI (kr ?_), fun g2 => ⟨fun g3 => ⟨fun g4 => c_retI (kr ?_), fun g4 => ?_⟩, fun g3 => c_retI (kr ?_)⟩⟩⟩
  · rw [hC.1, show (3 : Int32) = nI 3 from rfl, nI_eq (by omega) (by omega)] at g; exact Or.inr (Or.inl g)
  · rw [hC.2.2.2.1, cf_ole (by omega)] at g2; exact Or.inr (Or.inr (Or.inl (by omega)))
  · rw [cf_oneg (by omega)] at g4; exact Or.inr (Or.inr (Or.inr (Or.inr (Or.inl g4))))
  · rw [hC.1, show (3 : Int32) = nI 3 from rfl, nI_eq (by omega) (by omega)] at g
    rw [hC.2.2.2.1, cf_ole (by omega)] at g2
    rw [hC.2.2.2.2.2.1, show (0 : Int32) = nI 0 from rfl, nI_eq (by omega) (by omega)] at g3
    rw [cf_oneg (by omega)] at g4
    have en : n = n - 1 + 1 := by omega
    have hq := hlt (n - 1) en
    generalize n - 1 = q at *
    subst en
    rw [cf_oS]
    refine c9 (by omega) ⟨fun g5 => ⟨fun g6 => c_retI (kr ?_), fun g6 => ⟨fun g7 => ?_, fun g7 => c_retI (kr ?_)⟩⟩, fun g5 => c_retI (kr ?_)⟩
    all_goals rw [cf_cmp0, hb, cf_ab (by omega), cf_has_bar V hq] at g5
    · rw [cf_lt, hm1] at g6; exact Or.inr (Or.inr (Or.inr (Or.inr (Or.inr (Or.inr (Or.inl (by omega)))))))
    · rw [cf_lt, hm1] at g6
      rw [C.2.1, cf_lt, nI_toInt (by omega)] at g7
      -- it is given
      have fin : ∀ f, a3 = oI f → f ≤ S 0 3 → (0 ≤ a3.toInt → cf_mbr S c q a3.toInt.toNat) → RI 1 (rx_u (rx_u hi (rx_ct c) 8 (nI q)) (rx_ct c) 9 a3) hl v := by
        intro f ef hf hmb
        refine kg ?_ f ef hf _ (fun a b z => ?_) ⟨?_, fun o ho j hj => ?_, ?_⟩
        · rintro (z | z | z | z | z | z | z | z)
          · exact hc0 z
          · exact g z
          · omega
          · exact z g3
          · omega
          · rw [g5] at z; cases z
          · exact z ⟨by omega, g7⟩
          · exact z.2 (hmb z.1)
        · rw [cf_ru_ne (by unfold rx_ct; omega), cf_ru_ne (by unfold rx_ct; omega)]
        · rw [ef]; exact cf_XR_ge X hcl (by omega) hf
        · rw [cf_ru_ne (by unfold rx_ct; omega), cf_ru_ne (by unfold rx_ct; omega), cf_ru_ne (by unfold rx_ct; omega), cf_ru_ne (by unfold rx_ct; omega)]
          exact A.2.1 o ho j hj
        · rw [cf_ru_ne (by unfold rx_ct; omega), cf_ru_ne (by unfold rx_ct; omega)]; exact A.2.2
      refine ⟨fun g8 => c_retI (fin 0 ?_ (by omega) (fun z => ?_)), fun g8 => ?_⟩
      · rw [cf_lt] at g8
        rw [cf_o0, cf_eqI, hm1]; omega
      · rw [cf_lt] at g8; omega
      · rw [cf_lt] at g8
        obtain ⟨es, _⟩ := cf_x (x := a3) (by omega)
        have hs : a3.toInt.toNat < S 0 3 := by omega
        generalize hss : a3.toInt.toNat = s at *
        subst es
        refine c60 V C X.1.2.2.2.2.2.1 hcl (by omega) hs (fun z => ⟨fun _ => c_retI (kr ?_), fun w => absurd rfl w⟩) (fun z => ⟨fun w => absurd w (by decide), fun _ => c_retI (fin (s + 1) (cf_oS s).symm (by omega) (fun _ => z))⟩)
        exact Or.inr (Or.inr (Or.inr (Or.inr (Or.inr (Or.inr (Or.inr ⟨by omega, z⟩))))))
    · rw [C.2.1, cf_lt, nI_toInt (by omega)] at g7; exact Or.inr (Or.inr (Or.inr (Or.inr (Or.inr (Or.inr (Or.inl (by omega)))))))
    · rw [cf_not_true] at g5
      exact Or.inr (Or.inr (Or.inr (Or.inr (Or.inr (Or.inl (Classical.not_not.mp g5))))))
  · rw [hC.2.2.2.2.2.1, show (0 : Int32) = nI 0 from rfl, nI_eq (by omega) (by omega)] at g3
    exact Or.inr (Or.inr (Or.inr (Or.inl g3)))
theorem cf_M_ge {S : cf_S} (M : cf_M S hi) {c q f : Nat} : cf_M (cf_ge S c (q + 1) f) (rx_u (rx_u (rx_u hi 96 c 1) 97 c (nI q)) 98 c (oI f)) := by
  have r : ∀ a b, ¬ a = 5 → ¬ a = 6 → cf_ge S c (q + 1) f a b = S a b := fun a b h h2 => cf_ge_r (fun z => h z.1) (fun z => h2 z.1)
  have u : ∀ a b, ¬ (b = c ∧ 96 ≤ a ∧ a ≤ 98) → rx_u (rx_u (rx_u hi 96 c 1) 97 c (nI q)) 98 c (oI f) a b = hi a b := fun a b h => by rw [cf_ru_ne (by omega), cf_ru_ne (by omega), cf_ru_ne (by omega)]
  obtain ⟨⟨a1, a2, a3, a4, a5, a6, a7⟩, b, d, e, g, h, k⟩ := M
  unfold cf_M
  rw [r 0 0 (by omega) (by omega), r 0 1 (by omega) (by omega), r 0 2 (by omega) (by omega), r 0 3 (by omega) (by omega)]
  refine ⟨⟨a1, a2, a3, a4, (u _ _ (by omega)).trans a5, (u _ _ (by omega)).trans a6, (u _ _ (by omega)).trans a7⟩, (u _ _ (by omega)).trans b, (u _ _ (by omega)).trans d, fun p hp => ?_, fun p hp => ?_, fun i hi0 => ?_, fun s hs => ?_⟩
  · rw [u _ _ (by omega), r _ _ (by omega) (by omega)]; exact e p hp
  · rw [u _ _ (by omega), r _ _ (by omega) (by omega)]; exact g p hp
  · obtain ⟨f1, f2, f3, f4, f5, f6, f7, f8, f9, f10⟩ := h i hi0
    rw [r 3 _ (by omega) (by omega), r 9 _ (by omega) (by omega), r 4 _ (by omega) (by omega), r 7 _ (by omega) (by omega), r 8 _ (by omega) (by omega)]
    refine ⟨(u _ _ (by omega)).trans f1, (u _ _ (by omega)).trans f2, ?_, ?_, (u _ _ (by omega)).trans f5, (u _ _ (by omega)).trans f6, fun j hj => by rw [u _ _ (by omega), r _ _ (by omega) (by omega)]; exact f7 j hj, (u _ _ (by omega)).trans f8, (u _ _ (by omega)).trans f9, (u _ _ (by omega)).trans f10⟩
    · by_cases z : i = c
      · subst z; rw [cf_ge_5, cf_ru_ne (by omega), cf_ru_ne (by omega), cf_ru_eq, decide_eq_true (by omega)]; rfl
      · rw [cf_ge_r (by omega) (by omega), u _ _ (by omega)]; exact f3
    · by_cases z : i = c
      · subst z
        rw [cf_ge_5, cf_ge_6]
        intro _
        exact ⟨by rw [cf_ru_ne (by omega), cf_ru_eq]; rfl, cf_ru_eq⟩
      · rw [cf_ge_r (a := 5) (by omega) (by omega), cf_ge_r (a := 6) (by omega) (by omega), u _ _ (by omega), u _ _ (by omega)]; exact f4
  · rw [u _ _ (by omega), r _ _ (by omega) (by omega)]; exact k s hs
theorem cf_Ba1 (b : Bool) : cf_B b &&& (1 : Int32) = cf_B b := by cases b <;> decide
theorem cf_Ba0 (b : Bool) : cf_B b &&& (0 : Int32) = cf_B false := by cases b <;> decide
theorem c211 {S : cf_S} (Z : cf_RM S hi hl) (E4 : ∀ c, c < S 0 2 → ¬ S 6 c = 0 → ¬ S 5 c = 0) {a0 a1 a2 a3 : Int32} (kr : cf_erz S (cf_cn (S 0 2) a0) (cf_num (S 0 0) (S 0 1) a1 a2) a3 → RI (-2) hi hl v) (kg : ¬ cf_erz S (cf_cn (S 0 2) a0) (cf_num (S 0 0) (S 0 1) a1 a2) a3 → ∀ f, a3 = oI f → f ≤ S 0 3 → ∀ hi2, (∀ a b, ¬ (96 ≤ a ∧ a ≤ 98) → hi2 a b = hi a b) → cf_RM (cf_ge S (cf_cn (S 0 2) a0 - 1) (cf_num (S 0 0) (S 0 1) a1 a2) f) hi2 hl → RI 1 hi2 hl v) : rx_CI L t 211 [.ref 90, .int a0, .int a1, .int a2, .int a3] hi hl v RI := by
  obtain ⟨V, H, M, K, N⟩ := Z
  have hwh := cf_V_wh V
  have h6 := V.2.2.1
  have h12 := V.2.2.2.1
  have hlt : ∀ q, cf_num (S 0 0) (S 0 1) a1 a2 = q + 1 → q < S 0 0 * S 0 1 := fun q e => cf_num_lt V e
  have h0 : ((0 : Int32)).toInt = 0 := rfl
  have hm1 : ((-1 : Int32)).toInt = -1 := rfl
  refine w211_errand_r (c161 V M ⟨fun g => c_retI (kr (Or.inl ?_)), fun g => ?_⟩)
  · have := of_decide_eq_false (cf_B_eq g); omega
  have hc0 := of_decide_eq_true (cf_B_ne g)
  obtain ⟨ex, hcl⟩ := cf_cn_x (x := a0) h6 (by omega)
  unfold cf_erz at kr kg
  generalize hcc : cf_cn (S 0 2) a0 - 1 = c at *
  have hM := M.2.2.2.2.2.1 c hcl
  obtain ⟨v3, _, vl, _, v5, _, _, v8, _⟩ := V.2.2.2.2.2.2.1 c hcl
  have h6c : c < 6 := by omega
  have hc0' : ¬ cf_cn (S 0 2) a0 = 0 := by omega
  generalize cf_cn (S 0 2) a0 = cc at *
  subst ex
  refine ⟨c, rfl, h6c, fun g => c_retI (kr ?_), fun g => ⟨c, rfl, h6c, fun g2 => ⟨c, rfl, h6c, fun g3 => c182 M.1 ⟨fun g4 => c_retI (kr ?_), fun g4 => ?_⟩, fun g3 => c_retI (kr ?_)⟩, fun g2 => c_retI (kr ?_)⟩⟩
  · rw [hM.1, show (3 : Int32) = nI 3 from rfl, nI_eq (by omega) (by omega)] at g; exact Or.inr (Or.inl g)
  · have := of_decide_eq_false (cf_B_eq g4)
    refine Or.inr (Or.inr (Or.inr (Or.inr (Or.inl ?_))))
    unfold cf_num; rw [if_neg this]
  · rw [hM.1, show (3 : Int32) = nI 3 from rfl, nI_eq (by omega) (by omega)] at g
    rw [hM.2.2.1] at g2
    have h5 : S 5 c = 0 := by have := of_decide_eq_false (cf_B_eq g2); omega
    rw [hM.2.2.2.2.2.1, show (0 : Int32) = nI 0 from rfl, nI_eq (by omega) (by omega)] at g3
    have hsq := of_decide_eq_true (cf_B_ne g4)
    obtain ⟨ex, _⟩ := cf_x (x := a1) (by omega)
    obtain ⟨ey, _⟩ := cf_x (x := a2) (by omega)
    have en : cf_num (S 0 0) (S 0 1) a1 a2 = a2.toInt.toNat * S 0 0 + a1.toInt.toNat + 1 := by unfold cf_num; rw [if_pos hsq]
    have ix : a2 * hi 90 0 + a1 = nI (a2.toInt.toNat * S 0 0 + a1.toInt.toNat) := by
      rw [M.1.2.2.2.2.1, ← nI_add, ← cf_nmul, ← ex, ← ey]
    rw [ix]
    generalize cf_num (S 0 0) (S 0 1) a1 a2 = n at *
    generalize a2.toInt.toNat * S 0 0 + a1.toInt.toNat = q at *
    subst en
    have hq := hlt q rfl
    have hq1 : q + 1 - 1 = q := rfl
    rw [hq1] at kr kg
    have v1 := V.2.2.2.2.1 q
    -- it is given
    have fin : cf_isb S q = false → -1 ≤ a3.toInt → a3.toInt < S 0 3 → ∀ f, a3 = oI f → f ≤ S 0 3 → (0 ≤ a3.toInt → cf_mbr S c q a3.toInt.toNat) → RI 1 (rx_u (rx_u (rx_u hi 96 c (vp_nar .boolean 1)) 97 c (nI q)) 98 c a3) hl v := by
      intro b5 g6 g7 f ef hf hmb
      refine kg ?_ f ef hf _ (fun a b z => ?_) ⟨cf_V_ge V (by omega) hf, cf_H0_sam cf_ge_sam H, ?_, ?_, cf_NW_sam cf_ge_sam ?_⟩
      · rintro (z | z | z | z | z | z | z | z)
        · exact hc0' z
        · exact g z
        · exact z h5
        · exact z g3
        · omega
        · rw [b5] at z; cases z
        · exact z ⟨g6, g7⟩
        · exact z.2 (hmb z.1)
      · rw [cf_ru_ne (by omega), cf_ru_ne (by omega), cf_ru_ne (by omega)]
      · rw [ef]; exact cf_M_ge M
      · exact cf_ck_ext K (by rw [cf_ru_ne (by omega), cf_ru_ne (by omega), cf_ru_ne (by omega)]) (by rw [cf_ru_ne (by omega), cf_ru_ne (by omega), cf_ru_ne (by omega)])
      · have u : ∀ a b, ¬ (96 ≤ a ∧ a ≤ 98) → rx_u (rx_u (rx_u hi 96 c (vp_nar .boolean 1)) 97 c (nI q)) 98 c a3 a b = hi a b := fun a b h => by rw [cf_ru_ne (by omega), cf_ru_ne (by omega), cf_ru_ne (by omega)]
        obtain ⟨N1, N2⟩ := N
        refine ⟨fun o ho => ⟨fun t ht => ?_, fun t ht => ?_⟩, fun s hs t ht => ?_⟩
        · rw [u _ _ (by omega), u _ _ (by omega), u _ _ (by omega)]; exact (N1 o ho).1 t ht
        · rw [u _ _ (by omega)]; exact (N1 o ho).2 t ht
        · rw [u _ _ (by omega)]; exact N2 s hs t ht
    refine c168 V M hq ⟨fun g5 => ⟨fun g6 => c_retI (kr ?_), fun g6 => ⟨fun g7 => ?_, fun g7 => c_retI (kr ?_)⟩⟩, fun g5 => c_retI (kr ?_)⟩
    · rw [cf_lt, hm1] at g6; exact Or.inr (Or.inr (Or.inr (Or.inr (Or.inr (Or.inr (Or.inl (by omega)))))))
    · have b5 := cf_B_eq g5
      rw [cf_lt, hm1] at g6
      rw [M.2.2.1, cf_lt, nI_toInt (by omega)] at g7
      refine ⟨fun g8 => ?_, fun g8 => ?_⟩
      · have g8' := g8
        rw [cf_lt] at g8
        have e3 : a3 = oI 0 := by rw [cf_o0, cf_eqI, hm1]; omega
        have fn := fin b5 (by omega) g7 0 e3 (by omega) (fun z => by omega)
        refine w211_errand_r_152 ⟨fun _ => ⟨fun z => absurd z (by decide), fun _ => ⟨c, rfl, h6c, c, rfl, h6c, c, rfl, h6c, ?_⟩⟩, fun _ => ⟨fun _ => ⟨fun z => absurd z (by decide), fun _ => ⟨c, rfl, h6c, c, rfl, h6c, c, rfl, h6c, ?_⟩⟩, fun z => absurd g8' z⟩⟩
        · rw [ix]; exact c_retI fn
        · rw [ix]; exact c_retI fn
      · have g8' := g8
        rw [cf_lt] at g8
        obtain ⟨es, _⟩ := cf_x (x := a3) (by omega)
        have hs : a3.toInt.toNat < S 0 3 := by omega
        generalize hss : a3.toInt.toNat = s at *
        subst es
        have fn := fun z => fin b5 (by omega) g7 (s + 1) (cf_oS s).symm (by omega) z
        have lp : ∀ b0 : Bool, (b0 = true ↔ (S 3 c = 1 ∧ S 1 q = 2 ∧ (S 9 c / 256 = 0 ∨ S 9 c / 256 = s + 1))) → ∀ d i, i + d = S 0 2 → rx_aw 211 152 [.ref 90, .int (nI c), .int a1, .int a2, .int (nI s), .int (nI q), .int (cf_B (b0 && !cf_any (cf_bo S c s) i)), .int (nI i)] [] (rx_hp L t hi hl v) (fun r h2 => ∃ z : Int32, r = some (.int z) ∧ rx_ok2 L t h2 (RI z)) := by
          intro b0 hb0 d
          induction d with
          | zero =>
            intro i hid
            have : i = S 0 2 := by omega
            subst this
            refine w211_errand_r_152 ⟨fun _ => ⟨fun z => c_retI (kr ?_), fun z => ⟨c, rfl, h6c, c, rfl, h6c, c, rfl, h6c, c_retI (fn (fun _ => ?_))⟩⟩, fun w => absurd ?_ w⟩
            · have z' := cf_B_eq z
              refine Or.inr (Or.inr (Or.inr (Or.inr (Or.inr (Or.inr (Or.inr ⟨by omega, fun w => ?_⟩))))))
              rw [hb0.mpr ⟨w.1, w.2.1, w.2.2.1⟩, w.2.2.2] at z'
              cases z'
            · have z' := cf_B_ne z
              rw [Bool.and_eq_true] at z'
              have z2 := hb0.mp z'.1
              refine ⟨z2.1, z2.2.1, z2.2.2, ?_⟩
              have z3 := z'.2
              revert z3
              cases cf_any (cf_bo S c s) (S 0 2) <;> decide
            · rw [M.2.1, cf_nle (by omega) (by omega)]; omega
          | succ d ih =>
            intro i hid
            have hi0 : i < S 0 2 := by omega
            have hMi := M.2.2.2.2.2.1 i hi0
            obtain ⟨_, _, vli, _, _, v6, _⟩ := V.2.2.2.2.2.2.1 i hi0
            have nx0 : cf_bo S c s i = true → rx_aw 211 152 [.ref 90, .int (nI c), .int a1, .int a2, .int (nI s), .int (nI q), .int (cf_B (b0 && !cf_any (cf_bo S c s) i) &&& 0), .int (nI i + 1)] [] (rx_hp L t hi hl v) (fun r h2 => ∃ z : Int32, r = some (.int z) ∧ rx_ok2 L t h2 (RI z)) := fun z => by
              have := ih (i + 1) (by omega)
              rw [cf_any, z, Bool.or_true, Bool.not_true, Bool.and_false] at this
              rw [cf_Ba0, show nI i + 1 = nI (i + 1) from nI_add i 1]; exact this
            have nx1 : cf_bo S c s i = false → rx_aw 211 152 [.ref 90, .int (nI c), .int a1, .int a2, .int (nI s), .int (nI q), .int (cf_B (b0 && !cf_any (cf_bo S c s) i) &&& 1), .int (nI i + 1)] [] (rx_hp L t hi hl v) (fun r h2 => ∃ z : Int32, r = some (.int z) ∧ rx_ok2 L t h2 (RI z)) := fun z => by
              have := ih (i + 1) (by omega)
              rw [cf_any, z, Bool.or_false] at this
              rw [cf_Ba1, show nI i + 1 = nI (i + 1) from nI_add i 1]; exact this
            have e103 : hi 103 (402 * i) = oI (S 9 i / 256) := hMi.2.2.2.2.2.2.2.2.2
            have ei : (402 : Int32) * nI i = nI (402 * i) := by rw [show (402 : Int32) = nI 402 from rfl, cf_nmul]
            refine w211_errand_r_152 ⟨fun w => ?_, fun _ => ⟨fun z => absurd z g8', fun _ => ⟨i, rfl, by omega, fun z => ⟨fun z2 => nx1 ?_, fun z2 => ⟨402 * i, ei, by omega, fun z3 => nx0 ?_, fun z3 => nx1 ?_⟩⟩, fun z => ⟨i, rfl, by omega, fun z2 => nx0 ?_, fun z2 => ⟨fun z3 => nx1 ?_, fun z3 => ⟨402 * i, ei, by omega, fun z4 => nx0 ?_, fun z4 => nx1 ?_⟩⟩⟩⟩⟩⟩
            · rw [M.2.1, cf_nle (by omega) (by omega)] at w; omega
            all_goals rw [hMi.2.2.1] at z
            · rw [nI_eq (by omega) (by omega)] at z2
              unfold cf_bo; rw [decide_eq_true z2]; rfl
            · rw [nI_eq (by omega) (by omega)] at z2
              rw [e103, cf_oneq (by omega) (by omega)] at z3
              unfold cf_bo; rw [decide_eq_false z2, decide_eq_true z3, Bool.or_true]; rfl
            · rw [nI_eq (by omega) (by omega)] at z2
              rw [e103, cf_oneq (by omega) (by omega)] at z3
              have z5 : S 5 i = 0 := by have := of_decide_eq_false (cf_B_eq z); omega
              have z6 : S 6 i = 0 := Classical.byContradiction fun w => E4 i hi0 w z5
              unfold cf_bo; rw [decide_eq_false z2, decide_eq_false (show ¬ S 6 i = s + 1 by omega), decide_eq_false z3]; rfl
            all_goals have z5 := of_decide_eq_true (cf_B_ne z)
            all_goals rw [(hMi.2.2.2.1 z5).2, cf_oneq (by omega) (by omega)] at z2
            · have hne : ¬ i = c := fun w => by subst w; omega
              unfold cf_bo; rw [decide_eq_false hne, decide_eq_true z2]; rfl
            · rw [nI_eq (by omega) (by omega)] at z3
              unfold cf_bo; rw [decide_eq_true z3]; rfl
            · rw [nI_eq (by omega) (by omega)] at z3
              rw [e103, cf_oneq (by omega) (by omega)] at z4
              unfold cf_bo; rw [decide_eq_false z3, decide_eq_true z4, Bool.or_true]; rfl
            · rw [nI_eq (by omega) (by omega)] at z3
              rw [e103, cf_oneq (by omega) (by omega)] at z4
              unfold cf_bo; rw [decide_eq_false z3, decide_eq_false z2, decide_eq_false z4]; rfl
        have st := fun b0 h => lp b0 h (S 0 2) 0 (by omega)
        have e103 : hi 103 (402 * c) = oI (S 9 c / 256) := hM.2.2.2.2.2.2.2.2.2
        have ei : (402 : Int32) * nI c = nI (402 * c) := by rw [show (402 : Int32) = nI 402 from rfl, cf_nmul]
        rw [ix]
        refine ⟨c, rfl, h6c, fun w1 => ⟨q, rfl, by omega, fun w2 => ⟨402 * c, ei, by omega, fun w3 => st true ?_, fun w3 => ⟨402 * c, ei, by omega, fun w4 => st true ?_, fun w4 => st false ?_⟩⟩, fun w2 => st false ?_⟩, fun w1 => st false ?_⟩
        all_goals rw [hM.1, show (1 : Int32) = nI 1 from rfl, nI_eq (by omega) (by omega)] at w1
        all_goals try rw [M.2.2.2.1 q (by omega), show (2 : Int32) = nI 2 from rfl, nI_eq (by omega) (by omega)] at w2
        all_goals try rw [e103, cf_oneg (by omega)] at w3
        all_goals try rw [e103, cf_oneq (by omega) (by omega)] at w4
        · exact ⟨fun _ => ⟨w1, w2, Or.inl w3⟩, fun _ => rfl⟩
        · exact ⟨fun _ => ⟨w1, w2, Or.inr w4⟩, fun _ => rfl⟩
        · refine ⟨fun z => (by cases z), fun z => ?_⟩
          rcases z.2.2 with z | z
          · exact absurd z w3
          · exact absurd z w4
        · exact ⟨fun z => (by cases z), fun z => absurd z.2.1 w2⟩
        · exact ⟨fun z => (by cases z), fun z => absurd z.1 w1⟩
    · rw [M.2.2.1, cf_lt, nI_toInt (by omega)] at g7; exact Or.inr (Or.inr (Or.inr (Or.inr (Or.inr (Or.inr (Or.inl (by omega)))))))
    · exact Or.inr (Or.inr (Or.inr (Or.inr (Or.inr (Or.inl (cf_B_ne g5))))))
  · rw [hM.2.2.2.2.2.1, show (0 : Int32) = nI 0 from rfl, nI_eq (by omega) (by omega)] at g3
    exact Or.inr (Or.inr (Or.inr (Or.inl g3)))
  · rw [hM.2.2.1] at g2
    have := of_decide_eq_true (cf_B_ne g2)
    exact Or.inr (Or.inr (Or.inl (by omega)))
end RXE
theorem cf_pr_errand {L : Nat} {t : List (Nat × Nat)} (a0 a1 a2 a3 : Int32) : cf_pr L t 58 211 [.int a0, .int a1, .int a2, .int a3] := by
  intro S ls hi hl v R
  obtain ⟨I, A, Z, E⟩ := id R
  have V := I.1
  have hwh := cf_V_wh V
  have E4 := I.2.2.2.2.2.2.2
  refine c58 A (fun q => c211 Z.1 E4 (fun _ => ⟨rfl, S, ls, R⟩) (fun q2 => absurd q q2)) (fun q f ef hf hi2 F A2 => c211 (cf_rel_Z R (fun a b z => F a b (by omega)) (fun a b z => rfl)) E4 (fun q2 => absurd q2 q) (fun _ f' ef' hf' hi3 F3 Z3 => ?_))
  have h12 := V.2.2.2.1
  rw [ef, cf_oeq (by omega) (by omega)] at ef'
  subst ef'
  refine ⟨rfl, _, ls, ?_, cf_A_ext A2 (fun a b z1 z2 => F3 a b (by omega)) (fun a b z1 z2 => rfl), ⟨Z3, ?_⟩, cf_E_S (cf_E_ext E (fun a b z => ?_) (fun _ => rfl) rfl) ?_ ?_⟩
  · have hlt : ∀ q, cf_num (S 0 0) (S 0 1) a1 a2 = q + 1 → q < S 0 0 * S 0 1 := fun q e => cf_num_lt V e
    generalize cf_num (S 0 0) (S 0 1) a1 a2 = n at *
    unfold cf_erz at q
    have n0 : ¬ n = 0 := fun z => q (Or.inr (Or.inr (Or.inr (Or.inr (Or.inl z)))))
    have hq := hlt (n - 1) (by omega)
    have cn0 : ¬ cf_cn (S 0 2) a0 = 0 := fun z => q (Or.inl z)
    have hcl := (cf_cn_x (x := a0) V.2.2.1 (by omega)).2
    generalize cf_cn (S 0 2) a0 - 1 = c at *
    refine cf_Ir_ge I hcl (fun z => q (Or.inr (Or.inl z))) (Classical.byContradiction fun z => q (Or.inr (Or.inr (Or.inl z)))) (by omega) (by omega) hf ?_
    rcases Nat.eq_zero_or_pos f with z | z
    · exact Or.inl z
    · refine Or.inr ?_
      have ea : a3 = nI (f - 1) := by rw [ef, ← cf_oS, show f - 1 + 1 = f by omega]
      have ea2 : a3.toInt = ((f - 1 : Nat) : Int) := by rw [ea, nI_toInt (by omega)]
      have mb : cf_mbr S c (n - 1) a3.toInt.toNat := Classical.byContradiction fun w => q (Or.inr (Or.inr (Or.inr (Or.inr (Or.inr (Or.inr (Or.inr ⟨by omega, w⟩)))))))
      rw [ea2, Int.toNat_natCast] at mb
      obtain ⟨m1, m2, m3, m4⟩ := mb
      refine ⟨m1, ?_, m4⟩
      rcases m3 with m3 | m3
      · exact Or.inl m3
      · exact Or.inr (by omega)
  · rw [F3 _ _ (by omega), F _ _ (by omega)]; exact Z.2
  · unfold cf_er at z
    rw [F3 _ _ (by omega), F _ _ (by omega)]
  · funext b; exact cf_ge_r (by omega) (by omega)
  · funext b; exact cf_ge_r (by omega) (by omega)
