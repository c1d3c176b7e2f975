/-! does, goesAll, plans of the reference. -/
/-- to GO as the reference does, to lift or let down as it does, its PLAN -/
def cf_go1 (S : cf_S) (c tg wt : Nat) (last : Bool) : Option cf_S :=
  if cf_fit S (cf_st S) (cf_sp S) (cf_hd S) c (S 4 c) = true ∧ cf_mta (S 0 2) (cf_sd S) (cf_hd S) c (S 4 c) = false ∧ 0 < cf_gn S (cf_st S) (cf_sp S) (cf_sd S) (cf_hd S) c (S 4 c) (cf_st S (S 4 c) c) tg wt last
  then some (cf_app S c (cf_gn S (cf_st S) (cf_sp S) (cf_sd S) (cf_hd S) c (S 4 c) (cf_st S (S 4 c) c) tg wt last - 1) (cf_gm S (cf_st S) (cf_sp S) (cf_sd S) (cf_hd S) c (S 4 c) (cf_st S (S 4 c) c) tg wt last (cf_gn S (cf_st S) (cf_sp S) (cf_sd S) (cf_hd S) c (S 4 c) (cf_st S (S 4 c) c) tg wt last - 1))) else none
def cf_dok (S : cf_S) (c m : Nat) : Bool := cf_made (cf_app S c 1 (fun _ => m)) (S 4 c) c && cf_fit (cf_app S c 1 (fun _ => m)) (cf_st (cf_app S c 1 (fun _ => m))) (cf_sp (cf_app S c 1 (fun _ => m))) (cf_hd (cf_app S c 1 (fun _ => m))) c (S 4 c + 1) && !cf_mta (S 0 2) (cf_sd (cf_app S c 1 (fun _ => m))) (cf_hd (cf_app S c 1 (fun _ => m))) c (S 4 c + 1)
def cf_do1 (S : cf_S) (c m : Nat) : Option cf_S := if S 4 c < 400 ∧ cf_dok S c m = true then some (cf_app S c 1 (fun _ => m)) else none
def cf_pl (S : cf_S) (c : Nat) : Option cf_S :=
  if S 6 c = 0 then cf_go1 S c (S 5 c - 1) 0 true
  else if cf_st S (S 4 c) c / 256 = S 6 c then (cf_go1 S c (S 5 c - 1) 0 true).bind (fun S1 => cf_do1 S1 c 6)
  else (cf_go1 S c (cf_sp S 401 (S 6 c - 1)) (S 6 c) false).bind (fun S1 => (cf_do1 S1 c 5).bind (fun S2 => (cf_go1 S2 c (S 5 c - 1) 0 true).bind (fun S3 => cf_do1 S3 c 6)))
/-- a cart has been planned -/
def cf_pd (S : cf_S) (c : Nat) : cf_S := fun a b => if a = 7 ∧ b = c then 1 else S a b
theorem cf_app_app {S : cf_S} {c n n2 : Nat} {mv mv2 : Nat → Nat} : ∃ mv3, cf_app (cf_app S c n mv) c n2 mv2 = cf_app S c (n + n2) mv3 := by
  refine ⟨fun i => cf_app (cf_app S c n mv) c n2 mv2 (20 + c) (S 4 c + i), ?_⟩
  funext a b
  by_cases h4 : a = 4
  · subst h4
    by_cases hb : b = c
    · subst hb; rw [cf_app_4, cf_app_4, cf_app_4]; omega
    · rw [cf_app_4n hb, cf_app_4n hb, cf_app_4n hb]
  · by_cases h20 : a = 20 + c
    · subst h20
      rw [cf_app_w (S := S)]
      by_cases hb : b < S 4 c
      · rw [if_pos hb, cf_app_w, cf_app_4, if_pos (by omega), cf_app_w, if_pos hb]
      · rw [if_neg hb, show S 4 c + (b - S 4 c) = b by omega]
    · rw [cf_app_r h4 h20, cf_app_r h4 h20, cf_app_r h4 h20]
section RXE
variable {L : Nat} {t : List (Nat × Nat)} {hi : Nat → Nat → Int32} {hl : Nat → Nat → Int64} {v : Nat → Nat → Option Nat}
variable {RI : Int32 → (Nat → Nat → Int32) → (Nat → Nat → Int64) → (Nat → Nat → Option Nat) → Prop}
theorem c197 {S : cf_S} (Z : cf_RM S hi hl) {c m : Nat} (hc : c < S 0 2) (hm : m < 7)
    (k0 : S 4 c = 400 → RI 0 hi hl v)
    (k1 : S 4 c < 400 → ∀ hi2 hl2, cf_fP hi hi2 → cf_fPl hl hl2 → cf_RM (cf_app S c 1 (fun _ => m)) hi2 hl2 → RI (cf_B (cf_dok S c m)) hi2 hl2 v) :
    rx_CI L t 197 [.ref 90, .int (nI c), .int (nI m)] hi hl v RI := by
  obtain ⟨V, H, M, K, N⟩ := Z
  have h6 := V.2.2.1
  have h400 := (V.2.2.2.2.2.2.1 c hc).2.2.2.1
  have hC := M.2.2.2.2.2.1 c hc
  have i400 : (400 : Int32) = nI 400 := rfl
  refine w197_does_r ⟨c, rfl, by omega, fun g => c_retI (k0 ?_), fun g => ⟨c, rfl, by omega, 400 * c + S 4 c, ?_, ?_, c, rfl, by omega, c, rfl, by omega, ?_⟩⟩
  · rw [hC.2.1, i400, nI_eq (by omega) (by omega)] at g; exact g
  · rw [hC.2.1]; exact cf_400
  · rw [hC.2.1, i400, nI_eq (by omega) (by omega)] at g; omega
  · rw [hC.2.1, i400, nI_eq (by omega) (by omega)] at g
    have hlt : S 4 c < 400 := by omega
    rw [cf_ru_ne (show ¬ (94 = 95 ∧ c = 400 * c + S 4 c) by omega), hC.2.1, nI_1]
    have FA : ∀ a b, ¬ (a = 90 ∧ (b = 33 ∨ b = 34)) → ¬ (a = 94 ∧ b = c) → ¬ (a = 95 ∧ 400 * c + S 4 c ≤ b ∧ b < 400 * (c + 1)) → ¬ a = 115 → ¬ a = 116 → (rx_u (rx_u hi 95 (400 * c + S 4 c) (nI m)) 94 c (nI (S 4 c + 1))) a b = hi a b := by
      intro a b q1 q2 q3 q4 q5
      rw [cf_ru_ne q2, cf_ru_ne (by omega)]
    have V5 := cf_V_app V (c := c) (n := 1) (mv := fun _ => m) (by omega) (fun _ _ => hm)
    have H5 := cf_H0_app H (c := c) (n := 1) (mv := fun _ => m)
    have M5 : cf_M (cf_app S c 1 (fun _ => m)) (rx_u (rx_u hi 95 (400 * c + S 4 c) (nI m)) 94 c (nI (S 4 c + 1))) :=
      cf_M_app V M hc (by omega) FA cf_ru_eq (fun i hi0 => by
        have : i = 0 := by omega
        subst this
        rw [cf_ru_ne (by omega)]; exact cf_ru_eq)
    have K5 : cf_ck (rx_u (rx_u hi 95 (400 * c + S 4 c) (nI m)) 94 c (nI (S 4 c + 1))) := by
      obtain ⟨nl, e1, e2⟩ := K.2
      exact ⟨(FA 90 35 (by omega) (by omega) (by omega) (by omega) (by omega)).trans K.1, nl, (FA 90 36 (by omega) (by omega) (by omega) (by omega) (by omega)).trans e1, e2⟩
    refine c191w V5 H5 M5 K5 (fun hi6 hl6 F6 Fl6 M6 K6 N6 => ?_)
    have hc5 : c < cf_app S c 1 (fun _ => m) 0 2 := by rw [cf_app_r (by omega) (by omega)]; exact hc
    have e02 : cf_app S c 1 (fun _ => m) 0 2 = S 0 2 := cf_app_r (by omega) (by omega)
    have W6 := cf_RW_NW V5 N6
    have fin := k1 hlt hi6 hl6 (fun a b q1 q2 q3 q4 q5 q6 => (F6 a b q1 q3 q4).trans (FA a b q1 (by omega) (by omega) q5 q6)) (fun a b q1 q2 q3 q4 => Fl6 a b q2 q3) ⟨V5, H5, M6, K6, N6⟩
    unfold cf_dok at fin
    refine ⟨402 * c + S 4 c, cf_402, by omega, ?_⟩
    rw [(N6.1 c hc5).2 (S 4 c) (by omega)]
    refine ⟨fun g => c_retI ?_, fun g => c173 V5 M6 W6 hc5 (by omega) ⟨fun g2 => c_retI ?_, fun g2 => c174 M6.2.1 W6 (by rw [e02]; exact h6) hc5 (by omega) ⟨fun g3 => c_retI ?_, fun g3 => c_retI ?_⟩⟩⟩
    · rw [cf_B_eq g, Bool.false_and, Bool.false_and] at fin; exact fin
    · rw [cf_B_eq g2, Bool.and_false, Bool.false_and] at fin; exact fin
    · rw [cf_B_ne g, cf_B_ne g2, ← e02, cf_B_eq g3] at fin; exact fin
    · rw [cf_B_ne g, cf_B_ne g2, ← e02, cf_B_ne g3] at fin; exact fin
/-- back to a shorter way -/
theorem cf_M_back {S : cf_S} {c n : Nat} {mv : Nat → Nat} (M : cf_M (cf_app S c n mv) hi) : cf_M S (rx_u hi 94 c (nI (S 4 c))) := by
  have r : ∀ x y, ¬ x = 4 → x < 20 → cf_app S c n mv x y = S x y := fun x y h1 h2 => cf_app_r h1 (by omega)
  unfold cf_M at M
  simp only [r 0 _ (by omega) (by omega), r 1 _ (by omega) (by omega), r 2 _ (by omega) (by omega), r 3 _ (by omega) (by omega), r 9 _ (by omega) (by omega), r 5 _ (by omega) (by omega), r 6 _ (by omega) (by omega), r 7 _ (by omega) (by omega), r 8 _ (by omega) (by omega), r 12 _ (by omega) (by omega)] at M
  have u : ∀ a b, ¬ a = 94 → rx_u hi 94 c (nI (S 4 c)) a b = hi a b := fun a b q => cf_ru_ne (by omega)
  obtain ⟨⟨a1, a2, a3, a4, a5, a6, a7⟩, b, d, e, g, h, k⟩ := M
  refine ⟨⟨a1, a2, a3, a4, (u _ _ (by omega)).trans a5, (u _ _ (by omega)).trans a6, (u _ _ (by omega)).trans a7⟩, (u _ _ (by omega)).trans b, (u _ _ (by omega)).trans d, fun q hq => (u _ _ (by omega)).trans (e q hq), fun q hq => (u _ _ (by omega)).trans (g q hq), fun i hi0 => ?_, fun s hs => (u _ _ (by omega)).trans (k s hs)⟩
  obtain ⟨f1, f2, f3, f4, f5, f6, f7, f8, f9, f10⟩ := h i hi0
  refine ⟨(u _ _ (by omega)).trans f1, ?_, (u _ _ (by omega)).trans f3, fun q => ⟨(u _ _ (by omega)).trans (f4 q).1, (u _ _ (by omega)).trans (f4 q).2⟩, (u _ _ (by omega)).trans f5, (u _ _ (by omega)).trans f6, ?_, (u _ _ (by omega)).trans f8, (u _ _ (by omega)).trans f9, (u _ _ (by omega)).trans f10⟩
  · by_cases q : i = c
    · subst q; exact cf_ru_eq
    · rw [cf_ru_ne (by omega), f2, cf_app_4n q]
  · intro j hj
    rw [u _ _ (by omega)]
    by_cases q : i = c
    · subst q
      rw [f7 j (by rw [cf_app_4]; omega), cf_app_w, if_pos hj]
    · rw [f7 j (by rw [cf_app_4n q]; exact hj), cf_app_r (by omega) (by omega)]
theorem cf_V_back {S : cf_S} {c n : Nat} {mv : Nat → Nat} (V : cf_V (cf_app S c n mv)) : cf_V S := by
  have r : ∀ x y, ¬ x = 4 → x < 20 → cf_app S c n mv x y = S x y := fun x y h1 h2 => cf_app_r h1 (by omega)
  unfold cf_V at V
  simp only [r 0 _ (by omega) (by omega), r 1 _ (by omega) (by omega), r 2 _ (by omega) (by omega), r 3 _ (by omega) (by omega), r 9 _ (by omega) (by omega), r 5 _ (by omega) (by omega), r 6 _ (by omega) (by omega), r 7 _ (by omega) (by omega), r 8 _ (by omega) (by omega), r 12 _ (by omega) (by omega)] at V
  obtain ⟨a, b, d, e, f, g, h, k⟩ := V
  refine ⟨a, b, d, e, f, g, fun i hi => ?_, k⟩
  obtain ⟨h1, h2, h3, h4, h5, h6, h7, h8, h9⟩ := h i hi
  by_cases q : i = c
  · subst q
    rw [cf_app_4] at h4 h9
    refine ⟨h1, h2, h3, by omega, h5, h6, h7, h8, fun t ht => ?_⟩
    have := h9 t (by omega)
    rwa [cf_app_w, if_pos ht] at this
  · rw [cf_app_4n q] at h4 h9
    refine ⟨h1, h2, h3, h4, h5, h6, h7, h8, fun t ht => ?_⟩
    have := h9 t ht
    rwa [cf_app_r (by omega) (by omega)] at this
theorem cf_app_0 {S : cf_S} {c : Nat} : ∃ mv, cf_app S c 0 mv = S := by
  refine ⟨fun i => S (20 + c) (S 4 c + i), ?_⟩
  funext a b
  by_cases h4 : a = 4
  · subst h4
    by_cases hb : b = c
    · subst hb; rw [cf_app_4]; omega
    · rw [cf_app_4n hb]
  · by_cases h20 : a = 20 + c
    · subst h20
      rw [cf_app_w]
      by_cases hb : b < S 4 c
      · rw [if_pos hb]
      · rw [if_neg hb, show S 4 c + (b - S 4 c) = b by omega]
    · rw [cf_app_r h4 h20]
/-- longer ways of one cart -/
def cf_lg (S : cf_S) (c : Nat) (S1 : cf_S) : Prop := ∃ n mv, S1 = cf_app S c n mv
theorem cf_lg_r (S : cf_S) (c : Nat) : cf_lg S c S := by
  obtain ⟨mv, e⟩ := cf_app_0 (S := S) (c := c)
  exact ⟨0, mv, e.symm⟩
theorem cf_lg_a {S S1 : cf_S} {c : Nat} (h : cf_lg S c S1) (n : Nat) (mv : Nat → Nat) : cf_lg S c (cf_app S1 c n mv) := by
  obtain ⟨n1, mv1, rfl⟩ := h
  obtain ⟨mv3, e⟩ := cf_app_app (S := S) (c := c) (n := n1) (n2 := n) (mv := mv1) (mv2 := mv)
  exact ⟨n1 + n, mv3, e⟩
theorem cf_lg_e {S S1 : cf_S} {c : Nat} (h : cf_lg S c S1) {a b : Nat} (h1 : ¬ a = 4) (h2 : ¬ a = 20 + c) : S1 a b = S a b := by
  obtain ⟨n, mv, rfl⟩ := h
  exact cf_app_r h1 h2
/-- go, in one word -/
theorem c165o {S : cf_S} (Z : cf_RM S hi hl) {c tg wt : Nat} {last : Bool} (hc : c < S 0 2) (htg : tg < 64) (hwt : wt ≤ S 0 3)
    (k0 : cf_go1 S c tg wt last = none → ∀ hi2 hl2, cf_fP hi hi2 → cf_fPl hl hl2 → cf_RM S hi2 hl2 → RI 0 hi2 hl2 v)
    (k1 : ∀ S1, cf_go1 S c tg wt last = some S1 → cf_lg S c S1 → ∀ hi2 hl2, cf_fP hi hi2 → cf_fPl hl hl2 → cf_RM S1 hi2 hl2 → RI 1 hi2 hl2 v) :
    rx_CI L t 165 [.ref 90, .int (nI c), .int (nI tg), .int (oI wt), .int (cf_B last)] hi hl v RI := by
  refine c165 Z hc htg hwt (fun h hi2 hl2 F Fl R => k0 ?_ hi2 hl2 F Fl R) (fun h1 h2 n hn hb hi2 hl2 F Fl R => k1 _ ?_ ?_ hi2 hl2 F Fl R)
  · unfold cf_go1
    rw [if_neg]
    rintro ⟨q1, q2, q3⟩
    rcases h with h | h | h
    · rw [h] at q1; cases q1
    · rw [h] at q2; cases q2
    · omega
  · unfold cf_go1
    rw [if_pos ⟨h1, h2, by omega⟩, hn, Nat.add_sub_cancel]
  · exact ⟨_, _, rfl⟩
theorem c197o {S : cf_S} (Z : cf_RM S hi hl) {c m : Nat} (hc : c < S 0 2) (hm : m < 7)
    (k0 : cf_do1 S c m = none → ∀ S1, cf_lg S c S1 → ∀ hi2 hl2, cf_fP hi hi2 → cf_fPl hl hl2 → cf_RM S1 hi2 hl2 → RI 0 hi2 hl2 v)
    (k1 : ∀ S1, cf_do1 S c m = some S1 → cf_lg S c S1 → ∀ hi2 hl2, cf_fP hi hi2 → cf_fPl hl hl2 → cf_RM S1 hi2 hl2 → RI 1 hi2 hl2 v) :
    rx_CI L t 197 [.ref 90, .int (nI c), .int (nI m)] hi hl v RI := by
  refine c197 Z hc hm (fun h => k0 ?_ S (cf_lg_r S c) hi hl (fun _ _ _ _ _ _ _ _ => rfl) (fun _ _ _ _ _ _ => rfl) Z) (fun h hi2 hl2 F Fl R => ?_)
  · unfold cf_do1; rw [if_neg (by omega)]
  · have hg : cf_lg S c (cf_app S c 1 (fun _ => m)) := ⟨_, _, rfl⟩
    cases e : cf_dok S c m with
    | false => exact k0 (by unfold cf_do1; rw [e, if_neg (fun q => absurd q.2 (by decide))]) _ hg hi2 hl2 F Fl R
    | true => exact k1 _ (by unfold cf_do1; rw [e, if_pos ⟨h, rfl⟩]) hg hi2 hl2 F Fl R
theorem c164 {S : cf_S} (Z : cf_RM S hi hl) {c : Nat} (hc : c < S 0 2) (h5 : 0 < S 5 c)
    (k0 : cf_pl S c = none → ∀ S1, cf_lg S c S1 → ∀ hi2 hl2, cf_fP hi hi2 → cf_fPl hl hl2 → cf_RM S1 hi2 hl2 → RI 0 hi2 hl2 v)
    (k1 : ∀ S1, cf_pl S c = some S1 → cf_lg S c S1 → ∀ hi2 hl2, cf_fP hi hi2 → cf_fPl hl hl2 → cf_RM S1 hi2 hl2 → RI 1 hi2 hl2 v) :
    rx_CI L t 164 [.ref 90, .int (nI c)] hi hl v RI := by
  have V := Z.1
  have h6 := V.2.2.1
  have h12 := V.2.2.2.1
  have hwh := cf_V_wh V
  obtain ⟨_, _, _, h400, v5, v6, _⟩ := V.2.2.2.2.2.2.1 c hc
  have hC := Z.2.2.1.2.2.2.2.2.1 c hc
  obtain ⟨e97, e98⟩ := hC.2.2.2.1 h5
  have hW := cf_RW_NW V Z.2.2.2.2
  obtain ⟨_, _, w3, _, _, w6⟩ := hW.1 c hc (S 4 c) (by omega)
  -- the last leg and the letting down, out of a longer way
  have last2 : ∀ S1, cf_lg S c S1 → ∀ hi3 hl3, cf_fP hi hi3 → cf_fPl hl hl3 → cf_RM S1 hi3 hl3 →
      (cf_go1 S1 c (S 5 c - 1) 0 true = none → cf_pl S c = none) → (∀ S2, cf_go1 S1 c (S 5 c - 1) 0 true = some S2 → cf_pl S c = cf_do1 S2 c 6) →
      rx_CI L t 165 [.ref 90, .int (nI c), .int (nI (S 5 c - 1)), .int (oI 0), .int (cf_B true)] hi3 hl3 v (fun z7 hi7 hl7 v7 => ((z7 = 0 → ∃ z : Int32, some (Value.int 0) = some (.int z) ∧ rx_ok2 L t (rx_hp L t hi7 hl7 v7) (RI z)) ∧ (¬ (z7 = 0) → rx_CI L t 197 [.ref 90, .int (nI c), .int (6 : Int32)] hi7 hl7 v7 (fun z9 hi9 hl9 v9 => ((z9 = 0 → ∃ z : Int32, some (Value.int 0) = some (.int z) ∧ rx_ok2 L t (rx_hp L t hi9 hl9 v9) (RI z)) ∧ (¬ (z9 = 0) → ∃ z : Int32, some (Value.int 1) = some (.int z) ∧ rx_ok2 L t (rx_hp L t hi9 hl9 v9) (RI z))))))) := by
    intro S1 G1 hi3 hl3 F3 Fl3 R3 p0 p1
    have hc1 : c < S1 0 2 := by rw [cf_lg_e G1 (by omega) (by omega)]; exact hc
    refine c165o R3 hc1 (by omega) (Nat.zero_le _) (fun e hi4 hl4 F4 Fl4 R4 => ⟨fun _ => c_retI (k0 (p0 e) S1 G1 hi4 hl4 (cf_fP_t F3 F4) (cf_fPl_t Fl3 Fl4) R4), fun g => absurd rfl g⟩) (fun S2 e G2 hi4 hl4 F4 Fl4 R4 => ⟨fun g => absurd g (by decide), fun _ => ?_⟩)
    have G3 : cf_lg S c S2 := by obtain ⟨n, mv, rfl⟩ := G2; exact cf_lg_a G1 n mv
    have hc2 : c < S2 0 2 := by rw [cf_lg_e G3 (by omega) (by omega)]; exact hc
    refine c197o (m := 6) R4 hc2 (by omega) (fun e2 S3 G4 hi5 hl5 F5 Fl5 R5 => ⟨fun _ => c_retI (k0 ((p1 S2 e).trans e2) S3 ?_ hi5 hl5 (cf_fP_t F3 (cf_fP_t F4 F5)) (cf_fPl_t Fl3 (cf_fPl_t Fl4 Fl5)) R5), fun g => absurd rfl g⟩) (fun S3 e2 G4 hi5 hl5 F5 Fl5 R5 => ⟨fun g => absurd g (by decide), fun _ => c_retI (k1 S3 ((p1 S2 e).trans e2) ?_ hi5 hl5 (cf_fP_t F3 (cf_fP_t F4 F5)) (cf_fPl_t Fl3 (cf_fPl_t Fl4 Fl5)) R5)⟩)
    · obtain ⟨n, mv, rfl⟩ := G4; exact cf_lg_a G3 n mv
    · obtain ⟨n, mv, rfl⟩ := G4; exact cf_lg_a G3 n mv
  have F0 : cf_fP hi hi := fun _ _ _ _ _ _ _ _ => rfl
  have Fl0 : cf_fPl hl hl := fun _ _ _ _ _ _ => rfl
  refine w164_goesAll_r ⟨c, rfl, by omega, fun g => ⟨c, rfl, by omega, 402 * c + S 4 c, by rw [hC.2.1]; exact cf_402, by omega, fun g2 => ⟨c, rfl, by omega, ?_⟩, fun g2 => ⟨402 * (S 6 c - 1) + 401, ?_, ?_, ?_⟩⟩, fun g => ⟨c, rfl, by omega, ?_⟩⟩
  · rw [e98, cf_ole (by omega)] at g
    rw [w3, e98, cf_oeq (by omega) (by omega)] at g2
    rw [e97]
    refine last2 S (cf_lg_r S c) hi hl F0 Fl0 Z (fun e => ?_) (fun S2 e => ?_)
    · unfold cf_pl; rw [if_neg (by omega), if_pos g2, e]; rfl
    · unfold cf_pl; rw [if_neg (by omega), if_pos g2, e]; rfl
  · rw [e98, cf_ole (by omega)] at g
    obtain ⟨p, hp⟩ : ∃ p, S 6 c = p + 1 := ⟨S 6 c - 1, by omega⟩
    rw [e98, hp, cf_oS, show (402 : Int32) = nI 402 from rfl, cf_nmul, nI_add, show (1 : Int32) = nI 1 from rfl, cf_nsub (by omega)]
    congr 1
  · rw [e98, cf_ole (by omega)] at g; omega
  · rw [e98, cf_ole (by omega)] at g
    rw [w3, e98, cf_oeq (by omega) (by omega)] at g2
    obtain ⟨w7, w8⟩ := hW.2 (S 6 c - 1) (by omega) 401 (by omega)
    rw [w7, e98]
    refine c165o (last := false) Z hc w8 v6 (fun e hi4 hl4 F4 Fl4 R4 => ⟨fun _ => c_retI (k0 ?_ S (cf_lg_r S c) hi4 hl4 F4 Fl4 R4), fun g => absurd rfl g⟩) (fun S1 e G1 hi4 hl4 F4 Fl4 R4 => ⟨fun g => absurd g (by decide), fun _ => ?_⟩)
    · unfold cf_pl; rw [if_neg (by omega), if_neg g2, e]; rfl
    have hc1 : c < S1 0 2 := by rw [cf_lg_e G1 (by omega) (by omega)]; exact hc
    refine c197o (m := 5) R4 hc1 (by omega) (fun e2 S2 G2 hi5 hl5 F5 Fl5 R5 => ⟨fun _ => c_retI (k0 ?_ S2 ?_ hi5 hl5 (cf_fP_t F4 F5) (cf_fPl_t Fl4 Fl5) R5), fun g => absurd rfl g⟩) (fun S2 e2 G2 hi5 hl5 F5 Fl5 R5 => ⟨fun g => absurd g (by decide), fun _ => ⟨c, rfl, by omega, ?_⟩⟩)
    · unfold cf_pl; rw [if_neg (by omega), if_neg g2, e]; show (cf_do1 S1 c 5).bind _ = none; rw [e2]; rfl
    · obtain ⟨n, mv, rfl⟩ := G2; exact cf_lg_a G1 n mv
    have G3 : cf_lg S c S2 := by obtain ⟨n, mv, rfl⟩ := G2; exact cf_lg_a G1 n mv
    rw [(cf_fP_t F4 F5) 97 c (by omega) (by omega) (by omega) (by omega) (by omega) (by omega), e97]
    refine last2 S2 G3 hi5 hl5 (cf_fP_t F4 F5) (cf_fPl_t Fl4 Fl5) R5 (fun e3 => ?_) (fun S3 e3 => ?_)
    · unfold cf_pl; rw [if_neg (by omega), if_neg g2, e]; show (cf_do1 S1 c 5).bind _ = none; rw [e2]; show (cf_go1 S2 c (S 5 c - 1) 0 true).bind _ = none; rw [e3]; rfl
    · unfold cf_pl; rw [if_neg (by omega), if_neg g2, e]; show (cf_do1 S1 c 5).bind _ = _; rw [e2]; show (cf_go1 S2 c (S 5 c - 1) 0 true).bind _ = _; rw [e3]; rfl
  · rw [e98, cf_ole (by omega)] at g
    rw [e97]
    refine c165o (wt := 0) (last := true) Z hc (by omega) (Nat.zero_le _) (fun e hi4 hl4 F4 Fl4 R4 => ⟨Or.inl rfl, c_retI (k0 ?_ S (cf_lg_r S c) hi4 hl4 F4 Fl4 R4)⟩) (fun S1 e G1 hi4 hl4 F4 Fl4 R4 => ⟨Or.inr rfl, c_retI (k1 S1 ?_ G1 hi4 hl4 F4 Fl4 R4)⟩)
    · unfold cf_pl; rw [if_pos (by omega), e]
    · unfold cf_pl; rw [if_pos (by omega), e]
theorem cf_pd_r {S : cf_S} {c a b : Nat} (h : ¬ a = 7) : cf_pd S c a b = S a b := by unfold cf_pd; rw [if_neg (fun q => h q.1)]
/-- the world doesn't mind rows 2, 5, 6, 7, 8 -/
def cf_sam (S S2 : cf_S) : Prop := ∀ a b, ¬ a = 2 → ¬ a = 5 → ¬ a = 6 → ¬ a = 7 → ¬ a = 8 → S2 a b = S a b
theorem cf_w_sam {S S2 : cf_S} (h : cf_sam S S2) : ∀ t, cf_w S2 t = cf_w S t
  | 0 => by
    rw [cf_w, cf_w]
    congr 1
    · funext o; exact h 9 o (by omega) (by omega) (by omega) (by omega) (by omega)
    · funext o; exact h 12 o (by omega) (by omega) (by omega) (by omega) (by omega)
  | t + 1 => by
    have e1 : S2 1 = S 1 := by funext q; exact h 1 q (by omega) (by omega) (by omega) (by omega) (by omega)
    have e : ∀ o, cf_nx S2 (cf_w S2 t) t o = cf_nx S (cf_w S t) t o := by
      intro o
      rw [cf_w_sam h t]
      unfold cf_nx cf_mt
      rw [h 0 _ (by omega) (by omega) (by omega) (by omega) (by omega), h 0 _ (by omega) (by omega) (by omega) (by omega) (by omega), h 3 _ (by omega) (by omega) (by omega) (by omega) (by omega), h 4 _ (by omega) (by omega) (by omega) (by omega) (by omega), h 0 _ (by omega) (by omega) (by omega) (by omega) (by omega), h 0 _ (by omega) (by omega) (by omega) (by omega) (by omega), h (20 + o) _ (by omega) (by omega) (by omega) (by omega) (by omega), e1]
    have e3 : (fun o => (cf_nx S2 (cf_w S2 t) t o).getD ((cf_w S2 t).1 o)) = (fun o => (cf_nx S (cf_w S t) t o).getD ((cf_w S t).1 o)) := by
      funext o; rw [e o, cf_w_sam h t]
    rw [cf_w, cf_w, e3, cf_w_sam h t, h 0 2 (by omega) (by omega) (by omega) (by omega) (by omega)]
theorem cf_st_sam {S S2 : cf_S} (h : cf_sam S S2) : cf_st S2 = cf_st S := by funext t c; unfold cf_st; rw [cf_w_sam h]
theorem cf_sp_sam {S S2 : cf_S} (h : cf_sam S S2) : cf_sp S2 = cf_sp S := by funext t c; unfold cf_sp; rw [cf_w_sam h]
theorem cf_mt_sam {S S2 : cf_S} (h : cf_sam S S2) : cf_mt S2 = cf_mt S := by
  funext c t; unfold cf_mt; rw [h 4 c (by omega) (by omega) (by omega) (by omega) (by omega), h (20 + c) t (by omega) (by omega) (by omega) (by omega) (by omega)]
theorem cf_made_sam {S S2 : cf_S} (h : cf_sam S S2) : cf_made S2 = cf_made S := by
  have e1 : S2 1 = S 1 := by funext q; exact h 1 q (by omega) (by omega) (by omega) (by omega) (by omega)
  funext t c
  unfold cf_made cf_nx
  rw [cf_w_sam h, cf_mt_sam h, h 0 _ (by omega) (by omega) (by omega) (by omega) (by omega), h 0 _ (by omega) (by omega) (by omega) (by omega) (by omega), h 3 _ (by omega) (by omega) (by omega) (by omega) (by omega), h 0 _ (by omega) (by omega) (by omega) (by omega) (by omega), h 0 _ (by omega) (by omega) (by omega) (by omega) (by omega), e1]
theorem cf_sd_sam {S S2 : cf_S} (h : cf_sam S S2) : cf_sd S2 = cf_sd S := by
  funext t c
  unfold cf_sd
  rw [cf_st_sam h, h 0 _ (by omega) (by omega) (by omega) (by omega) (by omega), h 0 _ (by omega) (by omega) (by omega) (by omega) (by omega), h 3 _ (by omega) (by omega) (by omega) (by omega) (by omega)]
theorem cf_td_sam {S S2 : cf_S} (h : cf_sam S S2) : cf_td S2 = cf_td S := by
  funext t c
  unfold cf_td
  rw [cf_st_sam h, cf_mt_sam h, h 0 _ (by omega) (by omega) (by omega) (by omega) (by omega), h 0 _ (by omega) (by omega) (by omega) (by omega) (by omega), h 3 _ (by omega) (by omega) (by omega) (by omega) (by omega)]
theorem cf_hd_sam {S S2 : cf_S} (h : cf_sam S S2) : cf_hd S2 = cf_hd S := by
  funext t c
  unfold cf_hd
  rw [cf_sd_sam h, cf_td_sam h]
theorem cf_NW_sam {S S2 : cf_S} (h : cf_sam S S2) {hi : Nat → Nat → Int32} {hl : Nat → Nat → Int64} (N : cf_NW S hi hl) : cf_NW S2 hi hl := by
  unfold cf_NW
  rw [cf_st_sam h, cf_sp_sam h, cf_sd_sam h, cf_hd_sam h, cf_made_sam h, h 0 _ (by omega) (by omega) (by omega) (by omega) (by omega), h 0 _ (by omega) (by omega) (by omega) (by omega) (by omega)]
  exact N
theorem cf_sam_pd (S : cf_S) (c : Nat) : cf_sam S (cf_pd S c) := fun a b _ _ _ h _ => cf_pd_r h
theorem cf_H0_sam {S S2 : cf_S} (h : cf_sam S S2) (H : cf_H0 S) : cf_H0 S2 := by
  intro i s hi hs e
  rw [h 0 _ (by omega) (by omega) (by omega) (by omega) (by omega)] at hi hs
  rw [h 9 _ (by omega) (by omega) (by omega) (by omega) (by omega)] at e
  rw [h 9 _ (by omega) (by omega) (by omega) (by omega) (by omega), h 12 _ (by omega) (by omega) (by omega) (by omega) (by omega)]
  exact H i s hi hs e
theorem cf_V_pd {S : cf_S} (V : cf_V S) (c : Nat) : cf_V (cf_pd S c) := by
  have r : ∀ x y, ¬ x = 7 → cf_pd S c x y = S x y := fun x y h => cf_pd_r h
  obtain ⟨a, b, d, e, f, g, h, k⟩ := V
  unfold cf_V
  simp only [r 0 _ (by omega), r 1 _ (by omega), r 2 _ (by omega), r 3 _ (by omega), r 4 _ (by omega), r 9 _ (by omega), r 5 _ (by omega), r 6 _ (by omega), r 8 _ (by omega), r 12 _ (by omega)]
  refine ⟨a, b, d, e, f, g, fun i hi => ?_, k⟩
  obtain ⟨h1, h2, h3, h4, h5, h6, h7, h8, h9⟩ := h i hi
  refine ⟨h1, h2, h3, h4, h5, h6, ?_, h8, fun t ht => by rw [r _ _ (by omega)]; exact h9 t ht⟩
  unfold cf_pd
  by_cases q : 7 = 7 ∧ i = c
  · rw [if_pos q]; exact Nat.le_refl _
  · rw [if_neg q]; exact h7
theorem cf_M_pd {S : cf_S} (M : cf_M S hi) {c : Nat} : cf_M (cf_pd S c) (rx_u hi 99 c 1) := by
  have r : ∀ x y, ¬ x = 7 → cf_pd S c x y = S x y := fun x y h => cf_pd_r h
  have u : ∀ a b, ¬ a = 99 → rx_u hi 99 c 1 a b = hi a b := fun a b q => cf_ru_ne (by omega)
  obtain ⟨⟨a1, a2, a3, a4, a5, a6, a7⟩, b, d, e, g, h, k⟩ := M
  unfold cf_M
  simp only [r 0 _ (by omega), r 1 _ (by omega), r 2 _ (by omega), r 3 _ (by omega), r 4 _ (by omega), r 9 _ (by omega), r 5 _ (by omega), r 6 _ (by omega), r 8 _ (by omega), r 12 _ (by omega)]
  refine ⟨⟨a1, a2, a3, a4, (u _ _ (by omega)).trans a5, (u _ _ (by omega)).trans a6, (u _ _ (by omega)).trans a7⟩, (u _ _ (by omega)).trans b, (u _ _ (by omega)).trans d, fun q hq => (u _ _ (by omega)).trans (e q hq), fun q hq => (u _ _ (by omega)).trans (g q hq), fun i hi0 => ?_, fun s hs => (u _ _ (by omega)).trans (k s hs)⟩
  obtain ⟨f1, f2, f3, f4, f5, f6, f7, f8, f9, f10⟩ := h i hi0
  refine ⟨(u _ _ (by omega)).trans f1, (u _ _ (by omega)).trans f2, (u _ _ (by omega)).trans f3, fun q => ⟨(u _ _ (by omega)).trans (f4 q).1, (u _ _ (by omega)).trans (f4 q).2⟩, ?_, (u _ _ (by omega)).trans f6, fun j hj => by rw [u _ _ (by omega), r _ _ (by omega)]; exact f7 j hj, (u _ _ (by omega)).trans f8, (u _ _ (by omega)).trans f9, (u _ _ (by omega)).trans f10⟩
  unfold cf_pd
  by_cases q : i = c
  · subst q; rw [cf_ru_eq, if_pos ⟨rfl, rfl⟩]; rfl
  · rw [cf_ru_ne (by omega), if_neg (by omega)]; exact f5
theorem c163 {S : cf_S} (Z : cf_RM S hi hl) {c : Nat} (hc : c < S 0 2) (h5 : 0 < S 5 c)
    (k0 : cf_pl S c = none → ∀ hi2 hl2, cf_fP hi hi2 → cf_fPl hl hl2 → cf_RM S hi2 hl2 → RI 0 hi2 hl2 v)
    (k1 : ∀ S1, cf_pl S c = some S1 → cf_lg S c S1 → ∀ hi2 hl2, cf_fP hi hi2 → cf_fPl hl hl2 → cf_RM (cf_pd S1 c) hi2 hl2 → RI 1 hi2 hl2 v) :
    rx_CI L t 163 [.ref 90, .int (nI c)] hi hl v RI := by
  have V := Z.1
  have h6 := V.2.2.1
  refine w163_plans_r ⟨c, rfl, by omega, c164 Z hc h5 (fun e S1 G1 hi2 hl2 F Fl R => ⟨fun _ => ⟨c, rfl, by omega, ?_⟩, fun g => absurd rfl g⟩) (fun S1 e G1 hi2 hl2 F Fl R => ⟨fun g => absurd g (by decide), fun _ => ⟨c, rfl, by omega, c, rfl, by omega, Or.inr rfl, c_retI ?_⟩⟩)⟩
  · rw [(Z.2.2.1.2.2.2.2.2.1 c hc).2.1]
    obtain ⟨n, mv, rfl⟩ := G1
    obtain ⟨V2, H2, M2, K2, N2⟩ := R
    have M3 := cf_M_back M2
    have K3 : cf_ck (rx_u hi2 94 c (nI (S 4 c))) := by
      obtain ⟨nl, e1, e2⟩ := K2.2
      exact ⟨by rw [cf_ru_ne (by omega)]; exact K2.1, nl, by rw [cf_ru_ne (by omega)]; exact e1, e2⟩
    refine c191w V Z.2.1 M3 K3 (fun hi6 hl6 F6 Fl6 M6 K6 N6 => ⟨c, rfl, by omega, c, rfl, by omega, Or.inl rfl, c_retI ?_⟩)
    have hp := (M6.2.2.2.2.2.1 c hc).2.2.2.2.1
    have h7 := (V.2.2.2.2.2.2.1 c hc).2.2.2.2.2.2.1
    have e7 : vp_nar .boolean (hi6 99 c ||| 0) = hi6 99 c := by
      rw [hp]
      have : S 7 c = 0 ∨ S 7 c = 1 := by omega
      rcases this with q | q <;> rw [q] <;> decide
    have e8 : rx_u hi6 99 c (vp_nar .boolean (hi6 99 c ||| 0)) = hi6 := by
      rw [e7]
      funext a b
      by_cases q : a = 99 ∧ b = c
      · rw [q.1, q.2, cf_ru_eq]
      · rw [cf_ru_ne q]
    rw [e8]
    refine k0 e hi6 hl6 (fun a b q1 q2 q3 q4 q5 q6 => ?_) (fun a b q1 q2 q3 q4 => (Fl6 a b q2 q3).trans (Fl a b q1 q2 q3 q4)) ⟨V, Z.2.1, M6, K6, N6⟩
    rw [F6 a b q1 q3 q4, cf_ru_ne (by omega)]
    exact F a b q1 q2 q3 q4 q5 q6
  · have hc1 : c < S1 0 2 := by rw [cf_lg_e G1 (by omega) (by omega)]; exact hc
    obtain ⟨V2, H2, M2, K2, N2⟩ := R
    have hp := (M2.2.2.2.2.2.1 c hc1).2.2.2.2.1
    have h7 := (V2.2.2.2.2.2.2.1 c hc1).2.2.2.2.2.2.1
    have e7 : vp_nar .boolean (hi2 99 c ||| 1) = 1 := by
      rw [hp]
      have : S1 7 c = 0 ∨ S1 7 c = 1 := by omega
      rcases this with q | q <;> rw [q] <;> decide
    rw [e7]
    refine k1 S1 e G1 _ hl2 (fun a b q1 q2 q3 q4 q5 q6 => ?_) Fl ⟨cf_V_pd V2 c, cf_H0_sam (cf_sam_pd S1 c) H2, cf_M_pd M2, ?_, cf_NW_sam (cf_sam_pd S1 c) ?_⟩
    · rw [cf_ru_ne (by omega)]; exact F a b q1 q2 q3 q4 q5 q6
    · obtain ⟨nl, e1, e2⟩ := K2.2
      exact ⟨by rw [cf_ru_ne (by omega)]; exact K2.1, nl, by rw [cf_ru_ne (by omega)]; exact e1, e2⟩
    · refine ⟨fun o ho => ⟨fun u hu => ?_, fun u hu => by rw [cf_ru_ne (by omega)]; exact (N2.1 o ho).2 u hu⟩, fun s hs u hu => by rw [cf_ru_ne (by omega)]; exact N2.2 s hs u hu⟩
      rw [cf_ru_ne (by omega), cf_ru_ne (by omega), cf_ru_ne (by omega)]
      exact (N2.1 o ho).1 u hu
end RXE
