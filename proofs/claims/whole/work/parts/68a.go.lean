/-! go of the reference: a cart's way is made longer. -/
/-- n more MOVES behind a cart's END -/
def cf_app (S : cf_S) (c n : Nat) (mv : Nat → Nat) : cf_S := fun a b => if a = 4 then (if b = c then S 4 c + n else S 4 b) else if a = 20 + c then (if b < S 4 c then S (20 + c) b else mv (b - S 4 c)) else S a b
theorem cf_app_r {S : cf_S} {c n : Nat} {mv : Nat → Nat} {a b : Nat} (h1 : ¬ a = 4) (h2 : ¬ a = 20 + c) : cf_app S c n mv a b = S a b := by
  unfold cf_app; rw [if_neg h1, if_neg h2]
theorem cf_app_4 {S : cf_S} {c n : Nat} {mv : Nat → Nat} : cf_app S c n mv 4 c = S 4 c + n := by
  unfold cf_app; rw [if_pos rfl, if_pos rfl]
theorem cf_app_4n {S : cf_S} {c n : Nat} {mv : Nat → Nat} {b : Nat} (h : ¬ b = c) : cf_app S c n mv 4 b = S 4 b := by
  unfold cf_app; rw [if_pos rfl, if_neg h]
theorem cf_app_w {S : cf_S} {c n : Nat} {mv : Nat → Nat} {b : Nat} : cf_app S c n mv (20 + c) b = if b < S 4 c then S (20 + c) b else mv (b - S 4 c) := by
  unfold cf_app; rw [if_neg (by omega), if_pos rfl]
theorem cf_V_app {S : cf_S} (V : cf_V S) {c n : Nat} {mv : Nat → Nat} (hn : S 4 c + n ≤ 400) (hm : ∀ i, i < n → mv i < 7) : cf_V (cf_app S c n mv) := by
  obtain ⟨a, b, d, e, f, g, h, k⟩ := V
  have r : ∀ x y, ¬ x = 4 → x < 20 → cf_app S c n mv x y = S x y := fun x y h1 h2 => cf_app_r h1 (by omega)
  unfold cf_V
  simp only [r 0 _ (by omega) (by omega), r 1 _ (by omega) (by omega), r 2 _ (by omega) (by omega), r 3 _ (by omega) (by omega), r 9 _ (by omega) (by omega), r 5 _ (by omega) (by omega), r 6 _ (by omega) (by omega), r 7 _ (by omega) (by omega), r 8 _ (by omega) (by omega), r 12 _ (by omega) (by omega)]
  refine ⟨a, b, d, e, f, g, fun i hi => ?_, k⟩
  obtain ⟨h1, h2, h3, h4, h5, h6, h7, h8, h9⟩ := h i hi
  by_cases e : i = c
  · subst e
    refine ⟨h1, h2, h3, by rw [cf_app_4]; exact hn, h5, h6, h7, h8, fun t ht => ?_⟩
    rw [cf_app_4] at ht
    rw [cf_app_w]
    by_cases q : t < S 4 i
    · rw [if_pos q]; exact h9 t q
    · rw [if_neg q]; exact hm _ (by omega)
  · refine ⟨h1, h2, h3, by rw [cf_app_4n e]; exact h4, h5, h6, h7, h8, fun t ht => ?_⟩
    rw [cf_app_4n e] at ht
    rw [cf_app_r (by omega) (by omega)]; exact h9 t ht
theorem cf_H0_app {S : cf_S} (H : cf_H0 S) {c n : Nat} {mv : Nat → Nat} : cf_H0 (cf_app S c n mv) := by
  intro i s hi hs e
  rw [cf_app_r (by omega) (by omega)] at hi hs e
  rw [cf_app_r (by omega) (by omega), cf_app_r (by omega) (by omega)]
  exact H i s hi hs e
theorem cf_M_app {S : cf_S} {c n : Nat} {mv : Nat → Nat} {hi hi2 : Nat → Nat → Int32} (V : cf_V S) (M : cf_M S hi) (hc : c < S 0 2) (hn : S 4 c + n ≤ 400) (F : ∀ a b, ¬ (a = 90 ∧ (b = 33 ∨ b = 34)) → ¬ (a = 94 ∧ b = c) → ¬ (a = 95 ∧ 400 * c + S 4 c ≤ b ∧ b < 400 * (c + 1)) → ¬ a = 115 → ¬ a = 116 → hi2 a b = hi a b) (h1 : hi2 94 c = nI (S 4 c + n)) (h2 : ∀ i, i < n → hi2 95 (400 * c + (S 4 c + i)) = nI (mv i)) : cf_M (cf_app S c n mv) hi2 := by
  have r : ∀ x y, ¬ x = 4 → x < 20 → cf_app S c n mv x y = S x y := fun x y h1 h2 => cf_app_r h1 (by omega)
  obtain ⟨⟨a1, a2, a3, a4, a5, a6, a7⟩, b, d, e, g, h, k⟩ := M
  unfold cf_M
  simp only [r 0 _ (by omega) (by omega), r 1 _ (by omega) (by omega), r 2 _ (by omega) (by omega), r 3 _ (by omega) (by omega), r 9 _ (by omega) (by omega), r 5 _ (by omega) (by omega), r 6 _ (by omega) (by omega), r 7 _ (by omega) (by omega), r 8 _ (by omega) (by omega), r 12 _ (by omega) (by omega)]
  refine ⟨⟨a1, a2, a3, a4, (F 90 0 (by omega) (by omega) (by omega) (by omega) (by omega)).trans a5, (F 90 1 (by omega) (by omega) (by omega) (by omega) (by omega)).trans a6, (F 90 2 (by omega) (by omega) (by omega) (by omega) (by omega)).trans a7⟩, (F 90 6 (by omega) (by omega) (by omega) (by omega) (by omega)).trans b, (F 90 21 (by omega) (by omega) (by omega) (by omega) (by omega)).trans d, fun q hq => (F 91 q (by omega) (by omega) (by omega) (by omega) (by omega)).trans (e q hq), fun q hq => (F 92 q (by omega) (by omega) (by omega) (by omega) (by omega)).trans (g q hq), fun i hi0 => ?_, fun s hs => (F 107 s (by omega) (by omega) (by omega) (by omega) (by omega)).trans (k s hs)⟩
  obtain ⟨f1, f2, f3, f4, f5, f6, f7, f8, f9, f10⟩ := h i hi0
  have h400 := (V.2.2.2.2.2.2.1 i hi0).2.2.2.1
  refine ⟨(F 93 i (by omega) (by omega) (by omega) (by omega) (by omega)).trans f1, ?_, (F 96 i (by omega) (by omega) (by omega) (by omega) (by omega)).trans f3, fun q => ⟨(F 97 i (by omega) (by omega) (by omega) (by omega) (by omega)).trans (f4 q).1, (F 98 i (by omega) (by omega) (by omega) (by omega) (by omega)).trans (f4 q).2⟩, (F 99 i (by omega) (by omega) (by omega) (by omega) (by omega)).trans f5, (F 100 i (by omega) (by omega) (by omega) (by omega) (by omega)).trans f6, ?_, (F 101 _ (by omega) (by omega) (by omega) (by omega) (by omega)).trans f8, (F 102 _ (by omega) (by omega) (by omega) (by omega) (by omega)).trans f9, (F 103 _ (by omega) (by omega) (by omega) (by omega) (by omega)).trans f10⟩
  · by_cases q : i = c
    · subst q; rw [cf_app_4]; exact h1
    · rw [cf_app_4n q]; exact (F 94 i (by omega) (by omega) (by omega) (by omega) (by omega)).trans f2
  · intro j hj
    by_cases q : i = c
    · subst q
      rw [cf_app_4] at hj
      rw [cf_app_w]
      by_cases q2 : j < S 4 i
      · rw [if_pos q2]; exact (F 95 _ (by omega) (by omega) (by omega) (by omega) (by omega)).trans (f7 j q2)
      · rw [if_neg q2]
        have := h2 (j - S 4 i) (by omega)
        rwa [show S 4 i + (j - S 4 i) = j by omega] at this
    · rw [cf_app_4n q] at hj
      rw [cf_app_r (by omega) (by omega)]
      exact (F 95 _ (by omega) (by omega) (by omega) (by omega) (by omega)).trans (f7 j hj)
/-- the reference at rest -/
def cf_RM (S : cf_S) (hi : Nat → Nat → Int32) (hl : Nat → Nat → Int64) : Prop := cf_V S ∧ cf_H0 S ∧ cf_M S hi ∧ cf_ck hi ∧ cf_NW S hi hl
/-- what planning writes -/
def cf_fP (hi hi2 : Nat → Nat → Int32) : Prop := ∀ a b, ¬ (a = 90 ∧ (b = 33 ∨ b = 34)) → ¬ (a = 94 ∨ a = 95 ∨ a = 99) → ¬ (101 ≤ a ∧ a ≤ 104) → ¬ a = 108 → ¬ a = 115 → ¬ a = 116 → hi2 a b = hi a b
def cf_fPl (hl hl2 : Nat → Nat → Int64) : Prop := ∀ a b, ¬ (a = 90 ∧ b = 43) → ¬ a = 105 → ¬ a = 106 → ¬ (117 ≤ a ∧ a ≤ 120) → hl2 a b = hl a b
theorem cf_fP_t {hi hi2 hi3 : Nat → Nat → Int32} (h1 : cf_fP hi hi2) (h2 : cf_fP hi2 hi3) : cf_fP hi hi3 := fun a b q1 q2 q3 q4 q5 q6 => (h2 a b q1 q2 q3 q4 q5 q6).trans (h1 a b q1 q2 q3 q4 q5 q6)
theorem cf_fPl_t {hl hl2 hl3 : Nat → Nat → Int64} (h1 : cf_fPl hl hl2) (h2 : cf_fPl hl2 hl3) : cf_fPl hl hl3 := fun a b q1 q2 q3 q4 => (h2 a b q1 q2 q3 q4).trans (h1 a b q1 q2 q3 q4)
/-- what the search takes as taken, at a tick and from it on; l: what is carried -/
def cf_gT (S : cf_S) (sp : Nat → Nat → Nat) (hd : Nat → Nat → Int64) (c l u : Nat) : Int64 := (cf_bar S ||| cf_othg (S 0 2) hd c u) ||| cf_rowg S sp c l u
def cf_gL (S : cf_S) (sp : Nat → Nat → Nat) (hd : Nat → Nat → Int64) (c l u : Nat) : Int64 := cf_suf (cf_othg (S 0 2) hd c) (402 - u) ||| cf_suf (cf_rowg S sp c l) (402 - u)
/-- an arrival i ticks behind tick f; s: the STANCE at f -/
def cf_gp (S : cf_S) (st sp : Nat → Nat → Nat) (sd hd : Nat → Nat → Int64) (c f s tg wt : Nat) (last : Bool) (i : Nat) : Bool :=
  cf_any (fun r => cf_lr (cf_may S (cf_gT S sp hd c (s / 256)) sd c) f (s % 256) i (cf_dec r) && cf_gl S st sp (cf_gL S sp hd c (s / 256)) c tg wt last (cf_dec r) (f + i)) 256
/-- the ticks up to the first arrival, and 1; 0: none -/
def cf_gn (S : cf_S) (st sp : Nat → Nat → Nat) (sd hd : Nat → Nat → Int64) (c f s tg wt : Nat) (last : Bool) : Nat := cf_ff (cf_gp S st sp sd hd c f s tg wt last) (401 - f)
/-- the MOVES, n ticks leading to the arrival -/
def cf_gm (S : cf_S) (st sp : Nat → Nat → Nat) (sd hd : Nat → Nat → Int64) (c f s tg wt : Nat) (last : Bool) (n i : Nat) : Nat :=
  cf_pmv S (cf_gT S sp hd c (s / 256)) sd c f (s % 256) n (fun x => cf_gl S st sp (cf_gL S sp hd c (s / 256)) c tg wt last x (f + n)) i
theorem cf_ff_some {p : Nat → Bool} {i : Nat} : ∀ {n : Nat}, cf_ff p n = i + 1 → i < n ∧ p i = true ∧ ∀ i', i' < i → p i' = false
  | 0, h => by cases h
  | n + 1, h => by
    by_cases g : ∃ i, i < n + 1 ∧ p i = true
    · obtain ⟨j, h1, h2, h3, h4⟩ := cf_ff_pos g
      have : i = j := by omega
      subst this
      exact ⟨h1, h2, h4⟩
    · rw [cf_ff_zero (fun j hj => by
        cases e : p j with
        | false => rfl
        | true => exact absurd ⟨j, hj, e⟩ g)] at h
      omega
section RXE
variable {L : Nat} {t : List (Nat × Nat)} {hi : Nat → Nat → Int32} {hl : Nat → Nat → Int64} {v : Nat → Nat → Option Nat}
variable {RI : Int32 → (Nat → Nat → Int32) → (Nat → Nat → Int64) → (Nat → Nat → Option Nat) → Prop}
set_option maxRecDepth 100000 in
theorem cf_gn_tl {S : cf_S} {st sp : Nat → Nat → Nat} {sd hd : Nat → Nat → Int64} {c f s tg wt n : Nat} {last : Bool} (h : cf_gn S st sp sd hd c f s tg wt last = n + 1) : cf_tl S (cf_gT S sp hd c (s / 256)) sd c f (s % 256) n (fun x => cf_gl S st sp (cf_gL S sp hd c (s / 256)) c tg wt last x (f + n)) n (s % 256) < 1000000 ∧ n < 401 - f := by
  obtain ⟨h1, h2, _⟩ := cf_ff_some h
  unfold cf_gp at h2
  rw [cf_any_iff] at h2
  obtain ⟨r, hr, h2⟩ := h2
  rw [Bool.and_eq_true] at h2
  obtain ⟨s1, e1, e2⟩ := cf_tl_few (gl := fun x => cf_gl S st sp (cf_gL S sp hd c (s / 256)) c tg wt last x (f + n)) h2.1 h2.2 n (Nat.le_refl _)
  rw [Nat.sub_self] at e1
  have : s1 = s % 256 := of_decide_eq_true e1
  subst this
  exact ⟨by omega, h1⟩
set_option maxRecDepth 100000 in
theorem c165 {S : cf_S} (Z : cf_RM S hi hl) {c tg wt : Nat} {last : Bool} (hc : c < S 0 2) (htg : tg < 64) (hwt : wt ≤ S 0 3)
    (k0 : (cf_fit S (cf_st S) (cf_sp S) (cf_hd S) c (S 4 c) = false ∨ cf_mta (S 0 2) (cf_sd S) (cf_hd S) c (S 4 c) = true ∨ cf_gn S (cf_st S) (cf_sp S) (cf_sd S) (cf_hd S) c (S 4 c) (cf_st S (S 4 c) c) tg wt last = 0) → ∀ hi2 hl2, cf_fP hi hi2 → cf_fPl hl hl2 → cf_RM S hi2 hl2 → RI 0 hi2 hl2 v)
    (k1 : cf_fit S (cf_st S) (cf_sp S) (cf_hd S) c (S 4 c) = true → cf_mta (S 0 2) (cf_sd S) (cf_hd S) c (S 4 c) = false → ∀ n, cf_gn S (cf_st S) (cf_sp S) (cf_sd S) (cf_hd S) c (S 4 c) (cf_st S (S 4 c) c) tg wt last = n + 1 → S 4 c + n ≤ 400 → ∀ hi2 hl2, cf_fP hi hi2 → cf_fPl hl hl2 → cf_RM (cf_app S c n (cf_gm S (cf_st S) (cf_sp S) (cf_sd S) (cf_hd S) c (S 4 c) (cf_st S (S 4 c) c) tg wt last n)) hi2 hl2 → RI 1 hi2 hl2 v) :
    rx_CI L t 165 [.ref 90, .int (nI c), .int (nI tg), .int (oI wt), .int (cf_B last)] hi hl v RI := by
  obtain ⟨V, H, M, K, N⟩ := Z
  have h6 := V.2.2.1
  have h400 := (V.2.2.2.2.2.2.1 c hc).2.2.2.1
  have hC := M.2.2.2.2.2.1 c hc
  have W := cf_RW_NW V N
  have hv := (cf_wv V (S 4 c)).1 c hc
  have h0 : cf_vs (S 0 0) (S 0 1) (cf_two (S 3 c)) (cf_st S (S 4 c) c % 256) := cf_vs_m.mpr hv.1
  have h01 : cf_st S (S 4 c) c % 256 < 256 := by omega
  refine w165_go_r ⟨c, rfl, by omega, ?_⟩
  rw [hC.2.1]
  refine c166 V M W hc (by omega) (fun hl2 F2 K2 => ?_)
  have W2 : cf_RW (S 0 2) (S 0 3) (cf_st S) (cf_sp S) (cf_sd S) (cf_hd S) hi hl2 := by
    refine ⟨fun c hc u hu => ?_, W.2⟩
    obtain ⟨a, b, d, e, f, g⟩ := W.1 c hc u hu
    exact ⟨a, b, d, (F2 105 _ (by omega) (by omega)).trans e, (F2 106 _ (by omega) (by omega)).trans f, g⟩
  have hT : ∀ u, u < 402 → (hl2 90 43 ||| hl2 117 u) ||| hl2 119 u = cf_gT S (cf_sp S) (cf_hd S) c (cf_st S (S 4 c) c / 256) u := by
    intro u hu
    obtain ⟨q1, q2, _, _⟩ := K2.2 u (by omega) hu
    rw [K2.1, q1, q2]; rfl
  have hL : ∀ u, u < 402 → hl2 118 u ||| hl2 120 u = cf_gL S (cf_sp S) (cf_hd S) c (cf_st S (S 4 c) c / 256) u := by
    intro u hu
    obtain ⟨_, _, q3, q4⟩ := K2.2 u (by omega) hu
    rw [q3, q4]; rfl
  have Fl2 : cf_fPl hl hl2 := fun a b q1 q2 q3 q4 => F2 a b q1 q4
  have N2 : cf_NW S hi hl2 := by
    refine ⟨fun c hc => ⟨fun u hu => ?_, (N.1 c hc).2⟩, N.2⟩
    obtain ⟨a, b, d, e, f⟩ := (N.1 c hc).1 u hu
    exact ⟨a, b, d, (F2 105 _ (by omega) (by omega)).trans e, (F2 106 _ (by omega) (by omega)).trans f⟩
  refine c172 V M W2 hT hL hc rfl htg hwt h0 (N := 256) rfl (cf_gp S (cf_st S) (cf_sp S) (cf_sd S) (cf_hd S) c (S 4 c) (cf_st S (S 4 c) c) tg wt last) (fun i => rfl) (fun i s => rfl) (fun h hi3 F3 => ⟨fun g => absurd g (by decide), fun _ => c_retI (k0 h hi3 hl2 (fun a b q1 q2 q3 q4 q5 q6 => F3 a b q1 (fun q => q5 q.1)) Fl2 ?_)⟩) (fun hf hm n hn hg hi3 F3 R3 => ⟨fun _ => ?_, fun g => absurd (nI_le (Nat.zero_le _) (by omega)) g⟩)
  · refine ⟨V, H, cf_M_fy M F3, ⟨(F3 90 35 (by omega) (by omega)).trans K.1, ?_⟩, ?_⟩
    · obtain ⟨nl, e1, e2⟩ := K.2
      exact ⟨nl, (F3 90 36 (by omega) (by omega)).trans e1, e2⟩
    · refine ⟨fun c hc => ⟨fun u hu => ?_, fun u hu => (F3 104 _ (by omega) (by omega)).trans ((N2.1 c hc).2 u hu)⟩, fun s hs u hu => (F3 108 _ (by omega) (by omega)).trans (N2.2 s hs u hu)⟩
      obtain ⟨a, b, d, e, f⟩ := (N2.1 c hc).1 u hu
      exact ⟨(F3 101 _ (by omega) (by omega)).trans a, (F3 102 _ (by omega) (by omega)).trans b, (F3 103 _ (by omega) (by omega)).trans d, e, f⟩
  · have M3 := cf_M_fy M F3
    have W3 := cf_RW_fy W2 F3
    obtain ⟨ht, hn2⟩ := cf_gn_tl hg
    have := g165a (L := L) (t := t) (v := v) V M3 W3 hT hL (n := n) (last := last) hc (by omega) htg hwt ⟨h0, h01⟩ (N := 256) rfl R3 (Q := fun r h2 => ∃ z : Int32, r = some (.int z) ∧ rx_ok2 L t h2 (RI z)) (fun hi4 F4 R4 => ?_) (n + 1) 0 (by omega) hi3 (fun _ _ _ _ => rfl) (fun j' h1 => by omega)
    · rw [show S 4 c + (n + 1 - 0) = S 4 c + n + 1 by omega, cf_oS] at this
      exact this
    have M4 := cf_M_fz M3 F4
    have W4 := cf_RW_fz W3 F4
    obtain ⟨w1, w2, _⟩ := W4.1 c hc (S 4 c) (by omega)
    have hlt : oI (S 4 c) < nI (S 4 c) := by
      rw [cf_lt, cf_oI_toInt (by omega), nI_toInt (by omega)]; omega
    refine w165_go_r_37 ⟨fun _ => ⟨402 * c + S 4 c, cf_402, by omega, 402 * c + S 4 c, cf_402, by omega, ?_⟩, fun g => absurd hlt g⟩
    rw [w1, w2, show (4 : Int32) = nI 4 from rfl, cf_nmul, nI_add, show 4 * (cf_st S (S 4 c) c % 64) + cf_st S (S 4 c) c / 64 % 4 = cf_enc (cf_st S (S 4 c) c % 256) by unfold cf_enc; omega]
    refine g165b V M4 hT (fun c hc u hu => (W4.1 c hc u hu).2.2.2.1) hc (Nat.le_refl _) (by omega) ⟨h0, h01⟩ ht R4 (fun hi5 F5 P5 => ?_) n 0 (by omega) hi4 (fun _ _ _ _ => rfl) (fun i' h1 => by omega)
    refine w165_go_r_184 ⟨fun _ => ⟨c, rfl, by omega, ?_⟩, fun g => absurd (nI_le (Nat.le_refl _) (by omega)) g⟩
    have hpm : ∀ i, i < n → cf_gm S (cf_st S) (cf_sp S) (cf_sd S) (cf_hd S) c (S 4 c) (cf_st S (S 4 c) c) tg wt last n i < 7 := by
      intro i hi0
      have := ((cf_pth_ok (fun i s h => (cf_lr_vs V ⟨h0, h01⟩ i s h).2) ht i (by omega)).2.2 hi0).1
      unfold cf_gm; omega
    have V5 := cf_V_app V (c := c) (n := n) (mv := cf_gm S (cf_st S) (cf_sp S) (cf_sd S) (cf_hd S) c (S 4 c) (cf_st S (S 4 c) c) tg wt last n) (by omega) hpm
    have H5 := cf_H0_app H (c := c) (n := n) (mv := cf_gm S (cf_st S) (cf_sp S) (cf_sd S) (cf_hd S) c (S 4 c) (cf_st S (S 4 c) c) tg wt last n)
    have FA : ∀ a b, ¬ (a = 90 ∧ (b = 33 ∨ b = 34)) → ¬ (a = 94 ∧ b = c) → ¬ (a = 95 ∧ 400 * c + S 4 c ≤ b ∧ b < 400 * (c + 1)) → ¬ a = 115 → ¬ a = 116 → (rx_u hi5 94 c (nI (S 4 c + n))) a b = hi a b := by
      intro a b q1 q2 q3 q4 q5
      rw [cf_ru_ne q2, F5 a b q1 q3, F4 a b q1 q5, F3 a b q1 (fun q => q4 q.1)]
    have M5 : cf_M (cf_app S c n (cf_gm S (cf_st S) (cf_sp S) (cf_sd S) (cf_hd S) c (S 4 c) (cf_st S (S 4 c) c) tg wt last n)) (rx_u hi5 94 c (nI (S 4 c + n))) :=
      cf_M_app V M hc (by omega) FA cf_ru_eq (fun i hi0 => by rw [cf_ru_ne (by omega)]; exact P5 i hi0)
    have K5 : cf_ck (rx_u hi5 94 c (nI (S 4 c + n))) := by
      obtain ⟨nl, e1, e2⟩ := K.2
      exact ⟨(FA 90 35 (by omega) (by omega) (by omega) (by omega) (by omega)).trans K.1, nl, (FA 90 36 (by omega) (by omega) (by omega) (by omega) (by omega)).trans e1, e2⟩
    refine c191w V5 H5 M5 K5 (fun hi6 hl6 F6 Fl6 M6 K6 N6 => c_retI (k1 hf hm n hg (by omega) hi6 hl6 (fun a b q1 q2 q3 q4 q5 q6 => ?_) (fun a b q1 q2 q3 q4 => (Fl6 a b q2 q3).trans (Fl2 a b q1 q2 q3 q4)) ⟨V5, H5, M6, K6, N6⟩))
    rw [F6 a b q1 q3 q4]
    exact FA a b q1 (by omega) (by omega) q5 q6
end RXE
