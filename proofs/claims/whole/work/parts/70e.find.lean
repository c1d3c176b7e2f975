/-! Planner.act, find. -/
def cf_kc (a b : Nat) : Prop := 16 ≤ a ∧ a < 52 ∧ ((a - 16) % 6 = 2 ∨ ((a - 16) % 6 = 0 ∧ (b = 13 ∨ b = 14)))
/-- what stands in the ways is what stood there, or a MOVE -/
def cf_wb (hi hi2 : Nat → Nat → Int32) : Prop := ∀ c, c < 6 → ∀ b, hi2 (rx_ct c + 1) b = hi (rx_ct c + 1) b ∨ ∃ m, m < 7 ∧ hi2 (rx_ct c + 1) b = nI m
theorem cf_wb_t {hi hi2 hi3 : Nat → Nat → Int32} (h1 : cf_wb hi hi2) (h2 : cf_wb hi2 hi3) : cf_wb hi hi3 := by
  intro c hc b
  rcases h2 c hc b with q | q
  · rcases h1 c hc b with z | z
    · exact Or.inl (q.trans z)
    · rw [q]; exact Or.inr z
  · exact Or.inr q
/-- what planning leaves alone in the class -/
def cf_fC (hi hi2 : Nat → Nat → Int32) (hl hl2 : Nat → Nat → Int64) : Prop := (∀ a b, (a < 13 ∨ a = 76 ∨ 84 ≤ a ∨ cf_kc a b) → hi2 a b = hi a b) ∧ (∀ a b, (a < 16 ∨ a = 76 ∨ 84 ≤ a) → hl2 a b = hl a b) ∧ cf_wb hi hi2
theorem cf_fC_t {hi hi2 hi3 : Nat → Nat → Int32} {hl hl2 hl3 : Nat → Nat → Int64} (h1 : cf_fC hi hi2 hl hl2) (h2 : cf_fC hi2 hi3 hl2 hl3) : cf_fC hi hi3 hl hl3 := ⟨fun a b q => (h2.1 a b q).trans (h1.1 a b q), fun a b q => (h2.2.1 a b q).trans (h1.2.1 a b q), cf_wb_t h1.2.2 h2.2.2⟩
theorem cf_fC_r {hi : Nat → Nat → Int32} {hl : Nat → Nat → Int64} : cf_fC hi hi hl hl := ⟨fun _ _ _ => rfl, fun _ _ _ => rfl, fun _ _ _ => Or.inl rfl⟩
/-- of a search -/
theorem cf_fC_s {hi hi2 : Nat → Nat → Int32} {hl hl2 : Nat → Nat → Int64} {c f n : Nat} (F : ∀ a b, ¬ (77 ≤ a ∧ a ≤ 83) → ¬ (a = rx_ct c + 1 ∧ f ≤ b ∧ b < f + n) → hi2 a b = hi a b) (Fl : ∀ a b, ¬ (77 ≤ a ∧ a ≤ 83) → hl2 a b = hl a b) (hc : c < 6) (hm : ∀ i, i < n → ∃ m, m < 7 ∧ hi2 (rx_ct c + 1) (f + i) = nI m) : cf_fC hi hi2 hl hl2 := by
  refine ⟨fun a b q => F a b (by unfold cf_kc at q; omega) (by unfold cf_kc at q; unfold rx_ct; omega), fun a b q => Fl a b (by omega), fun c' hc' b => ?_⟩
  by_cases e : c' = c ∧ f ≤ b ∧ b < f + n
  · obtain ⟨rfl, h1, h2⟩ := e
    obtain ⟨m, h3, h4⟩ := hm (b - f) (by omega)
    rw [show f + (b - f) = b by omega] at h4
    exact Or.inr ⟨m, h3, h4⟩
  · exact Or.inl (F _ _ (by unfold rx_ct; omega) (by unfold rx_ct; omega))
def cf_fv (v v2 : Nat → Nat → Option Nat) : Prop := ∀ a b, ¬ (a = 77 ∧ b = 8) → v2 a b = v a b
theorem cf_fv_t {v v2 v3 : Nat → Nat → Option Nat} (h1 : cf_fv v v2) (h2 : cf_fv v2 v3) : cf_fv v v3 := fun a b q => (h2 a b q).trans (h1 a b q)
theorem cf_fv_u {v : Nat → Nat → Option Nat} {x : Option Nat} : cf_fv v (rx_u v 77 8 x) := fun a b q => cf_ru_ne q
theorem cf_fr_fC {hi hi2 : Nat → Nat → Int32} {hl hl2 : Nat → Nat → Int64} (F : cf_fr hi hi2 hl hl2) : cf_fC hi hi2 hl hl2 := by
  refine ⟨fun a b q => F.1 a b ?_, fun a b q => F.2 a b ?_, fun c hc b => Or.inl (F.1 _ _ ?_)⟩
  · unfold cf_rw; unfold cf_kc at q; omega
  · unfold cf_rwl; omega
  · unfold cf_rw rx_ct; omega
/-- the class's numbers for a longer way -/
theorem cf_X_way {S S' : cf_S} {c : Nat} {hi hi2 : Nat → Nat → Int32} {hl hl2 : Nat → Nat → Int64} (X : cf_X S hi hl) (V' : cf_V S') (hc : c < S 0 2) (B : ∀ a b, ¬ (a = 4 ∧ b = c) → ¬ a = 20 + c → ¬ (a = 7 ∧ b = c) → S' a b = S a b)
    (F : ∀ a b, ¬ (77 ≤ a ∧ a ≤ 83) → ¬ (a = rx_ct c + 1 ∧ S 4 c ≤ b) → ¬ (a = rx_ct c ∧ (b = 7 ∨ b = 11)) → hi2 a b = hi a b) (Fl : ∀ a b, ¬ (77 ≤ a ∧ a ≤ 83) → hl2 a b = hl a b)
    (h4 : hi2 (rx_ct c) 7 = nI (S' 4 c)) (h7 : hi2 (rx_ct c) 11 = nI (S' 7 c)) (hw1 : ∀ u, u < S 4 c → S' (20 + c) u = S (20 + c) u) (hw2 : ∀ u, S 4 c ≤ u → u < S' 4 c → hi2 (rx_ct c + 1) u = nI (S' (20 + c) u)) : cf_X S' hi2 hl2 := by
  obtain ⟨V, K1, K2, K3, C, G1, G2, Bb⟩ := X
  have h6 := V.2.2.1
  have h12 := V.2.2.2.1
  have f0 : ∀ a b, a < 16 → hi2 a b = hi a b := fun a b h => F a b (by omega) (by unfold rx_ct; omega) (by unfold rx_ct; omega)
  have e0 : ∀ b, S' 0 b = S 0 b := fun b => B 0 b (by omega) (by omega) (by omega)
  have e1 : ∀ b, S' 1 b = S 1 b := fun b => B 1 b (by omega) (by omega) (by omega)
  have e2 : ∀ b, S' 2 b = S 2 b := fun b => B 2 b (by omega) (by omega) (by omega)
  refine ⟨V', ?_, ?_, ?_, ?_, fun q hq => by rw [e1]; exact (f0 8 q (by omega)).trans (G1 q hq), fun q hq => by rw [e2]; exact (f0 9 q (by omega)).trans (G2 q hq), ?_⟩
  · rw [e0, e0]
    obtain ⟨a1, a2, a3, a4, a5, a6⟩ := K1
    exact ⟨a1, a2, a3, a4, (f0 7 0 (by omega)).trans a5, (f0 7 1 (by omega)).trans a6⟩
  · rw [e0, e0]
    exact cf_K2_eq K2 (fun b => f0 10 b (by omega)) (fun b => Fl 11 b (by omega)) (fun b => Fl 12 b (by omega))
  · rw [e0, e0]
    intro q hq
    rw [Fl 7 2 (by omega), Fl 7 3 (by omega), Fl 7 4 (by omega)]
    exact K3 q hq
  · obtain ⟨c1, c2, c3, c4⟩ := C
    refine ⟨by rw [e0]; exact (f0 13 3 (by omega)).trans c1, by rw [e0]; exact (f0 13 4 (by omega)).trans c2, fun o ho => ?_, fun s hs => ?_⟩
    · rw [e0] at ho
      obtain ⟨d1, d2, d3, d4, d5, d6, d7, d8⟩ := c3 o ho
      have ff : ∀ j, ¬ j = 7 → ¬ j = 11 → hi2 (rx_ct o) j = hi (rx_ct o) j := fun j q1 q2 => F _ _ (by unfold rx_ct; omega) (by unfold rx_ct; omega) (by omega)
      rw [B 3 o (by omega) (by omega) (by omega), B 9 o (by omega) (by omega) (by omega), B 5 o (by omega) (by omega) (by omega), B 6 o (by omega) (by omega) (by omega), B 8 o (by omega) (by omega) (by omega)]
      refine ⟨(ff 5 (by omega) (by omega)).trans d1, (ff 6 (by omega) (by omega)).trans d2, ?_, (ff 8 (by omega) (by omega)).trans d4, (ff 9 (by omega) (by omega)).trans d5, (ff 10 (by omega) (by omega)).trans d6, ?_, fun u hu => ?_⟩
      · by_cases e : o = c
        · subst e; exact h4
        · rw [B 4 o (by omega) (by omega) (by omega), F _ _ (by unfold rx_ct; omega) (by unfold rx_ct; omega) (by unfold rx_ct; omega)]; exact d3
      · by_cases e : o = c
        · subst e; exact h7
        · rw [B 7 o (by omega) (by omega) (by omega), F _ _ (by unfold rx_ct; omega) (by unfold rx_ct; omega) (by unfold rx_ct; omega)]; exact d7
      · by_cases e : o = c
        · subst e
          rcases Nat.lt_or_ge u (S 4 o) with q | q
          · rw [hw1 u q, F _ _ (by unfold rx_ct; omega) (by omega) (by unfold rx_ct; omega)]; exact d8 u q
          · exact hw2 u q hu
        · rw [B 4 o (by omega) (by omega) (by omega)] at hu
          rw [B (20 + o) u (by omega) (by omega) (by omega), F _ _ (by unfold rx_ct; omega) (by unfold rx_ct; omega) (by unfold rx_ct; omega)]; exact d8 u hu
    · rw [e0] at hs
      rw [B 12 s (by omega) (by omega) (by omega), F _ _ (by unfold rx_sf; omega) (by unfold rx_sf rx_ct; omega) (by unfold rx_sf rx_ct; omega)]; exact c4 s hs
  · rw [Fl 7 10 (by omega), Bb]
    unfold cf_bar
    rw [e0, e0]
    refine cf_un_eq (fun q _ => ?_)
    unfold cf_isb
    rw [e0, e1, e2]
section RXE
variable {L : Nat} {t : List (Nat × Nat)}
variable {RI : Int32 → (Nat → Nat → Int32) → (Nat → Nat → Int64) → (Nat → Nat → Option Nat) → Prop}
theorem c83 {hi : Nat → Nat → Int32} {hl : Nat → Nat → Int64} {v : Nat → Nat → Option Nat} {S : cf_S} (X : cf_XR S hi hl) {c m u z : Nat} (hc : c < S 0 2) (hm : m = 5 ∨ m = 6) (hu : u ≤ 400) (hz : cf_vs (S 0 0) (S 0 1) (cf_two (S 3 c)) z) (hz2 : z / 256 ≤ S 0 3) (e13 : hi 77 13 = nI z)
    (k0 : (400 ≤ u ∨ cf_aft (S 0 0) (S 0 1) (S 1) (S 3 c) z m (S 6 c) = none ∨ ∃ r, cf_aft (S 0 0) (S 0 1) (S 1) (S 3 c) z m (S 6 c) = some r ∧ ¬ (cf_std (S 0 0) (S 0 1) (cf_two (S 3 c)) r &&& cf_blk S c (r / 256) (u + 1)) = 0) → RI (-1) hi hl v)
    (k1 : u < 400 → ∀ r, cf_aft (S 0 0) (S 0 1) (S 1) (S 3 c) z m (S 6 c) = some r → (cf_std (S 0 0) (S 0 1) (cf_two (S 3 c)) r &&& cf_blk S c (r / 256) (u + 1)) = 0 → RI (nI (u + 1)) (rx_u (rx_u hi (rx_ct c + 1) u (nI m)) 77 13 (nI r)) hl v) :
    rx_CI L t 83 [.ref 76, .ref (rx_ct c), .int (nI m), .int (nI u)] hi hl v RI := by
  have V := X.1.1
  have h6 := V.2.2.1
  have h12 := V.2.2.2.1
  obtain ⟨hkd, _, _, _, _, v6, _⟩ := V.2.2.2.2.2.2.1 c hc
  have hC := X.1.2.2.2.2.1.2.2.1 c hc
  have hg : ∀ q, q < 64 → hi 8 q = nI (S 1 q) ∧ S 1 q < 4 := fun q hq => ⟨X.1.2.2.2.2.2.1 q hq, V.2.2.2.2.1 q⟩
  refine w83_act (by omega) ?_
  rw [hC.1, e13, hC.2.2.2.2.1]
  refine c49 X.1.2.1 X.1.2.2.1 hg hkd hz (by omega) (by omega) (by omega) ⟨fun g => c_retI (k0 (Or.inl ?_)), fun g => ⟨fun g2 => ?_, fun g2 => c_retI (k0 (Or.inr (Or.inl ?_)))⟩⟩
  · rw [show (400 : Int32) = nI 400 from rfl, nI_leI (by decide) (by omega)] at g; exact g
  · rw [show (400 : Int32) = nI 400 from rfl, nI_leI (by decide) (by omega)] at g
    cases e : cf_aft (S 0 0) (S 0 1) (S 1) (S 3 c) z m (S 6 c) with
    | none => rw [e] at g2; exact absurd g2 (show ¬ (0 : Int32) ≤ -1 by decide)
    | some r =>
      have hvr := cf_aft_vs (M := S 0 3) (cf_V_wh V) hz (by omega) hz2 v6 e
      show rx_CI L t 48 [.int (nI r)] hi hl v _
      refine c48 (by omega) ?_
      rw [nI_1]
      refine c66 X hc (by omega) (by omega) ?_
      rw [hC.1]
      refine c42 X.1.2.1 X.1.2.2.1 hkd hvr.1.1 ⟨fun g3 => ⟨u, rfl, by omega, c_retI ?_⟩, fun g3 => c_retI (k0 (Or.inr (Or.inr ⟨r, e, ?_⟩)))⟩
      · rw [cf_cmp0] at g3
        rw [cf_nar8 (by omega)]
        exact k1 (by omega) r e g3
      · rw [cf_cmp0] at g3; exact g3
  · cases e : cf_aft (S 0 0) (S 0 1) (S 1) (S 3 c) z m (S 6 c) with
    | none => rfl
    | some r =>
      have hvr := cf_aft_vs (M := S 0 3) (cf_V_wh V) hz (by omega) hz2 v6 e
      rw [e] at g2
      exact absurd (nI_pos' (show r < 2 ^ 31 by omega)) g2
/-- the end of find: the plan is taken -/
theorem f63 {hi hi4 : Nat → Nat → Int32} {hl hl4 : Nat → Nat → Int64} {v v4 : Nat → Nat → Option Nat} {S S3 : cf_S} (X : cf_XR S hi4 hl4) {c : Nat} (hc : c < S 0 2) (G3 : cf_lg S c S3) (V3 : cf_V S3) (F : cf_fC hi hi4 hl hl4) (Fv : cf_fv v v4)
    (hw : ∀ u, S 4 c ≤ u → u < S3 4 c → hi4 (rx_ct c + 1) u = nI (S3 (20 + c) u))
    (k : ∀ hi2 hl2 v2, cf_fC hi hi2 hl hl2 → cf_fv v v2 → cf_XR (cf_pd S3 c) hi2 hl2 → RI 1 hi2 hl2 v2) :
    rx_CV L t 41 [.ref 13] (rx_u (rx_u hi4 (rx_ct c) 7 (nI (S3 4 c))) (rx_ct c) 11 1) hl4 v4 (fun hi7 hl7 v7 => ∃ z : Int32, some (Value.int 1) = some (.int z) ∧ rx_ok2 L t (rx_hp L t hi7 hl7 v7) (RI z)) := by
  have V := X.1.1
  have h6 := V.2.2.1
  have X3 : cf_X (cf_pd S3 c) (rx_u (rx_u hi4 (rx_ct c) 7 (nI (S3 4 c))) (rx_ct c) 11 1) hl4 := by
    have B := cf_bc_lg G3
    refine cf_X_way (c := c) X.1 (cf_V_pd V3 c) hc (fun a b q1 q2 q3 => ?_) (fun a b q1 q2 q3 => ?_) (fun _ _ _ => rfl) ?_ ?_ (fun u hu => ?_) (fun u h1 h2 => ?_)
    · unfold cf_pd
      rw [if_neg q3]
      by_cases e7 : a = 7
      · subst e7
        exact cf_lg_e G3 (by omega) (by omega)
      · by_cases e8 : a = 8
        · subst e8; exact cf_lg_e G3 (by omega) (by omega)
        · exact B a b q1 q2 e7 e8
    · rw [cf_ru_ne (by omega), cf_ru_ne (by omega)]
    · rw [cf_ru_ne (by omega), cf_ru_eq, cf_pd_r (by omega)]
    · rw [cf_ru_eq]; unfold cf_pd; rw [if_pos ⟨rfl, rfl⟩]; rfl
    · rw [cf_pd_r (by omega)]
      obtain ⟨n, mv, rfl⟩ := G3
      rw [cf_app_w, if_pos hu]
    · rw [cf_pd_r (by omega)] at h2
      rw [cf_pd_r (by omega), cf_ru_ne (by omega), cf_ru_ne (by omega)]
      exact hw u h1 h2
  refine c41 X3 (fun hi2 hl2 F2 R2 => c_retI (k hi2 hl2 v4 (cf_fC_t F (cf_fC_t ?_ (cf_fr_fC F2))) Fv ⟨cf_X_fr X3 F2, R2⟩))
  refine ⟨fun a b q => ?_, fun _ _ _ => rfl, fun c' hc' b => Or.inl ?_⟩
  · unfold cf_kc at q
    rw [cf_ru_ne (by unfold rx_ct; omega), cf_ru_ne (by unfold rx_ct; omega)]
  · rw [cf_ru_ne (by unfold rx_ct; omega), cf_ru_ne (by unfold rx_ct; omega)]
theorem cf_pth_bc {S S' : cf_S} {c : Nat} (V : cf_V S) (G : cf_G S) (V' : cf_V S') (G' : cf_G S') (B : cf_bc S S' c) (hc : c < S 0 2) {f s tg n i : Nat} {last : Bool} (hl : s / 256 = 0 ∨ s / 256 = cf_own S c) : cf_pth S' (cf_gT S' (cf_sp S') (cf_hd S') c (s / 256)) (cf_sd S') c f (s % 256) n (fun x => cf_gl S' (cf_st S') (cf_sp S') (cf_gL S' (cf_sp S') (cf_hd S') c (s / 256)) c tg 0 last x (f + n)) i = cf_pth S (cf_gT S (cf_sp S) (cf_hd S) c (s / 256)) (cf_sd S) c f (s % 256) n (fun x => cf_gl S (cf_st S) (cf_sp S) (cf_gL S (cf_sp S) (cf_hd S) c (s / 256)) c tg 0 last x (f + n)) i := by
  rw [cf_bc_gT V G V' G' B hc hl, cf_bc_gL V G V' G' B hc hl, cf_pth_cong (cf_bc_may V G V' G' B _) (B 3 c (by omega) (by omega) (by omega) (by omega))]
  congr 1
  funext x
  exact cf_bc_gl B (cf_st S) (cf_sp S) _ _ _ _ _ _ _
theorem cf_gT_sq {S : cf_S} (V : cf_V S) {c l u o : Nat} (ho : o < S 0 2) (hne : ¬ o = c) : cf_has (cf_gT S (cf_sp S) (cf_hd S) c l u) (cf_st S u o % 64) = true := cf_gT_hd ho hne (cf_sd_hd (cf_sd_sq V ho))
theorem cf_gL_sq {S : cf_S} (V : cf_V S) {c l u u' o : Nat} (ho : o < S 0 2) (hne : ¬ o = c) (h1 : u ≤ u') (h2 : u' < 402) : cf_has (cf_gL S (cf_sp S) (cf_hd S) c l u) (cf_st S u' o % 64) = true := by
  rw [cf_gL_has (by omega)]
  refine ⟨u', h1, h2, Or.inl ?_⟩
  unfold cf_othg
  rw [cf_has_un]
  exact cf_any_true ho (by rw [if_neg hne]; exact cf_sd_hd (cf_sd_sq V ho))
/-- the last leg, out of a longer way S1 -/
theorem g63 {hi hi1 : Nat → Nat → Int32} {hl hl1 : Nat → Nat → Int64} {v v1 : Nat → Nat → Option Nat} {S S1 : cf_S} (X : cf_XR S hi1 hl1) (G : cf_G S) {c : Nat} (hc : c < S 0 2) (h5 : 0 < S 5 c) (G1 : cf_lg S c S1) (V1 : cf_V S1) (Gd1 : cf_G S1) (nd : ¬ cf_dn S1 c) (F : cf_fC hi hi1 hl hl1) (Fv : cf_fv v v1) (h2S : cf_two (S 3 c) = true → S1 = S)
    (hw : ∀ u, S 4 c ≤ u → u < S1 4 c → hi1 (rx_ct c + 1) u = nI (S1 (20 + c) u)) (ns : S1 4 c = 0 ∨ ∀ o, o < S1 0 2 → ¬ o = c → cf_swap (cf_sd S1 (S1 4 c - 1) c) (cf_sd S1 (S1 4 c) c) (cf_sd S1 (S1 4 c - 1) o) (cf_sd S1 (S1 4 c) o) = false)
    (k0 : (cf_go1 S1 c (S 5 c - 1) 0 true).bind (fun S3 => if S 6 c = 0 then some S3 else cf_do1 S3 c 6) = none → ∀ hi2 hl2 v2, cf_fC hi hi2 hl hl2 → cf_fv v v2 → cf_XR S hi2 hl2 → RI 0 hi2 hl2 v2)
    (k1 : ∀ S4, (cf_go1 S1 c (S 5 c - 1) 0 true).bind (fun S3 => if S 6 c = 0 then some S3 else cf_do1 S3 c 6) = some S4 → cf_V S4 → cf_G S4 → cf_lg S c S4 → ∀ hi2 hl2 v2, cf_fC hi hi2 hl hl2 → cf_fv v v2 → cf_XR (cf_pd S4 c) hi2 hl2 → RI 1 hi2 hl2 v2) :
    rx_CI L t 64 [.ref 77, .ref (rx_ct c), .int (nI (cf_ds S1 c (S1 4 c))), .int (nI (S1 4 c)), .int (hi1 (rx_ct c) 8), .int (-1), .int 1] hi1 hl1 v1 (fun z4 hi4 hl4 v4 => ((z4 < 0 → ((0 ≤ z4 → rx_CV L t 41 [.ref 13] (rx_u (rx_u hi4 (rx_ct c) 7 z4) (rx_ct c) 11 1) hl4 v4 (fun hi7 hl7 v7 => ∃ z : Int32, some (Value.int 1) = some (.int z) ∧ rx_ok2 L t (rx_hp L t hi7 hl7 v7) (RI z))) ∧ (¬ (0 ≤ z4) → ∃ z : Int32, some (Value.int 0) = some (.int z) ∧ rx_ok2 L t (rx_hp L t hi4 hl4 v4) (RI z)))) ∧ (¬ (z4 < 0) → (((hi4 (rx_ct c) 9) < 0 → ((0 ≤ z4 → rx_CV L t 41 [.ref 13] (rx_u (rx_u hi4 (rx_ct c) 7 z4) (rx_ct c) 11 1) hl4 v4 (fun hi7 hl7 v7 => ∃ z : Int32, some (Value.int 1) = some (.int z) ∧ rx_ok2 L t (rx_hp L t hi7 hl7 v7) (RI z))) ∧ (¬ (0 ≤ z4) → ∃ z : Int32, some (Value.int 0) = some (.int z) ∧ rx_ok2 L t (rx_hp L t hi4 hl4 v4) (RI z)))) ∧ (¬ ((hi4 (rx_ct c) 9) < 0) → rx_CI L t 83 [.ref 76, .ref (rx_ct c), .int 6, .int z4] hi4 hl4 v4 (fun z11 hi11 hl11 v11 => ((0 ≤ z11 → rx_CV L t 41 [.ref 13] (rx_u (rx_u hi11 (rx_ct c) 7 z11) (rx_ct c) 11 1) hl11 v11 (fun hi7 hl7 v7 => ∃ z : Int32, some (Value.int 1) = some (.int z) ∧ rx_ok2 L t (rx_hp L t hi7 hl7 v7) (RI z))) ∧ (¬ (0 ≤ z11) → ∃ z : Int32, some (Value.int 0) = some (.int z) ∧ rx_ok2 L t (rx_hp L t hi11 hl11 v11) (RI z)))))))) ) := by
  have V := X.1.1
  have h6 := V.2.2.1
  have h12 := V.2.2.2.1
  have hwh := cf_V_wh V
  obtain ⟨hkd, _, _, _, v5, v6, _⟩ := V.2.2.2.2.2.2.1 c hc
  have hC := X.1.2.2.2.2.1.2.2.1 c hc
  have B := cf_bc_lg G1
  have hc1 : c < S1 0 2 := by rw [cf_bc_n B]; exact hc
  have h400 := (V1.2.2.2.2.2.2.1 c hc1).2.2.2.1
  have hge : S 4 c ≤ S1 4 c := by obtain ⟨n, mv, rfl⟩ := G1; rw [cf_app_4]; omega
  have hv1 := cf_ds_v V1 Gd1 hc1 (S1 4 c)
  have e0 : S1 0 0 = S 0 0 := B 0 0 (by omega) (by omega) (by omega) (by omega)
  have e1 : S1 0 1 = S 0 1 := B 0 1 (by omega) (by omega) (by omega) (by omega)
  have e3 : S1 3 c = S 3 c := B 3 c (by omega) (by omega) (by omega) (by omega)
  have hst1 : cf_st S1 (S1 4 c) c = cf_ds S1 c (S1 4 c) := cf_dec_st V1 Gd1 hc1
  have hown : cf_ds S1 c (S1 4 c) / 256 = 0 ∨ cf_ds S1 c (S1 4 c) / 256 = cf_own S c := by have := hv1.2; rw [cf_bc_own B] at this; exact this
  have hz2 : cf_ds S1 c (S1 4 c) / 256 ≤ S 0 3 := by
    have := ((cf_wv V1 (S1 4 c)).1 c hc1).2
    rw [hst1, cf_bc_m B] at this; exact this
  have hzv : cf_vs (S 0 0) (S 0 1) (cf_two (S 3 c)) (cf_ds S1 c (S1 4 c)) := by have := hv1.1; rw [e0, e1, e3] at this; exact this
  -- the test of the start
  have hstart := cf_start V1 hc1 ns
  rw [hst1, e0, e1, e3] at hstart
  have hst2 : ((cf_std (S 0 0) (S 0 1) (cf_two (S 3 c)) (cf_ds S1 c (S1 4 c)) ||| (bif cf_two (S 3 c) then cf_hd S (S1 4 c) c else 0)) &&& cf_blk S c (cf_ds S1 c (S1 4 c) / 256) (S1 4 c)) = 0 ↔ cf_fit S1 (cf_st S1) (cf_sp S1) (cf_hd S1) c (S1 4 c) = true ∧ cf_mta (S1 0 2) (cf_sd S1) (cf_hd S1) c (S1 4 c) = false := by
    rw [← hstart, cf_bc_blk V G V1 Gd1 B hc hown]
    cases h2 : cf_two (S 3 c) with
    | false => rfl
    | true => rw [h2S h2]
  have egn : cf_gn S1 (cf_st S1) (cf_sp S1) (cf_sd S1) (cf_hd S1) c (S1 4 c) (cf_st S1 (S1 4 c) c) (S 5 c - 1) 0 true = cf_gn S (cf_st S) (cf_sp S) (cf_sd S) (cf_hd S) c (S1 4 c) (cf_ds S1 c (S1 4 c)) (S 5 c - 1) 0 true := by
    rw [hst1]; exact cf_gn_bc V G V1 Gd1 B hc hown
  obtain ⟨p, hp⟩ : ∃ p, S 5 c = p + 1 := ⟨S 5 c - 1, by omega⟩
  have e8 : hi1 (rx_ct c) 8 = nI (S 5 c - 1) := by rw [hC.2.2.2.1, hp, cf_oS, Nat.add_sub_cancel]
  rw [e8]
  refine c64 (wt := 0) (last := true) X hc hge h400 hzv hz2 (by omega) (Nat.zero_le _) (fun h2 => by rw [h2S h2]) (fun h hi2 hl2 F2 Fl2 => ⟨fun _ => ⟨fun g => absurd g (by decide), fun _ => c_retI (k0 ?_ hi2 hl2 _ (cf_fC_t F (cf_fC_s (c := 0) (f := 0) (n := 0) (fun a b q1 q2 => F2 a b q1) Fl2 (by decide) (fun i hi => by omega))) (cf_fv_t Fv cf_fv_u) (cf_XR_fs (c := 0) (by decide) X (fun a b q1 q2 => F2 a b q1) Fl2))⟩, fun g => absurd (by decide) g⟩) (fun hst n hn hi2 hl2 F2 Fl2 W2 e13 => ?_)
  · have : cf_go1 S1 c (S 5 c - 1) 0 true = none := by
      unfold cf_go1
      rw [if_neg]
      rintro ⟨q1, q2, q3⟩
      rcases h with h | h
      · exact h (hst2.mpr ⟨q1, q2⟩)
      · rw [egn, h] at q3; omega
    rw [this]; rfl
  · have hgo : cf_go1 S1 c (S 5 c - 1) 0 true = some (cf_app S1 c n (cf_gm S1 (cf_st S1) (cf_sp S1) (cf_sd S1) (cf_hd S1) c (S1 4 c) (cf_st S1 (S1 4 c) c) (S 5 c - 1) 0 true n)) := by
      obtain ⟨q1, q2⟩ := hst2.mp hst
      unfold cf_go1
      rw [if_pos ⟨q1, q2, by rw [egn, hn]; omega⟩, egn, hn, Nat.add_sub_cancel]
    obtain ⟨n', sg, hn', hS3, hb, V3, Gd3, nd3, hsg, hds, hmy, htg, hgood⟩ := cf_go1_some V1 Gd1 hc1 nd hgo
    have : n' = n := by rw [egn, hn] at hn'; omega
    subst this
    generalize hS3e : cf_app S1 c n' (cf_gm S1 (cf_st S1) (cf_sp S1) (cf_sd S1) (cf_hd S1) c (S1 4 c) (cf_st S1 (S1 4 c) c) (S 5 c - 1) 0 true n') = S3 at *
    have G3 : cf_lg S c S3 := by rw [← hS3e]; exact cf_lg_a G1 _ _
    have e4 : S3 4 c = S1 4 c + n' := by rw [← hS3e, cf_app_4]
    have hX2 : cf_XR S hi2 hl2 := cf_XR_fs (c := c) (by omega) X (fun a b q1 q2 => F2 a b q1 (fun q => q2 ⟨q.1, by omega⟩)) Fl2
    have FC2 : cf_fC hi hi2 hl hl2 := cf_fC_t F (cf_fC_s F2 Fl2 (by omega) (fun i hi => ⟨_, by have := (hmy i hi).2; rw [hst1, cf_gm_bc V G V1 Gd1 B hc hown] at this; omega, W2 i hi⟩))
    have Fv2 := cf_fv_t Fv (cf_fv_u (v := v1) (x := some (rx_ct c)))
    have hw3 : ∀ u, S 4 c ≤ u → u < S3 4 c → hi2 (rx_ct c + 1) u = nI (S3 (20 + c) u) := by
      intro u h1 h2
      rw [e4] at h2
      rcases Nat.lt_or_ge u (S1 4 c) with q | q
      · rw [← hS3e, cf_app_w, if_pos q, F2 _ _ (by unfold rx_ct; omega) (by omega)]; exact hw u h1 q
      · obtain ⟨i, rfl⟩ : ∃ i, u = S1 4 c + i := ⟨u - S1 4 c, by omega⟩
        rw [← hS3e, cf_app_w, if_neg (by omega), show S1 4 c + i - S1 4 c = i by omega, W2 i (by omega), hst1, cf_gm_bc V G V1 Gd1 B hc hown]
    have hdsn := (hds n' (Nat.le_refl _)).1
    have e13' : hi2 77 13 = nI (cf_ds S3 c (S3 4 c)) := by
      rw [e13, e4, hdsn, hsg, hst1]
      congr 2
      exact (cf_pth_bc V G V1 Gd1 B hc hown).symm
    refine ⟨fun g => absurd g (nI_pos (by omega)), fun _ => ⟨fun g => ⟨fun _ => ?_, fun g2 => absurd (nI_pos' (by omega)) g2⟩, fun g => ?_⟩⟩
    · have h60 : S 6 c = 0 := by rw [(hX2.1.2.2.2.2.1.2.2.1 c hc).2.2.2.2.1, cf_oneg (by omega)] at g; exact g
      rw [← e4]
      refine f63 hX2 hc G3 V3 FC2 Fv2 hw3 (k1 S3 ?_ V3 Gd3 G3)
      rw [hgo]; show (if S 6 c = 0 then some S3 else _) = _; rw [if_pos h60]
    · have h60 : ¬ S 6 c = 0 := by rw [(hX2.1.2.2.2.2.1.2.2.1 c hc).2.2.2.2.1, cf_oneg (by omega)] at g; exact g
      have hc3 : c < S3 0 2 := by rw [cf_lg_e G3 (by omega) (by omega)]; exact hc
      have B3 := cf_bc_lg G3
      have hv3 := cf_ds_v V3 Gd3 hc3 (S3 4 c)
      have hzv3 : cf_vs (S 0 0) (S 0 1) (cf_two (S 3 c)) (cf_ds S3 c (S3 4 c)) := by
        have := hv3.1
        rw [B3 0 0 (by omega) (by omega) (by omega) (by omega), B3 0 1 (by omega) (by omega) (by omega) (by omega), B3 3 c (by omega) (by omega) (by omega) (by omega)] at this
        exact this
      have hz3 : cf_ds S3 c (S3 4 c) / 256 ≤ S 0 3 := by
        have := ((cf_wv V3 (S3 4 c)).1 c hc3).2
        rw [cf_dec_st V3 Gd3 hc3, cf_bc_m B3] at this; exact this
      have hk1 : S 3 c = 1 := (G.2.2.1 c hc).1 (by rw [cf_own6 G hc h60]; exact h60)
      have bindn : cf_do1 S3 c 6 = none → (cf_go1 S1 c (S 5 c - 1) 0 true).bind (fun S3 => if S 6 c = 0 then some S3 else cf_do1 S3 c 6) = none := by
        intro h
        rw [hgo]; show (if S 6 c = 0 then some S3 else cf_do1 S3 c 6) = none; rw [if_neg h60, h]
      -- for good
      have hf6 : 6 = 6 → ∀ o u, o < S 0 2 → ¬ o = c → S3 4 c < u → u < 402 → ¬ cf_ds S o u % 64 = cf_ds S3 c (S3 4 c) % 64 := by
        intro _ o u ho hne hu1 hu2 q
        have hg := hgood rfl
        have ho1 : o < S1 0 2 := by rw [cf_bc_n B]; exact ho
        have hL := cf_gL_sq V1 (c := c) (l := cf_st S1 (S1 4 c) c / 256) (u := S1 4 c + n') (u' := u) ho1 hne (by omega) hu2
        rw [cf_dec_st V1 Gd1 ho1, cf_bc_ds B hne, q, e4, hdsn] at hL
        have hk2 : cf_two (S1 3 c) = false := by rw [e3, hk1]; rfl
        rw [hk2] at hg
        exact cf_dj.mp hg (sg n' % 64) (cf_std1.mpr rfl) (by rw [← hL]; congr 1; have := (hds n' (Nat.le_refl _)).2.1; omega)
      rw [← e4]
      refine c83 (m := 6) (u := S3 4 c) hX2 hc (Or.inr rfl) (by omega) hzv3 hz3 e13' (fun h => ⟨fun g2 => absurd g2 (by decide), fun _ => c_retI (k0 (bindn ?_) hi2 hl2 _ FC2 Fv2 hX2)⟩) (fun h400' r er hfree => ⟨fun _ => ?_, fun g2 => absurd (nI_pos' (by omega)) g2⟩)
      · rcases h with h | h | ⟨r, er, h⟩
        · unfold cf_do1; rw [if_neg (by omega)]
        · refine cf_do1_6n V3 Gd3 hc3 ?_
          rw [B3 0 0 (by omega) (by omega) (by omega) (by omega), B3 0 1 (by omega) (by omega) (by omega) (by omega), B3 3 c (by omega) (by omega) (by omega) (by omega), B3 6 c (by omega) (by omega) (by omega) (by omega), cf_bc_1 B3]
          exact h
        · by_cases hlt : S3 4 c < 400
          · rw [(cf_do1_ok V G V3 Gd3 hc B3 nd3 (Or.inr rfl) hlt er (fun q => by omega) hf6).2.2.2, if_neg h]
          · unfold cf_do1; rw [if_neg (by omega)]
      · obtain ⟨V4, Gd4, _, hdo⟩ := cf_do1_ok V G V3 Gd3 hc B3 nd3 (Or.inr rfl) h400' er (fun q => by omega) hf6
        rw [if_pos hfree] at hdo
        have G4 : cf_lg S c (cf_app S3 c 1 (fun _ => 6)) := cf_lg_a G3 _ _
        have e44 : cf_app S3 c 1 (fun _ => 6) 4 c = S3 4 c + 1 := cf_app_4
        rw [← e44]
        refine f63 (S3 := cf_app S3 c 1 (fun _ => 6)) (cf_XR_fs (c := c) (by omega) hX2 (fun a b q1 q2 => ?_) (fun _ _ _ => rfl)) hc G4 V4 (cf_fC_t FC2 (cf_fC_s (c := c) (f := S3 4 c) (n := 1) (fun a b q1 q2 => ?_) (fun _ _ _ => rfl) (by omega) (fun i hi => ⟨6, by decide, ?_⟩))) Fv2 (fun u h1 h2 => ?_) (k1 _ ?_ V4 Gd4 G4)
        · rw [cf_ru_ne (by omega), cf_ru_ne (by omega)]
        · rw [cf_ru_ne (by omega), cf_ru_ne (by omega)]
        · have : i = 0 := by omega
          subst this
          rw [cf_ru_ne (by unfold rx_ct; omega)]; exact cf_ru_eq
        · rw [e44] at h2
          rw [cf_app_w, cf_ru_ne (by unfold rx_ct; omega)]
          by_cases q : u = S3 4 c
          · subst q; rw [cf_ru_eq, if_neg (by omega)]
          · rw [cf_ru_ne (by omega), if_pos (by omega)]; exact hw3 u h1 (by omega)
        · rw [hgo]; show (if S 6 c = 0 then some S3 else cf_do1 S3 c 6) = _; rw [if_neg h60, hdo]
end RXE
