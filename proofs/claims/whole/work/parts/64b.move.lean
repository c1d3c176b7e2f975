/-! Going all WAYS: one MOVE, the SHELVES. -/
theorem cf_ru_ne {α : Type} {f : Nat → Nat → α} {i k a b : Nat} {x : α} (h : ¬ (a = i ∧ b = k)) : rx_u f i k x a b = f a b := by
  unfold rx_u
  by_cases ha : a = i
  · rw [if_pos ha]
    show (if b = k then x else f i b) = f a b
    rw [if_neg (fun q => h ⟨ha, q⟩), ha]
  · rw [if_neg ha]
theorem cf_ru_eq {α : Type} {f : Nat → Nat → α} {i k : Nat} {x : α} : rx_u f i k x i k = x := by
  unfold rx_u; rw [if_pos rfl]; exact if_pos rfl
def cf_rw (a b : Nat) : Prop := (a = 13 ∧ b = 5) ∨ (16 ≤ a ∧ a < 52 ∧ ((a - 16) % 6 = 3 ∨ ((a - 16) % 6 = 0 ∧ b = 12))) ∨ (52 ≤ a ∧ a < 76 ∧ (a - 52) % 2 = 1)
def cf_rwl (a : Nat) : Prop := 16 ≤ a ∧ a < 52 ∧ ((a - 16) % 6 = 4 ∨ (a - 16) % 6 = 5)
/-- only what Traffic.replay writes has changed -/
def cf_fr (hi hi2 : Nat → Nat → Int32) (hl hl2 : Nat → Nat → Int64) : Prop := (∀ a b, ¬ cf_rw a b → hi2 a b = hi a b) ∧ (∀ a b, ¬ cf_rwl a → hl2 a b = hl a b)
theorem cf_fr_refl {hi : Nat → Nat → Int32} {hl : Nat → Nat → Int64} : cf_fr hi hi hl hl := ⟨fun _ _ _ => rfl, fun _ _ _ => rfl⟩
theorem cf_fr_trans {hi hi2 hi3 : Nat → Nat → Int32} {hl hl2 hl3 : Nat → Nat → Int64} (h1 : cf_fr hi hi2 hl hl2) (h2 : cf_fr hi2 hi3 hl2 hl3) : cf_fr hi hi3 hl hl3 :=
  ⟨fun a b h => (h2.1 a b h).trans (h1.1 a b h), fun a b h => (h2.2 a b h).trans (h1.2 a b h)⟩
theorem cf_fr_i {hi : Nat → Nat → Int32} {hl : Nat → Nat → Int64} {i k : Nat} {x : Int32} (h : cf_rw i k) : cf_fr hi (rx_u hi i k x) hl hl :=
  ⟨fun a b q => cf_ru_ne (fun e => q (by rw [e.1, e.2]; exact h)), fun _ _ _ => rfl⟩
theorem cf_fr_l {hi : Nat → Nat → Int32} {hl : Nat → Nat → Int64} {i k : Nat} {x : Int64} (h : cf_rwl i) : cf_fr hi hi hl (rx_u hl i k x) :=
  ⟨fun _ _ _ => rfl, fun a b q => cf_ru_ne (fun e => q (by rw [e.1]; exact h))⟩
/-- what the class knows of the floor and of all carts -/
def cf_X (S : cf_S) (hi : Nat → Nat → Int32) (hl : Nat → Nat → Int64) : Prop := cf_V S ∧ cf_K1 (S 0 0) (S 0 1) hi ∧ cf_K2 (S 0 0) (S 0 1) hi hl ∧ cf_K3 (S 0 0) (S 0 1) hl ∧ cf_C S hi ∧ (∀ q, q < 64 → hi 8 q = nI (S 1 q)) ∧ (∀ y, y < 8 → hi 9 y = nI (S 2 y)) ∧ hl 7 10 = cf_bar S
theorem cf_C_eq {S : cf_S} {hi hi2 : Nat → Nat → Int32} (V : cf_V S) (C : cf_C S hi) (e1 : hi2 13 3 = hi 13 3) (e2 : hi2 13 4 = hi 13 4) (e3 : ∀ c f, c < 6 → 5 ≤ f → f < 12 → hi2 (rx_ct c) f = hi (rx_ct c) f) (e4 : ∀ c j, c < 6 → hi2 (rx_ct c + 1) j = hi (rx_ct c + 1) j) (e5 : ∀ s, s < 12 → hi2 (rx_sf s) 1 = hi (rx_sf s) 1) : cf_C S hi2 := by
  have h6 := V.2.2.1
  have h12 := V.2.2.2.1
  obtain ⟨a, b, c, d⟩ := C
  refine ⟨e1.trans a, e2.trans b, fun i hi0 => ?_, fun s hs => (e5 s (by omega)).trans (d s hs)⟩
  have g := c i hi0
  have hc : i < 6 := by omega
  refine ⟨(e3 i 5 hc (by decide) (by decide)).trans g.1, (e3 i 6 hc (by decide) (by decide)).trans g.2.1, (e3 i 7 hc (by decide) (by decide)).trans g.2.2.1, (e3 i 8 hc (by decide) (by decide)).trans g.2.2.2.1, (e3 i 9 hc (by decide) (by decide)).trans g.2.2.2.2.1, (e3 i 10 hc (by decide) (by decide)).trans g.2.2.2.2.2.1, (e3 i 11 hc (by decide) (by decide)).trans g.2.2.2.2.2.2.1, fun j hj => (e4 i j hc).trans (g.2.2.2.2.2.2.2 j hj)⟩
theorem cf_K2_eq {w h : Nat} {hi hi2 : Nat → Nat → Int32} {hl hl2 : Nat → Nat → Int64} (K : cf_K2 w h hi hl) (e1 : ∀ b, hi2 10 b = hi 10 b) (e2 : ∀ b, hl2 11 b = hl 11 b) (e3 : ∀ b, hl2 12 b = hl 12 b) : cf_K2 w h hi2 hl2 := by
  intro s h1 h2
  obtain ⟨a, b, c, d, e, f⟩ := K s h1 h2
  exact ⟨(e2 _).trans a, (e2 _).trans b, (e3 _).trans c, (e3 _).trans d, fun m hm => (e1 _).trans (e m hm), fun g m hm => (e1 _).trans (f g m hm)⟩
theorem cf_X_fr {S : cf_S} {hi hi2 : Nat → Nat → Int32} {hl hl2 : Nat → Nat → Int64} (X : cf_X S hi hl) (F : cf_fr hi hi2 hl hl2) : cf_X S hi2 hl2 := by
  obtain ⟨V, ⟨k1, k2, k3, k4, k5, k6⟩, K2, K3, C, G, M, B⟩ := X
  have f : ∀ a b, ¬ cf_rw a b → hi2 a b = hi a b := F.1
  have fl : ∀ a b, ¬ cf_rwl a → hl2 a b = hl a b := F.2
  have n7 : ¬ cf_rwl 7 := by unfold cf_rwl; omega
  refine ⟨V, ⟨k1, k2, k3, k4, (f 7 0 (by unfold cf_rw; omega)).trans k5, (f 7 1 (by unfold cf_rw; omega)).trans k6⟩, cf_K2_eq K2 (fun b => f 10 b (by unfold cf_rw; omega)) (fun b => fl 11 b (by unfold cf_rwl; omega)) (fun b => fl 12 b (by unfold cf_rwl; omega)), ?_, ?_, fun q hq => (f 8 q (by unfold cf_rw; omega)).trans (G q hq), fun q hq => (f 9 q (by unfold cf_rw; omega)).trans (M q hq), (fl 7 10 n7).trans B⟩
  · intro q hq
    rw [fl 7 2 n7, fl 7 3 n7, fl 7 4 n7]
    exact K3 q hq
  · refine cf_C_eq V C (f 13 3 (by unfold cf_rw; omega)) (f 13 4 (by unfold cf_rw; omega)) (fun c g hc h1 h2 => f _ _ ?_) (fun c j hc => f _ _ ?_) (fun s hs => f _ _ ?_) <;>
    · simp only [cf_rw, rx_ct, rx_sf]; omega
section RXE
variable {L : Nat} {t : List (Nat × Nat)} {hi : Nat → Nat → Int32} {hl : Nat → Nat → Int64} {v : Nat → Nat → Option Nat}
variable {RI : Int32 → (Nat → Nat → Int32) → (Nat → Nat → Int64) → (Nat → Nat → Option Nat) → Prop}
variable {RL : Int64 → (Nat → Nat → Int32) → (Nat → Nat → Int64) → (Nat → Nat → Option Nat) → Prop}
variable {RR : Option Nat → (Nat → Nat → Int32) → (Nat → Nat → Int64) → (Nat → Nat → Option Nat) → Prop}
variable {RV : (Nat → Nat → Int32) → (Nat → Nat → Int64) → (Nat → Nat → Option Nat) → Prop}
theorem c36n {S : cf_S} (V : cf_V S) (C : cf_C S hi) (k : RI (nI (cf_mx (S 4) (S 0 2))) hi hl v) : rx_CI L t 36 [.ref 13, .null] hi hl v RI := by
  have h6 := V.2.2.1
  refine w36_greatestEnd_null ?_
  have hle : ∀ i, i ≤ S 0 2 → cf_mx (S 4) i ≤ 400 := by
    intro i
    induction i with
    | zero => intro _; exact Nat.zero_le _
    | succ i ih =>
      intro hi0
      have := (V.2.2.2.2.2.2.1 i (by omega)).2.2.2.1
      have := ih (by omega)
      rw [cf_mx]; omega
  have loop : ∀ d i, i + d = S 0 2 → rx_aw 36 4 [.ref 13, .null, .int (nI (cf_mx (S 4) i)), .int (nI i)] [] (rx_hp L t hi hl v) (fun r h2 => ∃ z : Int32, r = some (.int z) ∧ rx_ok2 L t h2 (RI z)) := by
    intro d
    induction d with
    | zero =>
      intro i hi0
      have : i = S 0 2 := by omega
      subst this
      refine w36_greatestEnd_null_4 ⟨fun _ => c_retI k, fun g => absurd ?_ g⟩
      rw [C.1]; exact nI_le (Nat.le_refl _) (by omega)
    | succ d ih =>
      intro i hi0
      refine w36_greatestEnd_null_4 ⟨fun g => ?_, fun _ => ⟨i, rfl, by omega, i, rfl, by omega, ?_⟩⟩
      · rw [C.1] at g; exact absurd g (nI_ge (by omega) (by omega))
      · have hC := (C.2.2.1 i (by omega)).2.2.1
        have h4 := (V.2.2.2.2.2.2.1 i (by omega)).2.2.2.1
        have hm := hle i (by omega)
        have := ih (i + 1) (by omega)
        rw [hC, nI_1]
        have e : (if nI (cf_mx (S 4) i) < nI (S 4 i) then nI (S 4 i) else nI (cf_mx (S 4) i)) = nI (cf_mx (S 4) (i + 1)) := by
          rw [cf_mx]
          by_cases h : cf_mx (S 4) i < S 4 i
          · rw [if_pos (nI_lt h (by omega)), Nat.max_eq_right (by omega)]
          · rw [if_neg (nI_nlt (by omega) (by omega)), Nat.max_eq_left (by omega)]
        rw [e]; exact this
  exact loop (S 0 2) 0 (by omega)
theorem c43 {S : cf_S} (X : cf_X S hi hl) {T j c : Nat} (hc : c < S 0 2) (hT : hi 13 5 = nI T) (hb : T < 402) (hj : j < T) (A : cf_at (S 0 2) (S 0 3) j (cf_st S j) (cf_sp S j) hi)
    (k : RV (rx_u (bif cf_made S j c then hi else rx_u hi (rx_ct c) 12 1) (rx_ct c + 3) (j + 1) (nI (cf_st S (j + 1) c))) (rx_u hl (rx_ct c + 4) (j + 1) (cf_sd S (j + 1) c)) v) : rx_CV L t 43 [.ref 13, .ref (rx_ct c), .int (nI j)] hi hl v RV := by
  obtain ⟨V, K1, K2, K3, C, G, M, B⟩ := X
  have h6 := V.2.2.1
  have h12 := V.2.2.2.1
  have hkd := (V.2.2.2.2.2.2.1 c hc).1
  have hC := C.2.2.1 c hc
  have hst := A.1 c hc
  have hmt := cf_mt_lt V hc j
  have hvs := (cf_wv V j).1 c hc
  have hwh := cf_V_wh V
  have hsq : cf_st S j c % 64 < 64 := by omega
  have hg : ∀ q, q < 64 → hi 8 q = nI (S 1 q) ∧ S 1 q < 4 := fun q hq => ⟨G q hq, V.2.2.2.2.1 q⟩
  have hmin : min j T = j := Nat.min_eq_left (by omega)
  have hlie : cf_lie (S 0 2) (S 0 3) (cf_st S j) (cf_sp S j) (cf_st S j c % 64) ≤ S 0 3 := cf_ff_le _ _
  have e5 : nI (cf_mt S c j) = (5 : Int32) ↔ cf_mt S c j = 5 := by rw [show (5 : Int32) = nI 5 from rfl, nI_eq (by omega) (by decide)]
  have nt : (nI j + 1 : Int32) = nI (j + 1) := nI_1 j
  have fin : ∀ l, l < 2 ^ 10 → cf_aft (S 0 0) (S 0 1) (S 1) (S 3 c) (cf_st S j c) (cf_mt S c j) l = cf_nx S (cf_w S j) j c → ∀ z6, z6 = oO (cf_aft (S 0 0) (S 0 1) (S 1) (S 3 c) (cf_st S j c) (cf_mt S c j) l) →
      ((0 ≤ z6 → ∃ j8, nI j + 1 = nI j8 ∧ j8 < 402 ∧ rx_me 42 [.ref 7, .int ((rx_u hi (rx_ct c + 3) j8 z6) (rx_ct c) 5), .int z6] (rx_hp L t (rx_u hi (rx_ct c + 3) j8 z6) hl v) (fun r h2 => ∃ z9 : Int64, r = some (.long z9) ∧ rx_ok2 L t h2 (fun hi9 hl9 v9 => (∃ j10 : Nat, nI j + 1 = nI j10 ∧ j10 < 402 ∧ ((none : Option Value) = none ∧ rx_ok2 L t (rx_hp L t hi9 (rx_u hl9 (rx_ct c + 4) j10 z9) v9) RV))))) ∧
       (¬ 0 ≤ z6 → ∃ j8, nI j + 1 = nI j8 ∧ j8 < 402 ∧ rx_me 42 [.ref 7, .int ((rx_u (rx_u hi (rx_ct c) 12 (1 : Int32)) (rx_ct c + 3) j8 (nI (cf_st S j c))) (rx_ct c) 5), .int (nI (cf_st S j c))] (rx_hp L t (rx_u (rx_u hi (rx_ct c) 12 (1 : Int32)) (rx_ct c + 3) j8 (nI (cf_st S j c))) hl v) (fun r h2 => ∃ z9 : Int64, r = some (.long z9) ∧ rx_ok2 L t h2 (fun hi9 hl9 v9 => (∃ j10 : Nat, nI j + 1 = nI j10 ∧ j10 < 402 ∧ ((none : Option Value) = none ∧ rx_ok2 L t (rx_hp L t hi9 (rx_u hl9 (rx_ct c + 4) j10 z9) v9) RV)))))) := by
    intro l hl' hnx z6 hz
    have f5 : ∀ (f : Nat → Nat → Int32) i x, rx_u f (rx_ct c + 3) i x (rx_ct c) 5 = f (rx_ct c) 5 := fun f i x => cf_ru_ne (by omega)
    have f12 : rx_u hi (rx_ct c) 12 1 (rx_ct c) 5 = hi (rx_ct c) 5 := cf_ru_ne (by omega)
    have hK1 : ∀ (f : Nat → Nat → Int32) i x, cf_K1 (S 0 0) (S 0 1) f → cf_K1 (S 0 0) (S 0 1) (rx_u f (rx_ct c + 3) i x) := by
      intro f i x ⟨a1, a2, a3, a4, a5, a6⟩
      exact ⟨a1, a2, a3, a4, by rw [cf_ru_ne (by unfold rx_ct; omega)]; exact a5, by rw [cf_ru_ne (by unfold rx_ct; omega)]; exact a6⟩
    have hK12 : cf_K1 (S 0 0) (S 0 1) (rx_u hi (rx_ct c) 12 1) := by
      obtain ⟨a1, a2, a3, a4, a5, a6⟩ := K1
      exact ⟨a1, a2, a3, a4, by rw [cf_ru_ne (by unfold rx_ct; omega)]; exact a5, by rw [cf_ru_ne (by unfold rx_ct; omega)]; exact a6⟩
    have hK2 : ∀ (f : Nat → Nat → Int32) i x, cf_K2 (S 0 0) (S 0 1) f hl → cf_K2 (S 0 0) (S 0 1) (rx_u f (rx_ct c + 3) i x) hl := by
      intro f i x a
      exact cf_K2_eq a (fun b => cf_ru_ne (by unfold rx_ct; omega)) (fun _ => rfl) (fun _ => rfl)
    have hK22 : cf_K2 (S 0 0) (S 0 1) (rx_u hi (rx_ct c) 12 1) hl := cf_K2_eq K2 (fun b => cf_ru_ne (by unfold rx_ct; omega)) (fun _ => rfl) (fun _ => rfl)
    cases ho : cf_nx S (cf_w S j) j c with
    | none =>
      rw [hnx, ho] at hz
      subst hz
      have hn1 : cf_st S (j + 1) c = cf_st S j c := by
        show (cf_nx S (cf_w S j) j c).getD ((cf_w S j).1 c) = _
        rw [ho]; rfl
      have hmd : cf_made S j c = false := by unfold cf_made; rw [ho]; rfl
      rw [hmd, cond_false] at k
      unfold cf_sd at k
      rw [hn1] at k
      refine ⟨fun q => absurd q (by decide), fun _ => ⟨j + 1, nt, by omega, ?_⟩⟩
      rw [f5, f12, hC.1]
      exact c42 (hK1 _ _ _ hK12) (hK2 _ _ _ hK22) hkd hvs.1.1 ⟨j + 1, nt, by omega, c_retV k⟩
    | some r =>
      rw [hnx, ho] at hz
      subst hz
      have hn1 : cf_st S (j + 1) c = r := by
        show (cf_nx S (cf_w S j) j c).getD ((cf_w S j).1 c) = _
        rw [ho]; rfl
      have hmd : cf_made S j c = true := by unfold cf_made; rw [ho]; rfl
      have hv2 := (cf_wv V (j + 1)).1 c hc
      rw [hmd, cond_true] at k
      unfold cf_sd at k
      rw [hn1] at k hv2
      refine ⟨fun _ => ⟨j + 1, nt, by omega, ?_⟩, fun q => absurd (nI_pos' (by omega)) q⟩
      rw [f5, hC.1]
      exact c42 (hK1 _ _ _ K1) (hK2 _ _ _ K2) hkd hv2.1.1 ⟨j + 1, nt, by omega, c_retV k⟩
  refine w43_moveOn (by omega) ⟨j, rfl, by omega, c44 V C hc (by omega) ⟨fun q => ?_, fun q => ?_⟩⟩
  · rw [hst.1]
    refine c8 (c45 C.1 h6 C.2.1 hT hb (by omega) (by rw [hmin]; exact A) h12 hsq ?_)
    rw [hC.1]
    refine c49 K1 K2 hg hkd hvs.1 (by omega) hmt (by omega) ?_
    exact fin _ (Nat.lt_of_le_of_lt (cf_ff_le _ _) (by omega)) rfl _ rfl
  · rw [hst.1, hC.1]
    refine c49 (l := 0) K1 K2 hg hkd hvs.1 (by omega) hmt (by omega) ?_
    refine fin 0 (by omega) ?_ _ rfl
    rw [e5] at q
    unfold cf_nx cf_aft
    by_cases h4 : cf_mt S c j ≤ 4
    · rw [if_pos h4, if_pos h4]; rfl
    · rw [if_neg h4, if_neg h4, if_neg q, if_neg q]; rfl
end RXE
