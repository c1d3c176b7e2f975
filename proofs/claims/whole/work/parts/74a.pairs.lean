/-! Both at rest: the class and the reference know the same. -/
theorem cf_A_XR {S : cf_S} {hi hi2 : Nat → Nat → Int32} {hl hl2 : Nat → Nat → Int64} (X : cf_XR S hi hl) (F : ∀ a b, 7 ≤ a → a < 76 → hi2 a b = hi a b) (Fl : ∀ a b, 7 ≤ a → a < 76 → hl2 a b = hl a b) : cf_XR S hi2 hl2 := by
  obtain ⟨⟨V, K1, K2, K3, C, G1, G2, B⟩, R1, R2, R3⟩ := X
  have h6 := V.2.2.1
  have h12 := V.2.2.2.1
  have f0 : ∀ a b, 7 ≤ a → a < 16 → hi2 a b = hi a b := fun a b h h2 => F a b h (by omega)
  have fc : ∀ o j, o < 6 → 5 ≤ j → j ≤ 12 → hi2 (rx_ct o) j = hi (rx_ct o) j := fun o j h1 h2 h3 => F _ _ (by unfold rx_ct; omega) (by unfold rx_ct; omega)
  refine ⟨⟨V, ?_, ?_, fun q hq => ?_, ?_, fun q hq => (f0 8 q (by omega) (by omega)).trans (G1 q hq), fun q hq => (f0 9 q (by omega) (by omega)).trans (G2 q hq), (Fl 7 10 (by omega) (by omega)).trans B⟩, R1.imp (fun z => (f0 13 5 (by omega) (by omega)).trans z) (fun z => ⟨z.1, z.2.1, (f0 13 5 (by omega) (by omega)).trans z.2.2⟩), fun o ho => ⟨fun u hu => ?_, ?_⟩, fun s hs u hu => ?_⟩
  · obtain ⟨a1, a2, a3, a4, a5, a6⟩ := K1
    exact ⟨a1, a2, a3, a4, (f0 7 0 (by omega) (by omega)).trans a5, (f0 7 1 (by omega) (by omega)).trans a6⟩
  · exact cf_K2_eq K2 (fun b => f0 10 b (by omega) (by omega)) (fun b => Fl 11 b (by omega) (by omega)) (fun b => Fl 12 b (by omega) (by omega))
  · obtain ⟨k1, k2, k3⟩ := K3 q hq
    rw [Fl 7 2 (by omega) (by omega), Fl 7 3 (by omega) (by omega), Fl 7 4 (by omega) (by omega)]
    exact ⟨k1, k2, k3⟩
  · obtain ⟨c1, c2, c3, c4⟩ := C
    refine ⟨(f0 13 3 (by omega) (by omega)).trans c1, (f0 13 4 (by omega) (by omega)).trans c2, fun o ho => ?_, fun s hs => ?_⟩
    · obtain ⟨d1, d2, d3, d4, d5, d6, d7, d8⟩ := c3 o ho
      exact ⟨(fc o 5 (by omega) (by omega) (by omega)).trans d1, (fc o 6 (by omega) (by omega) (by omega)).trans d2, (fc o 7 (by omega) (by omega) (by omega)).trans d3, (fc o 8 (by omega) (by omega) (by omega)).trans d4, (fc o 9 (by omega) (by omega) (by omega)).trans d5, (fc o 10 (by omega) (by omega) (by omega)).trans d6, (fc o 11 (by omega) (by omega) (by omega)).trans d7, fun u hu => (F _ _ (by unfold rx_ct; omega) (by unfold rx_ct; omega)).trans (d8 u hu)⟩
    · exact (F _ _ (by unfold rx_sf; omega) (by unfold rx_sf; omega)).trans (c4 s hs)
  · obtain ⟨r1, r2, r3⟩ := (R2 o ho).1 u hu
    rw [F _ _ (by unfold rx_ct; omega) (by unfold rx_ct; omega), Fl _ _ (by unfold rx_ct; omega) (by unfold rx_ct; omega), Fl _ _ (by unfold rx_ct; omega) (by unfold rx_ct; omega)]
    exact ⟨r1, r2, r3⟩
  · rw [fc o 12 (by omega) (by omega) (by omega)]; exact (R2 o ho).2
  · rw [F _ _ (by unfold rx_sf; omega) (by unfold rx_sf; omega)]; exact R3 s hs u hu
/-- the class's half; ls: the last stop -/
def cf_A (S : cf_S) (ls : Nat) (hi : Nat → Nat → Int32) (hl : Nat → Nat → Int64) : Prop := cf_XR S hi hl ∧ cf_bts hi ∧ hi 76 3 = nI ls
theorem cf_A_ext {S : cf_S} {ls : Nat} {hi hi2 : Nat → Nat → Int32} {hl hl2 : Nat → Nat → Int64} (A : cf_A S ls hi hl) (F : ∀ a b, 7 ≤ a → a ≤ 76 → hi2 a b = hi a b) (Fl : ∀ a b, 7 ≤ a → a ≤ 76 → hl2 a b = hl a b) : cf_A S ls hi2 hl2 := by
  obtain ⟨X, b, e⟩ := A
  refine ⟨cf_A_XR X (fun a b h h2 => F a b h (by omega)) (fun a b h h2 => Fl a b h (by omega)), fun c hc j hj => ?_, (F 76 3 (by omega) (by omega)).trans e⟩
  rw [F _ _ (by unfold rx_ct; omega) (by unfold rx_ct; omega), F _ _ (by unfold rx_ct; omega) (by unfold rx_ct; omega)]
  exact b c hc j hj
/-- what the reference's half reads of its own fields -/
def cf_rf (b : Nat) : Prop := b = 0 ∨ b = 1 ∨ b = 2 ∨ b = 6 ∨ b = 21 ∨ b = 35 ∨ b = 36
theorem cf_RM_ext {S : cf_S} {hi hi2 : Nat → Nat → Int32} {hl hl2 : Nat → Nat → Int64} (Z : cf_RM S hi hl) (F0 : ∀ b, cf_rf b → hi2 90 b = hi 90 b) (F : ∀ a b, 91 ≤ a → a ≤ 108 → hi2 a b = hi a b) (Fl : ∀ a b, 105 ≤ a → a ≤ 106 → hl2 a b = hl a b) : cf_RM S hi2 hl2 := by
  obtain ⟨V, H, M, ⟨K1, nl, K2, K3⟩, N1, N2⟩ := Z
  obtain ⟨⟨a1, a2, a3, a4, a5, a6, a7⟩, b, c, d, e, f, g⟩ := M
  have f0 : ∀ b, cf_rf b → hi2 90 b = hi 90 b := F0
  unfold cf_rf at f0
  refine ⟨V, H, ⟨⟨a1, a2, a3, a4, (f0 0 (by omega)).trans a5, (f0 1 (by omega)).trans a6, (f0 2 (by omega)).trans a7⟩, (f0 6 (by omega)).trans b, (f0 21 (by omega)).trans c, fun q hq => (F 91 q (by omega) (by omega)).trans (d q hq), fun q hq => (F 92 q (by omega) (by omega)).trans (e q hq), fun i hi0 => ?_, fun s hs => (F 107 s (by omega) (by omega)).trans (g s hs)⟩, ⟨(f0 35 (by omega)).trans K1, nl, (f0 36 (by omega)).trans K2, K3⟩, fun c hc => ⟨fun u hu => ?_, fun u hu => (F 104 _ (by omega) (by omega)).trans ((N1 c hc).2 u hu)⟩, fun s hs u hu => (F 108 _ (by omega) (by omega)).trans (N2 s hs u hu)⟩
  · obtain ⟨f1, f2, f3, f4, f5, f6, f7, f8, f9, f10⟩ := f i hi0
    exact ⟨(F 93 i (by omega) (by omega)).trans f1, (F 94 i (by omega) (by omega)).trans f2, (F 96 i (by omega) (by omega)).trans f3, fun q => ⟨(F 97 i (by omega) (by omega)).trans (f4 q).1, (F 98 i (by omega) (by omega)).trans (f4 q).2⟩, (F 99 i (by omega) (by omega)).trans f5, (F 100 i (by omega) (by omega)).trans f6, fun j hj => (F 95 _ (by omega) (by omega)).trans (f7 j hj), (F 101 _ (by omega) (by omega)).trans f8, (F 102 _ (by omega) (by omega)).trans f9, (F 103 _ (by omega) (by omega)).trans f10⟩
  · obtain ⟨g1, g2, g3, g4, g5⟩ := (N1 c hc).1 u hu
    exact ⟨(F 101 _ (by omega) (by omega)).trans g1, (F 102 _ (by omega) (by omega)).trans g2, (F 103 _ (by omega) (by omega)).trans g3, (Fl 105 _ (by omega) (by omega)).trans g4, (Fl 106 _ (by omega) (by omega)).trans g5⟩
/-- the TOLD row -/
def cf_Et (hi : Nat → Nat → Int32) : Prop := (∃ T, T ≤ 400 ∧ hi 84 5 = nI T ∧ hi 90 25 = nI T ∧ ∀ j, j < T → ∃ m, m < 7 ∧ hi 85 j = nI m ∧ hi 109 j = nI m) ∧ ∀ j, j < 400 → fits .byte (.int (hi 85 j)) = true
/-- the HOOKS -/
def cf_Eh (n m : Nat) (hi : Nat → Nat → Int32) : Prop := ∀ j, j < 10 → hi 110 j = hi 3 j ∧ hi 111 j = hi 4 j ∧ (hi 3 j = 0 ∨ (hi 3 j = 1 ∧ ∃ c, c < n ∧ hi 4 j = nI c) ∨ (hi 3 j = 2 ∧ ∃ s, s < m ∧ hi 4 j = nI s))
/-- the MARKS; r: which rows are MISSING -/
def cf_Em (w h : Nat) (r : Nat → Nat) (hi : Nat → Nat → Int32) : Prop := (∀ y x, y < h → x < w → hi 112 (8 * y + x) = hi 89 (y * w + x) ∧ (r y = 1 → hi 89 (y * w + x) = 0)) ∧ ∀ j, j < 64 → fits .byte (.int (hi 89 j)) = true
/-- the LINE -/
def cf_El (n : Nat) (hi : Nat → Nat → Int32) (v : Nat → Nat → Option Nat) : Prop := (hi 5 2 = -1 ∧ hi 90 30 = -1) ∨ ∃ s k, s ≤ 40 ∧ k < 4 ∧ hi 5 2 = nI s ∧ hi 90 30 = nI s ∧ hi 5 1 = nI k ∧ hi 90 31 = nI k ∧ ∀ j, j < 40 → (v 6 j = none ∧ hi 114 j = -1) ∨ ∃ c, c < n ∧ v 6 j = some (rx_ct c) ∧ hi 114 j = nI c
/-- the Trio, made or not -/
def cf_Ey (t : List (Nat × Nat)) (v : Nat → Nat → Option Nat) : Prop := (t = [] ∧ v 1 7 = none) ∨ (t = rx_tr ∧ v 1 7 = some 134)
def cf_E (S : cf_S) (t : List (Nat × Nat)) (hi : Nat → Nat → Int32) (v : Nat → Nat → Option Nat) : Prop := hi 90 5 = hi 1 8 ∧ cf_Et hi ∧ cf_Eh (S 0 2) (S 0 3) hi ∧ cf_Em (S 0 0) (S 0 1) (S 2) hi ∧ cf_El (S 0 2) hi v ∧ cf_Ey t v
theorem cf_Et_ext {hi hi2 : Nat → Nat → Int32} (E : cf_Et hi) (e1 : hi2 84 5 = hi 84 5) (e2 : hi2 90 25 = hi 90 25) (e3 : ∀ b, hi2 85 b = hi 85 b) (e4 : ∀ b, hi2 109 b = hi 109 b) : cf_Et hi2 := by
  unfold cf_Et
  rw [e1, e2]
  simp only [e3, e4]
  exact E
theorem cf_Eh_ext {n m : Nat} {hi hi2 : Nat → Nat → Int32} (E : cf_Eh n m hi) (e1 : ∀ b, hi2 3 b = hi 3 b) (e2 : ∀ b, hi2 4 b = hi 4 b) (e3 : ∀ b, hi2 110 b = hi 110 b) (e4 : ∀ b, hi2 111 b = hi 111 b) : cf_Eh n m hi2 := by
  unfold cf_Eh
  simp only [e1, e2, e3, e4]
  exact E
theorem cf_Em_ext {w h : Nat} {r : Nat → Nat} {hi hi2 : Nat → Nat → Int32} (E : cf_Em w h r hi) (e1 : ∀ b, hi2 89 b = hi 89 b) (e2 : ∀ b, hi2 112 b = hi 112 b) : cf_Em w h r hi2 := by
  unfold cf_Em
  simp only [e1, e2]
  exact E
theorem cf_El_ext {n : Nat} {hi hi2 : Nat → Nat → Int32} {v v2 : Nat → Nat → Option Nat} (E : cf_El n hi v) (e1 : hi2 5 1 = hi 5 1) (e2 : hi2 5 2 = hi 5 2) (e3 : hi2 90 30 = hi 90 30) (e4 : hi2 90 31 = hi 90 31) (e5 : ∀ b, hi2 114 b = hi 114 b) (e6 : ∀ b, v2 6 b = v 6 b) : cf_El n hi2 v2 := by
  unfold cf_El
  rw [e1, e2, e3, e4]
  simp only [e5, e6]
  exact E
/-- the cells of the small state -/
def cf_er (a b : Nat) : Prop := (1 ≤ a ∧ a < 7) ∨ a = 84 ∨ a = 85 ∨ a = 89 ∨ (a = 90 ∧ (b = 5 ∨ b = 25 ∨ b = 30 ∨ b = 31)) ∨ (109 ≤ a ∧ a ≤ 112) ∨ a = 114
theorem cf_E_ext {S : cf_S} {t : List (Nat × Nat)} {hi hi2 : Nat → Nat → Int32} {v v2 : Nat → Nat → Option Nat} (E : cf_E S t hi v) (F : ∀ a b, cf_er a b → hi2 a b = hi a b) (Fv : ∀ b, v2 6 b = v 6 b) (Fy : v2 1 7 = v 1 7) : cf_E S t hi2 v2 := by
  unfold cf_er at F
  obtain ⟨E1, E2, E3, E4, E5, E6⟩ := E
  refine ⟨by rw [F 90 5 (by omega), F 1 8 (by omega)]; exact E1, cf_Et_ext E2 (F _ _ (by omega)) (F _ _ (by omega)) (fun b => F _ _ (by omega)) (fun b => F _ _ (by omega)), cf_Eh_ext E3 (fun b => F _ _ (by omega)) (fun b => F _ _ (by omega)) (fun b => F _ _ (by omega)) (fun b => F _ _ (by omega)), cf_Em_ext E4 (fun b => F _ _ (by omega)) (fun b => F _ _ (by omega)), cf_El_ext E5 (F _ _ (by omega)) (F _ _ (by omega)) (F _ _ (by omega)) (F _ _ (by omega)) (fun b => F _ _ (by omega)) Fv, ?_⟩
  unfold cf_Ey
  rw [Fy]; exact E6
theorem cf_E_S {S S2 : cf_S} {t : List (Nat × Nat)} {hi : Nat → Nat → Int32} {v : Nat → Nat → Option Nat} (E : cf_E S t hi v) (e0 : S2 0 = S 0) (e2 : S2 2 = S 2) : cf_E S2 t hi v := by
  unfold cf_E
  rw [e0, e2]; exact E
/-- at rest -/
def cf_rel (t : List (Nat × Nat)) (S : cf_S) (ls : Nat) (hi : Nat → Nat → Int32) (hl : Nat → Nat → Int64) (v : Nat → Nat → Option Nat) : Prop := cf_Ir ls S ∧ cf_A S ls hi hl ∧ (cf_RM S hi hl ∧ hi 90 48 = nI ls) ∧ cf_E S t hi v
def cf_Rel (t : List (Nat × Nat)) (hi : Nat → Nat → Int32) (hl : Nat → Nat → Int64) (v : Nat → Nat → Option Nat) : Prop := ∃ S ls, cf_rel t S ls hi hl v
/-- a call of both: the same answer, and at rest again -/
def cf_pr (L : Nat) (t : List (Nat × Nat)) (a b : Nat) (as : List Value) : Prop := ∀ S ls hi hl v, cf_rel t S ls hi hl v → rx_CI L t a (.ref 1 :: as) hi hl v (fun z hi2 hl2 v2 => rx_CI L t b (.ref 90 :: as) hi2 hl2 v2 (fun z2 hi3 hl3 v3 => z2 = z ∧ cf_Rel t hi3 hl3 v3))
