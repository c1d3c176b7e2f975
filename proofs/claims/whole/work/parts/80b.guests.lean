/-! guest() of both. -/
/-- refused -/
def cf_gz (S : cf_S) (n : Nat) : Prop := n = 0 ∨ ¬ S 3 (n - 1) = 3 ∨ 0 < S 4 (n - 1) ∨ cf_any (fun o => !decide (S 3 o = 3) && decide (0 < S 4 o)) (S 0 2) = true
theorem cf_fw2_A {S : cf_S} {c T : Nat} {tm : Nat → Nat} {ls : Nat} {hi hi2 : Nat → Nat → Int32} {hl : Nat → Nat → Int64} (A : cf_A S ls hi hl) (V' : cf_V (cf_fw2 S c T tm)) (hc : c < S 0 2) (F : ∀ a b, ¬ a = 86 → ¬ a = 87 → ¬ a = rx_ct c + 1 → ¬ (a = rx_ct c ∧ b = 7) → hi2 a b = hi a b) (e7 : hi2 (rx_ct c) 7 = nI T) (ew : ∀ j, j < T → hi2 (rx_ct c + 1) j = nI (tm j)) (eb : ∀ b, b < 400 → fits .byte (.int (hi2 (rx_ct c + 1) b)) = true) : cf_X (cf_fw2 S c T tm) hi2 hl ∧ cf_bts hi2 ∧ hi2 76 3 = nI ls := by
  obtain ⟨⟨⟨V, K1, K2, K3, C, G1, G2, B⟩, R⟩, b, e⟩ := A
  have h6 := V.2.2.1
  have h12 := V.2.2.2.1
  have rr : ∀ a b, ¬ a = 4 → a < 20 → cf_fw2 S c T tm a b = S a b := fun a b h h2 => cf_fw2_r (by omega) (by omega)
  have f0 : ∀ a b, a < 16 → hi2 a b = hi a b := fun a b h => F a b (by omega) (by omega) (by unfold rx_ct; omega) (by unfold rx_ct; omega)
  refine ⟨⟨V', ?_, ?_, ?_, ⟨?_, ?_, fun o ho => ?_, fun s hs => ?_⟩, fun q hq => ?_, fun y hy => ?_, ?_⟩, fun o ho j hj => ?_, ?_⟩
  · rw [rr 0 _ (by omega) (by omega), rr 0 _ (by omega) (by omega)]
    obtain ⟨a1, a2, a3, a4, a5, a6⟩ := K1
    exact ⟨a1, a2, a3, a4, (f0 7 0 (by omega)).trans a5, (f0 7 1 (by omega)).trans a6⟩
  · rw [rr 0 _ (by omega) (by omega), rr 0 _ (by omega) (by omega)]
    exact cf_K2_eq K2 (fun b => f0 10 b (by omega)) (fun b => rfl) (fun b => rfl)
  · rw [rr 0 _ (by omega) (by omega), rr 0 _ (by omega) (by omega)]; exact K3
  · rw [rr 0 _ (by omega) (by omega), f0 _ _ (by omega)]; exact C.1
  · rw [rr 0 _ (by omega) (by omega), f0 _ _ (by omega)]; exact C.2.1
  · rw [rr 0 _ (by omega) (by omega)] at ho
    obtain ⟨c1, c2, c3, c4, c5, c6, c7, c8⟩ := C.2.2.1 o ho
    have fo : ∀ j, ¬ (o = c ∧ j = 7) → hi2 (rx_ct o) j = hi (rx_ct o) j := fun j q => F _ _ (by unfold rx_ct; omega) (by unfold rx_ct; omega) (by unfold rx_ct; omega) (by unfold rx_ct; omega)
    rw [rr 3 _ (by omega) (by omega), rr 9 _ (by omega) (by omega), rr 5 _ (by omega) (by omega), rr 6 _ (by omega) (by omega), rr 8 _ (by omega) (by omega), rr 7 _ (by omega) (by omega), fo 5 (by omega), fo 6 (by omega), fo 8 (by omega), fo 9 (by omega), fo 10 (by omega), fo 11 (by omega)]
    refine ⟨c1, c2, ?_, c4, c5, c6, c7, ?_⟩
    · by_cases q : o = c
      · subst q; rw [cf_fw2_4]; exact e7
      · rw [fo 7 (by omega), cf_fw2_r (by omega) (by omega)]; exact c3
    · by_cases q : o = c
      · subst q
        rw [cf_fw2_4]
        intro j hj
        rw [cf_fw2_w hj]; exact ew j hj
      · rw [cf_fw2_r (by omega) (by omega)]
        intro j hj
        rw [cf_fw2_r (by omega) (by omega), F _ _ (by unfold rx_ct; omega) (by unfold rx_ct; omega) (by unfold rx_ct; omega) (by unfold rx_ct; omega)]
        exact c8 j hj
  · rw [rr 0 _ (by omega) (by omega)] at hs
    rw [rr 12 _ (by omega) (by omega), F _ _ (by unfold rx_sf; omega) (by unfold rx_sf; omega) (by unfold rx_sf rx_ct; omega) (by unfold rx_sf rx_ct; omega)]
    exact C.2.2.2 s hs
  · rw [rr 1 _ (by omega) (by omega), f0 _ _ (by omega)]; exact G1 q hq
  · rw [rr 2 _ (by omega) (by omega), f0 _ _ (by omega)]; exact G2 y hy
  · rw [cf_bc_bar cf_fw2_bc]; exact B
  · have b2 := b o ho j hj
    by_cases q : o = c
    · subst q
      refine ⟨eb j hj, ?_⟩
      rw [F _ _ (by unfold rx_ct; omega) (by unfold rx_ct; omega) (by unfold rx_ct; omega) (by unfold rx_ct; omega)]; exact b2.2
    · rw [F _ _ (by unfold rx_ct; omega) (by unfold rx_ct; omega) (by unfold rx_ct; omega) (by unfold rx_ct; omega), F _ _ (by unfold rx_ct; omega) (by unfold rx_ct; omega) (by unfold rx_ct; omega) (by unfold rx_ct; omega)]
      exact b2
  · rw [F _ _ (by omega) (by omega) (by unfold rx_ct; omega) (by unfold rx_ct; omega)]; exact e
section RXE
variable {L : Nat} {t : List (Nat × Nat)} {v : Nat → Nat → Option Nat}
variable {RI : Int32 → (Nat → Nat → Int32) → (Nat → Nat → Int64) → (Nat → Nat → Option Nat) → Prop}
theorem c106 {hi : Nat → Nat → Int32} {hl : Nat → Nat → Int64} {S : cf_S} {ls : Nat} (A : cf_A S ls hi hl) {x : Int32} {T : Nat} {tm : Nat → Nat} (hT : T ≤ 400) (e5 : hi 84 5 = nI T) (htm : ∀ j, j < T → tm j < 7 ∧ hi 85 j = nI (tm j))
    (k0 : cf_gz S (cf_cn (S 0 2) x) → RI (-2) hi hl v)
    (k1 : ∀ c, c < S 0 2 → c + 1 = cf_cn (S 0 2) x → ¬ cf_gz S (c + 1) → cf_jr S c (cf_tmv T tm) T (max T (cf_set S) + 2) 0 (S 9 c) (S 12) 0 0 < 0 → ∀ hi2, (∀ a b, ¬ a = 86 → ¬ a = 87 → hi2 a b = hi a b) → RI (cf_jr S c (cf_tmv T tm) T (max T (cf_set S) + 2) 0 (S 9 c) (S 12) 0 0) hi2 hl v)
    (k2 : ∀ c, c < S 0 2 → c + 1 = cf_cn (S 0 2) x → ¬ cf_gz S (c + 1) → ¬ cf_jr S c (cf_tmv T tm) T (max T (cf_set S) + 2) 0 (S 9 c) (S 12) 0 0 < 0 → ∀ hi2 hl2, (∀ a b, (a < 13 ∨ 76 ≤ a) → ¬ a = 86 → ¬ a = 87 → hi2 a b = hi a b) → (∀ a b, (a < 13 ∨ 76 ≤ a) → hl2 a b = hl a b) → cf_A (cf_fw2 S c T tm) ls hi2 hl2 → RI (cf_jr S c (cf_tmv T tm) T (max T (cf_set S) + 2) 0 (S 9 c) (S 12) 0 0) hi2 hl2 v) : rx_CI L t 106 [.ref 1, .int x] hi hl v RI := by
  have X := A.1
  have V := X.1.1
  have C := X.1.2.2.2.2.1
  have h6 := V.2.2.1
  refine w106_guest (c59 V C ?_)
  by_cases h0 : cf_cn (S 0 2) x = 0
  · exact Or.inl ⟨if_pos h0, c_retI (k0 (Or.inl h0))⟩
  rw [if_neg h0]
  have hc := (cf_cn_x h6 (Nat.pos_of_ne_zero h0)).2
  have hcn : cf_cn (S 0 2) x - 1 + 1 = cf_cn (S 0 2) x := by omega
  have kz := k0
  revert hc hcn
  rw [show cf_cn (S 0 2) x = (cf_cn (S 0 2) x - 1) + 1 by omega] at kz
  revert kz
  generalize cf_cn (S 0 2) x - 1 = c
  intro kz hc hcn
  have hC := C.2.2.1 c hc
  have v4 := (V.2.2.2.2.2.2.1 c hc).2.2.2.1
  have v3 := (V.2.2.2.2.2.2.1 c hc).1
  refine Or.inr ⟨c, by omega, rfl, fun g3 => ⟨fun g4 => c_retI (kz (Or.inr (Or.inr (Or.inl ?_)))), fun g4 => ?_⟩, fun g3 => c_retI (kz (Or.inr (Or.inl ?_)))⟩
  · rw [hC.2.2.1, cf_lt, nI_toInt (by omega)] at g4
    have : ((0 : Int32)).toInt = 0 := rfl
    rw [Nat.add_sub_cancel]
    omega
  · rw [hC.1, show (3 : Int32) = nI 3 from rfl, nI_eq (by omega) (by omega)] at g3
    have h4 : S 4 c = 0 := by
      rw [hC.2.2.1, cf_lt, nI_toInt (by omega)] at g4
      have : ((0 : Int32)).toInt = 0 := rfl
      omega
    refine c107 V C ⟨fun g => ?_, fun g => c_retI (kz (Or.inr (Or.inr (Or.inr (cf_B_ne g)))))⟩
    have hg : ¬ cf_gz S (c + 1) := by
      rintro (q | q | q | q)
      · omega
      · rw [Nat.add_sub_cancel] at q; exact q g3
      · rw [Nat.add_sub_cancel] at q; omega
      · rw [cf_B_eq g] at q; cases q
    refine c101 X hc hT e5 htm (fun hi2 F => ⟨fun z => c_retI (k1 c hc hcn hg z hi2 F), fun z => ⟨0, 0, T, rfl, rfl, (F _ _ (by omega) (by omega)).trans e5, by omega, by omega, fun _ i hi0 => ?_, ?_⟩⟩)
    · rw [F _ _ (by omega) (by omega), Nat.zero_add, (htm i hi0).2]; exact cf_bt7 (htm i hi0).1
    · have V' := cf_fw2_V (S := S) V hc hT (fun j hj => (htm j hj).1)
      generalize hhi3 : rx_u (rx_row hi2 (rx_ct c + 1) (va_cpy (hi2 85) (hi2 (rx_ct c + 1)) 0 0 T)) (rx_ct c) 7 ((rx_row hi2 (rx_ct c + 1) (va_cpy (hi2 85) (hi2 (rx_ct c + 1)) 0 0 T)) 84 5) = hi3
      have F3 : ∀ a b, ¬ a = 86 → ¬ a = 87 → ¬ a = rx_ct c + 1 → ¬ (a = rx_ct c ∧ b = 7) → hi3 a b = hi a b := fun a b q1 q2 q3 q4 => by
        rw [← hhi3, cf_ru_ne q4]
        unfold rx_row
        rw [if_neg q3]; exact F a b q1 q2
      have ew0 : ∀ j, hi3 (rx_ct c + 1) j = va_cpy (hi2 85) (hi2 (rx_ct c + 1)) 0 0 T j := fun j => by
        rw [← hhi3, cf_ru_ne (by omega)]
        unfold rx_row
        rw [if_pos rfl]
      have ew : ∀ j, j < T → hi3 (rx_ct c + 1) j = nI (tm j) := fun j hj => by
        rw [ew0]
        unfold va_cpy
        rw [if_pos (by omega), ← (htm j hj).2, ← F 85 j (by omega) (by omega)]
        congr 1; omega
      have e7 : hi3 (rx_ct c) 7 = nI T := by
        rw [← hhi3, cf_ru_eq]
        unfold rx_row
        rw [if_neg (by unfold rx_ct; omega), F _ _ (by omega) (by omega)]; exact e5
      have eb : ∀ b, b < 400 → fits .byte (.int (hi3 (rx_ct c + 1) b)) = true := fun b hb => by
        by_cases q : b < T
        · rw [ew b q]; exact cf_bt7 (htm b q).1
        · rw [ew0]
          unfold va_cpy
          rw [if_neg (by omega), F _ _ (by unfold rx_ct; omega) (by unfold rx_ct; omega)]
          exact (A.2.1 c (by omega) b hb).1
      obtain ⟨X3, b3, e3⟩ := cf_fw2_A A V' hc F3 e7 ew eb
      refine c41 X3 (fun hi4 hl4 F4 R4 => c_retI (k2 c hc hcn hg z hi4 hl4 (fun a b q1 q2 q3 => ?_) (fun a b q => ?_) ⟨⟨?_, R4⟩, ?_, ?_⟩))
      · rw [F4.1 a b (by unfold cf_rw; omega)]
        exact F3 a b q2 q3 (by unfold rx_ct; omega) (by unfold rx_ct; omega)
      · exact F4.2 a b (by unfold cf_rwl; omega)
      · exact cf_X_fr X3 F4
      · exact cf_bts_fC b3 (cf_fr_fC F4)
      · rw [F4.1 76 3 (by unfold cf_rw; omega)]; exact e3
  · rw [hC.1, show (3 : Int32) = nI 3 from rfl, nI_eq (by omega) (by omega)] at g3
    rw [Nat.add_sub_cancel]; exact g3
end RXE
