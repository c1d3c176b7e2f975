/-! few of both. -/
theorem cf_pop_rk {S : cf_S} {hi : Nat → Nat → Int32} {hl : Nat → Nat → Int64} (X : cf_XR S hi hl) : cf_pop ((hl 7 2) &&& ((hl 7 10) ^^^ -1)) = cf_rk S 64 := by
  have key : ∀ n, n ≤ 64 → cf_sum (fun q => bif cf_has ((hl 7 2) &&& ((hl 7 10) ^^^ -1)) q then 1 else 0) n = cf_rk S n := by
    intro n
    induction n with
    | zero => intro _; rfl
    | succ n ih =>
      intro h
      rw [cf_sum, ih (by omega), cf_rk_s, cf_fs_m X (by omega)]
  exact key 64 (Nat.le_refl _)
section RXE
variable {L : Nat} {t : List (Nat × Nat)}
set_option maxRecDepth 100000 in
theorem c121 {hi : Nat → Nat → Int32} {hl : Nat → Nat → Int64} {v : Nat → Nat → Option Nat} {S : cf_S} {ls : Nat} (I : cf_Ir ls S) (X : cf_XR S hi hl) (Ey : cf_Ey t v) {a0 a1 a2 : Int32} {Q : Option Value → rx_H → Prop}
    (k0 : cf_fwz S a0 a1 a2 → Q (some (.int (-2))) (rx_hp L t hi hl v))
    (k1 : ¬ cf_fwz S a0 a1 a2 → ∀ z hi2 hl2 v2, (∀ a b, a < 134 → hi2 a b = hi a b) → (∀ a b, a < 134 → hl2 a b = hl a b) → (∀ b, v2 6 b = v 6 b) → v2 1 7 = some 134 → cf_an (cf_gg S (cf_us S a0 a1 a2)) (cf_ss S (cf_us S a0 a1 a2)) (cf_st3 S (cf_us S a0 a1 a2)) z → Q (some (.int z)) (rx_hp L rx_tr hi2 hl2 v2)) :
    rx_me 121 [.ref 1, .int a0, .int a1, .int a2] (rx_hp L t hi hl v) Q := by
  have V := X.1.1
  have C := X.1.2.2.2.2.1
  have h6 := V.2.2.1
  have nt : ∀ {z : Bool} {p : Prop}, (z = true ↔ p) → cf_B z = 0 → ¬ p := fun {z p} h q w => by rw [h.mpr w] at q; exact absurd q (by decide)
  -- leastSum
  have last : ∀ p hi' hl' v', ¬ cf_fwz S a0 a1 a2 → (∀ a b, a < 134 → hi' a b = hi a b) → (∀ a b, a < 134 → hl' a b = hl a b) → (∀ b, v' 6 b = v 6 b) → v' 1 7 = some 134 → rx_aw 121 115 [.ref 1, .int a0, .int a1, .int a2, .int p] [] (rx_hp L rx_tr hi' hl' v') Q := by
    intro p hi' hl' v' nz F Fl Fv e7
    obtain ⟨W, e0, e1, e2, _⟩ := cf_us_ok V nz
    have X' : cf_XR S hi' hl' := cf_A_XR X (fun a b _ h => F a b (by omega)) (fun a b _ h => Fl a b (by omega))
    refine rx_aw_s 1 (pc := 115) rfl ?_
    refine rx_aw_getf (pc := 116) (f := 711) rfl rfl ?_
    have eg : rx_gv (rx_hp L rx_tr hi' hl' v') 1 711 = .ref 134 := by
      show va_rf (rx_hr v' 1 7) = .ref 134
      have : rx_hr v' 1 7 = v' 1 7 := rfl
      rw [this, e7]; rfl
    rw [eg]
    refine rx_aw_s 3 (pc := 119) rfl ?_
    show rx_aw 121 122 [.ref 1, .int a0, .int a1, .int a2, .int p] [.int a2, .int a1, .int a0, .ref 134] (rx_hp L rx_tr hi' hl' v') Q
    refine rx_w_callI (j := 124) (pc := 122) rfl rfl rfl rfl rfl ?_
    have cc : rx_CI L rx_tr 124 [.ref 134, .int a0, .int a1, .int a2] hi' hl' v' (fun z hi2 hl2 v2 => rx_aw 121 125 [.ref 1, .int a0, .int a1, .int a2, .int p] [.int z] (rx_hp L rx_tr hi2 hl2 v2) Q) := by
      have := c124 (L := L) (v := v') (RI := fun z hi2 hl2 v2 => rx_aw 121 125 [.ref 1, .int a0, .int a1, .int a2, .int p] [.int z] (rx_hp L rx_tr hi2 hl2 v2) Q) I X' W (fun z hi2 F2 A => rx_aw_ret (pc := 125) rfl (k1 nz z hi2 hl' v' (fun a b h => (F2 a b (by omega)).trans (F a b h)) Fl Fv e7 A))
      rw [← e0, ← e1, ← e2] at this
      exact this
    refine rx_aw.mono cc (fun r h2 k => ?_)
    obtain ⟨z1, rfl, hi1, hl1, v1, rfl, k⟩ := k
    exact ⟨z1, rfl, k⟩
  -- the Trio, made or not
  have trio : ∀ p, ¬ cf_fwz S a0 a1 a2 → rx_aw 121 89 [.ref 1, .int a0, .int a1, .int a2, .int p] [] (rx_hp L t hi hl v) Q := by
    intro p nz
    rcases Ey with ⟨rfl, e7⟩ | ⟨rfl, e7⟩
    · refine rx_aw_s 1 (pc := 89) rfl ?_
      refine rx_aw_getf (pc := 90) (f := 711) rfl rfl ?_
      have eg : rx_gv (rx_hp L [] hi hl v) 1 711 = .null := by
        show va_rf (rx_hr v 1 7) = .null
        have : rx_hr v 1 7 = v 1 7 := rfl
        rw [this, e7]; rfl
      rw [eg]
      refine rx_aw_s 1 (pc := 93) rfl ?_
      refine rx_aw_s 7 (pc := 96) rfl ?_
      show rx_aw 121 109 [.ref 1, .int a0, .int a1, .int a2, .int p] [.ref 13, .ref 7, .ref 134, .ref 134, .ref 1] (rx_t0 L hi hl v) Q
      refine rx_w_callV (j := 123) (pc := 109) rfl rfl rfl rfl rfl (w123 ⟨rfl, ?_⟩)
      show rx_aw 121 112 [.ref 1, .int a0, .int a1, .int a2, .int p] [.ref 134, .ref 1] (rx_t1 L hi hl v) Q
      refine rx_aw_s 1 (pc := 112) rfl ?_
      show rx_aw 121 115 [.ref 1, .int a0, .int a1, .int a2, .int p] [] (rx_sr (rx_t1 L hi hl v) 1 7 (some 134)) Q
      rw [rx_t1_hp]
      refine last p _ _ _ nz (fun a b h => by rw [cf_ru_ne (by omega), rx_z9_lt h]) (fun a b h => rx_z9_lt h) (fun b => ?_) ?_
      · unfold rx_v9
        rw [if_neg (by omega), if_neg (by omega), if_neg (by omega)]; rfl
      · unfold rx_v9; rw [if_pos ⟨rfl, rfl⟩]
    · refine rx_aw_s 1 (pc := 89) rfl ?_
      refine rx_aw_getf (pc := 90) (f := 711) rfl rfl ?_
      have eg : rx_gv (rx_hp L rx_tr hi hl v) 1 711 = .ref 134 := by
        show va_rf (rx_hr v 1 7) = .ref 134
        have : rx_hr v 1 7 = v 1 7 := rfl
        rw [this, e7]; rfl
      rw [eg]
      refine rx_aw_s 1 (pc := 93) rfl ?_
      exact last p hi hl v nz (fun _ _ _ => rfl) (fun _ _ _ => rfl) (fun _ => rfl) e7
  have no1 : ∀ p, cf_fwz S a0 a1 a2 → rx_aw 121 41 [.ref 1, .int a0, .int a1, .int a2, .int p] [] (rx_hp L t hi hl v) Q := fun p z => by
    refine rx_aw_s 1 (pc := 41) rfl ?_
    exact rx_aw_ret (pc := 43) rfl (k0 z)
  have no2 : ∀ p, cf_fwz S a0 a1 a2 → rx_aw 121 86 [.ref 1, .int a0, .int a1, .int a2, .int p] [] (rx_hp L t hi hl v) Q := fun p z => by
    refine rx_aw_s 1 (pc := 86) rfl ?_
    exact rx_aw_ret (pc := 88) rfl (k0 z)
  -- behind the three
  have rest : ∀ p, (a2 = -1 ∨ ¬ a2 = -1) → cf_1 S (cf_cn (S 0 2) a0) → cf_1 S (cf_cn (S 0 2) a1) → (¬ a2 = -1 → cf_1 S (cf_cn (S 0 2) a2)) → rx_aw 121 44 [.ref 1, .int a0, .int a1, .int a2, .int p] [] (rx_hp L t hi hl v) Q := by
    intro p _ h0 h1 h2
    have m1 : a2 = -1 → ¬ a0 = a2 ∧ ¬ a1 = a2 := fun z => by
      have key : ∀ y : Int32, 0 < cf_cn (S 0 2) y → ¬ y = a2 := fun y hy w => by
        have := (cf_cn_x h6 hy).1
        have this : (-1 : Int32) = nI (cf_cn (S 0 2) y - 1) := (w.trans z).symm.trans this
        have hlt := (cf_cn_x h6 hy).2
        have e : ((-1 : Int32)).toInt = -1 := rfl
        rw [cf_eqI, e, nI_toInt (by omega)] at this
        omega
      exact ⟨key a0 h0.1, key a1 h1.1⟩
    refine rx_aw_s 3 (pc := 44) rfl ?_
    refine rx_w_if (c := a0 = a1) ⟨fun q => no2 p (Or.inr (Or.inr (Or.inl q))), fun q => ?_⟩
    refine rx_aw_s 3 (pc := 49) rfl ?_
    refine rx_w_if (c := a0 = a2) ⟨fun q2 => ?_, fun q2 => ?_⟩
    · have : ¬ a2 = -1 := fun z => (m1 z).1 q2
      exact no2 p (Or.inr (Or.inr (Or.inr (Or.inl ⟨this, Or.inr (Or.inl q2.symm)⟩))))
    refine rx_aw_s 3 (pc := 54) rfl ?_
    refine rx_w_if (c := a1 = a2) ⟨fun q3 => ?_, fun q3 => ?_⟩
    · have : ¬ a2 = -1 := fun z => (m1 z).2 q3
      exact no2 p (Or.inr (Or.inr (Or.inr (Or.inl ⟨this, Or.inr (Or.inr q3.symm)⟩))))
    refine rx_aw_s 9 (pc := 59) rfl ?_
    show rx_aw 121 78 [.ref 1, .int a0, .int a1, .int a2, .int p] [.long ((hl 7 2) &&& ((hl 7 10) ^^^ -1))] (rx_hp L t hi hl v) Q
    refine rx_w_callI (j := 13) (pc := 78) rfl rfl rfl rfl rfl ?_
    have cc := c13 (L := L) (t := t) (hi := hi) (hl := hl) (v := v) (x := (hl 7 2) &&& ((hl 7 10) ^^^ -1)) (RI := fun z hi2 hl2 v2 => rx_aw 121 81 [.ref 1, .int a0, .int a1, .int a2, .int p] [.int z] (rx_hp L t hi2 hl2 v2) Q) (by
      rw [cf_pop_rk X]
      have hle : cf_rk S 64 ≤ 64 := cf_cnt_le _ _
      refine rx_aw_s 2 (pc := 81) rfl ?_
      refine rx_w_if (c := nI (cf_rk S 64) ≤ (20 : Int32)) ⟨fun q4 => trio p ?_, fun q4 => no2 p (Or.inr (Or.inr (Or.inr (Or.inr ?_))))⟩
      · rw [show (20 : Int32) = nI 20 from rfl, cf_nle (by omega) (by omega)] at q4
        rintro (z | z | z | ⟨z1, z | z | z⟩ | z)
        · exact z h0
        · exact z h1
        · exact q z
        · exact z (h2 z1)
        · exact q2 z.symm
        · exact q3 z.symm
        · omega
      · rw [show (20 : Int32) = nI 20 from rfl, cf_nle (by omega) (by omega)] at q4
        omega)
    refine rx_aw.mono cc (fun r h2 k => ?_)
    obtain ⟨z1, rfl, hi1, hl1, v1, rfl, k⟩ := k
    exact ⟨z1, rfl, k⟩
  have main : ∀ p : Int32, (p = 0 ↔ ¬ a2 = -1) → rx_aw 121 12 [.ref 1, .int a0, .int a1, .int a2, .int p] [] (rx_hp L t hi hl v) Q := by
    intro p hp
    refine rx_aw_s 2 (pc := 12) rfl ?_
    show rx_aw 121 14 [.ref 1, .int a0, .int a1, .int a2, .int p] [.int a0, .ref 1] (rx_hp L t hi hl v) Q
    refine rx_w_callI (j := 122) (pc := 14) rfl rfl rfl rfl rfl ?_
    have cc := c122 (L := L) (t := t) (hl := hl) (v := v) (x := a0) (RI := fun z hi2 hl2 v2 => rx_aw 121 17 [.ref 1, .int a0, .int a1, .int a2, .int p] [.int z] (rx_hp L t hi2 hl2 v2) Q) V C (fun z hz => by
      refine rx_aw_s 1 (pc := 17) rfl ?_
      refine rx_w_if (c := cf_B z = 0) ⟨fun q => no1 p (Or.inl (nt hz q)), fun q => ?_⟩
      refine rx_aw_s 2 (pc := 20) rfl ?_
      show rx_aw 121 22 [.ref 1, .int a0, .int a1, .int a2, .int p] [.int a1, .ref 1] (rx_hp L t hi hl v) Q
      refine rx_w_callI (j := 122) (pc := 22) rfl rfl rfl rfl rfl ?_
      have c2 := c122 (L := L) (t := t) (hl := hl) (v := v) (x := a1) (RI := fun z hi2 hl2 v2 => rx_aw 121 25 [.ref 1, .int a0, .int a1, .int a2, .int p] [.int z] (rx_hp L t hi2 hl2 v2) Q) V C (fun z2 hz2 => by
        refine rx_aw_s 1 (pc := 25) rfl ?_
        refine rx_w_if (c := cf_B z2 = 0) ⟨fun q2 => no1 p (Or.inr (Or.inl (nt hz2 q2))), fun q2 => ?_⟩
        refine rx_aw_s 2 (pc := 28) rfl ?_
        refine rx_w_ifn (c := p = 0) ⟨fun q3 => ?_, fun q3 => ?_⟩
        · have hm := hp.mp q3
          refine rx_aw_s 2 (pc := 33) rfl ?_
          show rx_aw 121 35 [.ref 1, .int a0, .int a1, .int a2, .int p] [.int a2, .ref 1] (rx_hp L t hi hl v) Q
          refine rx_w_callI (j := 122) (pc := 35) rfl rfl rfl rfl rfl ?_
          have c3 := c122 (L := L) (t := t) (hl := hl) (v := v) (x := a2) (RI := fun z hi2 hl2 v2 => rx_aw 121 38 [.ref 1, .int a0, .int a1, .int a2, .int p] [.int z] (rx_hp L t hi2 hl2 v2) Q) V C (fun z3 hz3 => by
            refine rx_aw_s 1 (pc := 38) rfl ?_
            refine rx_w_ifn (c := cf_B z3 = 0) ⟨fun q4 => no1 p (Or.inr (Or.inr (Or.inr (Or.inl ⟨hm, Or.inl (nt hz3 q4)⟩)))), fun q4 => rest p (Classical.em _) (hz.mp (cf_B_ne q)) (hz2.mp (cf_B_ne q2)) (fun _ => hz3.mp (cf_B_ne q4))⟩)
          refine rx_aw.mono c3 (fun r h2 k => ?_)
          obtain ⟨z1, rfl, hi1, hl1, v1, rfl, k⟩ := k
          exact ⟨z1, rfl, k⟩
        · exact rest p (Classical.em _) (hz.mp (cf_B_ne q)) (hz2.mp (cf_B_ne q2)) (fun w => absurd (hp.mpr w) q3))
      refine rx_aw.mono c2 (fun r h2 k => ?_)
      obtain ⟨z1, rfl, hi1, hl1, v1, rfl, k⟩ := k
      exact ⟨z1, rfl, k⟩)
    refine rx_aw.mono cc (fun r h2 k => ?_)
    obtain ⟨z1, rfl, hi1, hl1, v1, rfl, k⟩ := k
    exact ⟨z1, rfl, k⟩
  show rx_aw 121 0 [.ref 1, .int a0, .int a1, .int a2, rx_no] [] (rx_hp L t hi hl v) Q
  refine rx_aw_s 3 (pc := 0) rfl ?_
  refine rx_w_ifn (c := a2 = (-1 : Int32)) ⟨fun q => ?_, fun q => ?_⟩
  · refine rx_aw_s 3 (pc := 5) rfl ?_
    exact main 1 ⟨fun z => absurd z (by decide), fun z => absurd q z⟩
  · refine rx_aw_s 2 (pc := 9) rfl ?_
    exact main 0 ⟨fun _ => q, fun _ => rfl⟩
end RXE
/-- few of both: the same answer, and at rest again; the Trio may have been made -/
def cf_prt (L : Nat) (t : List (Nat × Nat)) (a b : Nat) (as : List Value) : Prop := ∀ S ls hi hl v, cf_rel t S ls hi hl v → rx_me a (.ref 1 :: as) (rx_hp L t hi hl v) (fun r h2 => ∃ (z : Int32) (t2 : List (Nat × Nat)), r = some (.int z) ∧ rx_ok2 L t2 h2 (fun hi2 hl2 v2 => rx_CI L t2 b (.ref 90 :: as) hi2 hl2 v2 (fun z2 hi3 hl3 v3 => z2 = z ∧ cf_Rel t2 hi3 hl3 v3)))
theorem cf_pr_few {L : Nat} {t : List (Nat × Nat)} (a0 a1 a2 : Int32) : cf_prt L t 121 228 [.int a0, .int a1, .int a2] := by
  intro S ls hi hl v R
  obtain ⟨I, A, Z, E⟩ := id R
  have fE : ∀ (t2 : List (Nat × Nat)) (hi2 : Nat → Nat → Int32) (hl2 : Nat → Nat → Int64) (v2 : Nat → Nat → Option Nat) (hi3 : Nat → Nat → Int32) (hl3 : Nat → Nat → Int64), (∀ a b, a < 134 → hi2 a b = hi a b) → (∀ a b, a < 134 → hl2 a b = hl a b) → (∀ b, v2 6 b = v 6 b) → cf_Ey t2 v2 → cf_fF hi2 hi3 → (∀ a b, ¬ a = 131 → hl3 a b = hl2 a b) → cf_Rel t2 hi3 hl3 v2 := by
    intro t2 hi2 hl2 v2 hi3 hl3 F Fl Fv Ey F3 Fl3
    refine ⟨S, ls, I, cf_A_ext A (fun a b q1 q2 => (F3 a b (by omega) (by omega)).trans (F a b (by omega))) (fun a b q1 q2 => (Fl3 a b (by omega)).trans (Fl a b (by omega))), ⟨cf_RM_ext Z.1 (fun b q => ?_) (fun a b q1 q2 => (F3 a b (by omega) (by omega)).trans (F a b (by omega))) (fun a b q1 q2 => (Fl3 a b (by omega)).trans (Fl a b (by omega))), ?_⟩, ?_⟩
    · unfold cf_rf at q
      exact (F3 _ _ (by omega) (by omega)).trans (F _ _ (by omega))
    · exact ((F3 _ _ (by omega) (by omega)).trans (F _ _ (by omega))).trans Z.2
    · obtain ⟨E1, E2, E3, E4, E5, E6⟩ := E
      have G : ∀ a b, cf_er a b → hi3 a b = hi a b := fun a b q => by
        unfold cf_er at q
        exact (F3 a b (by omega) (by omega)).trans (F a b (by omega))
      unfold cf_er at G
      exact ⟨by rw [G 90 5 (by omega), G 1 8 (by omega)]; exact E1, cf_Et_ext E2 (G _ _ (by omega)) (G _ _ (by omega)) (fun b => G _ _ (by omega)) (fun b => G _ _ (by omega)), cf_Eh_ext E3 (fun b => G _ _ (by omega)) (fun b => G _ _ (by omega)) (fun b => G _ _ (by omega)) (fun b => G _ _ (by omega)), cf_Em_ext E4 (fun b => G _ _ (by omega)) (fun b => G _ _ (by omega)), cf_El_ext E5 (G _ _ (by omega)) (G _ _ (by omega)) (G _ _ (by omega)) (G _ _ (by omega)) (fun b => G _ _ (by omega)) Fv, Ey⟩
  refine c121 I A.1 E.2.2.2.2.2 (fun z => ⟨_, t, rfl, hi, hl, v, rfl, ?_⟩) (fun nz z hi2 hl2 v2 F Fl Fv e7 An => ⟨z, rx_tr, rfl, hi2, hl2, v2, rfl, ?_⟩)
  · exact c228 I Z.1 (fun _ hi2 F2 => ⟨rfl, fE t hi hl v hi2 hl (fun _ _ _ => rfl) (fun _ _ _ => rfl) (fun _ => rfl) E.2.2.2.2.2 F2 (fun _ _ _ => rfl)⟩) (fun q => absurd z q)
  · have Z2 : cf_RM S hi2 hl2 := cf_RM_ext Z.1 (fun b q => F _ _ (by omega)) (fun a b q1 q2 => F a b (by omega)) (fun a b q1 q2 => Fl a b (by omega))
    exact c228 I Z2 (fun q => absurd q nz) (fun _ z' hi3 hl3 F3 Fl3 An' => ⟨cf_an_u An An', fE rx_tr hi2 hl2 v2 hi3 hl3 F Fl Fv (Or.inr ⟨rfl, e7⟩) F3 Fl3⟩)
