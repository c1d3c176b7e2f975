/-! Search.arrivesHeaded, arrives, isSpent. -/
theorem cf_bt_and {x : Int64} {q : Nat} (hq : q < 64) : (x &&& cf_bt q) = 0 ↔ cf_has x q = false := by
  rw [cf_he0]
  constructor
  · intro h
    have := h q hq
    rwa [cf_hand, cf_hbt, decide_eq_true hq, decide_eq_true rfl, Bool.and_true, Bool.and_true] at this
  · intro h p hp
    rw [cf_hand, cf_hbt]
    by_cases e : q = p
    · subst e; rw [h, Bool.false_and]
    · rw [decide_eq_false e, Bool.and_false, Bool.and_false]
/-- for good: the class's set of what is taken ever after and the reference's -/
theorem cf_never {S : cf_S} (V : cf_V S) {c l f u s : Nat} (hE : S 4 c ≤ f) (hf : f ≤ 400) (hu : f ≤ u) (hu2 : u ≤ 400) (hs : cf_vs (S 0 0) (S 0 1) (cf_two (S 3 c)) s) (h0 : (cf_std (S 0 0) (S 0 1) (cf_two (S 3 c)) s &&& cf_gT S (cf_sp S) (cf_hd S) c l u) = 0) {x : Int64}
    (hx : ∀ q, q < 64 → cf_has x q = cf_any (fun j => cf_has (cf_blk S c l (min u (cf_clm S c f) + j)) q) (cf_clm S c f + 1 - min u (cf_clm S c f))) : (cf_std (S 0 0) (S 0 1) (cf_two (S 3 c)) s &&& x) = 0 ↔ (cf_std (S 0 0) (S 0 1) (cf_two (S 3 c)) s &&& cf_gL S (cf_sp S) (cf_hd S) c l u) = 0 := by
  have hwh := cf_V_wh V
  have hclm := cf_clm_b V (c := c) (show f ≤ 401 by omega)
  have hsin := cf_std_in hwh hs
  rw [cf_dj] at h0
  rw [cf_dj, cf_dj]
  -- at a square of the cart
  have at1 : ∀ p, cf_has (cf_std (S 0 0) (S 0 1) (cf_two (S 3 c)) s) p = true → ∀ u', (cf_has (cf_blk S c l u') p = true ↔ cf_has (cf_othg (S 0 2) (cf_hd S) c u') p = true ∨ cf_has (cf_rowg S (cf_sp S) c l u') p = true) := by
    intro p hp u'
    have hpl := hsin p hp
    have nb : cf_has (cf_bar S) p = false := by
      rw [cf_not_true]
      intro q
      apply h0 p hp
      unfold cf_gT
      rw [cf_hor, cf_hor, q]; rfl
    rw [cf_blk_gT (by omega), decide_eq_false (fun q => q hpl), Bool.false_or]
    unfold cf_gT
    rw [cf_hor, cf_hor, nb, Bool.false_or, Bool.or_eq_true]
  constructor
  · intro h p hp hL
    rw [cf_gL_has (by omega)] at hL
    obtain ⟨u', h1, h2, h3⟩ := hL
    have hb := (at1 p hp u').mpr h3
    apply h p hp
    rw [hx p (by have := hsin p hp; omega), cf_any_iff]
    rcases Nat.le_total u' (cf_clm S c f) with g | g
    · exact ⟨u' - min u (cf_clm S c f), by omega, by rw [show min u (cf_clm S c f) + (u' - min u (cf_clm S c f)) = u' by omega]; exact hb⟩
    · refine ⟨cf_clm S c f - min u (cf_clm S c f), by omega, ?_⟩
      rw [show min u (cf_clm S c f) + (cf_clm S c f - min u (cf_clm S c f)) = cf_clm S c f by omega, ← cf_calm_blk hE g]; exact hb
  · intro h p hp hX
    rw [hx p (by have := hsin p hp; omega), cf_any_iff] at hX
    obtain ⟨j, h1, h2⟩ := hX
    apply h p hp
    rw [cf_gL_has (by omega)]
    rcases Nat.le_total u (cf_clm S c f) with g | g
    · rw [Nat.min_eq_left g] at h1 h2
      exact ⟨u + j, by omega, by omega, (at1 p hp _).mp h2⟩
    · rw [Nat.min_eq_right g] at h1 h2
      have : j = 0 := by omega
      subst this
      rw [Nat.add_zero, ← cf_calm_blk hE g] at h2
      exact ⟨u, Nat.le_refl _, by omega, (at1 p hp _).mp h2⟩
theorem cf_u1 (u : Nat) : nI u &&& (1 : Int32) = nI (u % 2) := by
  rw [show (1 : Int32) = nI 1 from rfl, cf_nand, Nat.and_one_is_mod]
section RXE
variable {L : Nat} {t : List (Nat × Nat)} {hi : Nat → Nat → Int32} {hl : Nat → Nat → Int64} {v : Nat → Nat → Option Nat}
variable {RI : Int32 → (Nat → Nat → Int32) → (Nat → Nat → Int64) → (Nat → Nat → Option Nat) → Prop}
variable {RV : (Nat → Nat → Int32) → (Nat → Nat → Int64) → (Nat → Nat → Option Nat) → Prop}
theorem c69 {S : cf_S} {c l f tg wt : Nat} {last : Bool} (X : cf_CX S c l f tg wt last hi hl v) (hc : c < S 0 2) (htg : tg < S 0 0 * S 0 1) {u d : Nat} (hu2 : u ≤ 400) (hd : d < 4) {x : Int64}
    (k : RI (cf_B (cf_has (hl 80 (4 * u + d)) tg && decide ((cf_std (S 0 0) (S 0 1) (cf_two (S 3 c)) (tg + 64 * d) &&& x) = 0))) hi hl v) : rx_CI L t 69 [.ref 77, .int (nI u), .int (nI d), .long x] hi hl v RI := by
  obtain ⟨⟨X1, R⟩, hv, h10, _, _, _, _⟩ := X
  have V := X1.1
  have h6 := V.2.2.1
  have hwh := cf_V_wh V
  have hkd := (V.2.2.2.2.2.2.1 c hc).1
  have hC := X1.2.2.2.2.1.2.2.1 c hc
  obtain ⟨g1, g2⟩ := cf_cod (show tg < 64 by omega) hd
  refine w69_arrivesHeaded ⟨4 * u + d, cf_4i, by omega, ?_⟩
  rw [h10]
  refine c9 (by omega) ⟨fun g => c_retI ?_, fun g => Or.inr ⟨c, by omega, hv, ?_⟩⟩
  · rw [cf_cmp0, cf_bt_and (by omega)] at g
    rw [g, Bool.false_and] at k; exact k
  · rw [cf_cmp0, cf_bt_and (by omega), Bool.not_eq_false] at g
    rw [g, Bool.true_and] at k
    rw [h10, hC.1]
    refine c55 (l := 0) (by omega) hd (by decide) ?_
    rw [Nat.mul_zero, Nat.add_zero]
    refine c42 X1.2.1 X1.2.2.1 hkd (by rw [g1]; exact htg) ⟨fun g3 => c_retI ?_, fun g3 => c_retI ?_⟩
    · rw [cf_cmp0] at g3
      rw [decide_eq_true g3] at k; exact k
    · rw [cf_cmp0] at g3
      rw [decide_eq_false g3] at k; exact k
theorem c68 {S : cf_S} {c l f tg wt : Nat} {last : Bool} (X : cf_CX S c l f tg wt last hi hl v) (hc : c < S 0 2) (hE : S 4 c ≤ f) (hf : f ≤ 400) (htg : tg < S 0 0 * S 0 1) (hwt : wt ≤ S 0 3) {u : Nat} (hu : f ≤ u) (hu2 : u ≤ 400) {ly : Nat → Bool} (hv : cf_lyv S c l u ly) (Y : cf_LY hl u ly)
    (k0 : (∀ s, ly s = true → cf_gl S (cf_st S) (cf_sp S) (cf_gL S (cf_sp S) (cf_hd S) c l) c tg wt last s u = false) → RI 0 hi hl v)
    (k1 : ∀ s, ly s = true → cf_gl S (cf_st S) (cf_sp S) (cf_gL S (cf_sp S) (cf_hd S) c l) c tg wt last s u = true → ∀ hi2 hl2, (∀ a b, ¬ a = 82 → hi2 a b = hi a b) → (∀ a b, ¬ (a = 80 ∧ 4 * u ≤ b ∧ b < 4 * u + 4) → hl2 a b = hl a b) →
      cf_LY hl2 u (fun s => ly s && cf_gl S (cf_st S) (cf_sp S) (cf_gL S (cf_sp S) (cf_hd S) c l) c tg wt last s u) → (∀ s, ly s = true → cf_gl S (cf_st S) (cf_sp S) (cf_gL S (cf_sp S) (cf_hd S) c l) c tg wt last s u = true → hi2 82 (u % 2 * 256 + s) = 0) → RI 1 hi2 hl2 v) :
    rx_CI L t 68 [.ref 77, .int (nI u)] hi hl v RI := by
  have X0 := X
  obtain ⟨X1, hv8, h10, h11, h12, h9, htab⟩ := X
  have V := X1.1.1
  have h6 := V.2.2.1
  have h12m := V.2.2.2.1
  have hwh := cf_V_wh V
  have hclm := cf_clm_b V (c := c) (show f ≤ 401 by omega)
  have hclf : f ≤ cf_clm S c f := by unfold cf_clm; omega
  generalize hgl : (fun s => cf_gl S (cf_st S) (cf_sp S) (cf_gL S (cf_sp S) (cf_hd S) c l) c tg wt last s u) = gl at *
  have hgle : ∀ s, cf_gl S (cf_st S) (cf_sp S) (cf_gL S (cf_sp S) (cf_hd S) c l) c tg wt last s u = gl s := fun s => by rw [← hgl]
  simp only [hgle] at k0 k1
  -- the two loops, the SHELF being where it must be
  have rest : (decide (wt = 0) || cf_ly (S 0 2) (cf_st S u) (cf_sp S u) tg (wt - 1)) = true → ∀ x : Int64, (last = false → x = 0) → (last = true → ∀ q, q < 64 → cf_has x q = cf_any (fun j => cf_has (cf_blk S c l (min u (cf_clm S c f) + j)) q) (cf_clm S c f + 1 - min u (cf_clm S c f))) →
      rx_aw 68 59 [.ref 77, .int (nI u), .long x, rx_no, .int 0, .int 0, rx_no] [] (rx_hp L t hi hl v) (fun r h2 => ∃ z : Int32, r = some (.int z) ∧ rx_ok2 L t h2 (RI z)) := by
    intro hw x hx0 hx1
    -- a state at the goal arrives as the class says
    have arr : ∀ d, d < 4 → ly (tg + 64 * d) = true → (gl (tg + 64 * d) = true ↔ (cf_std (S 0 0) (S 0 1) (cf_two (S 3 c)) (tg + 64 * d) &&& x) = 0) := by
      intro d hd hl1
      obtain ⟨v1, v2, v3⟩ := hv _ hl1
      rw [← hgle]
      unfold cf_gl
      rw [(cf_cod (show tg < 64 by omega) hd).1, decide_eq_true rfl, hw, Bool.true_and, Bool.true_and]
      cases hl2 : last with
      | false =>
        rw [hx0 hl2]
        refine ⟨fun _ => ?_, fun _ => rfl⟩
        rw [cf_dj]; intro q _ q2; rw [cf_h0] at q2; cases q2
      | true =>
        rw [Bool.not_true, Bool.false_or, decide_eq_true_iff]
        exact (cf_never V hE hf hu hu2 v1 v3 (hx1 hl2)).symm
    have hd4 : ∀ s, ly s = true → gl s = true → ∃ d, d < 4 ∧ s = tg + 64 * d := by
      intro s h1 h2
      rw [← hgle] at h2
      unfold cf_gl at h2
      rw [Bool.and_eq_true, Bool.and_eq_true, decide_eq_true_iff] at h2
      have := (hv s h1).2.1
      exact ⟨s / 64, by omega, by omega⟩
    have val : ∀ d, d < 4 → (cf_has (hl 80 (4 * u + d)) tg && decide ((cf_std (S 0 0) (S 0 1) (cf_two (S 3 c)) (tg + 64 * d) &&& x) = 0)) = (ly (tg + 64 * d) && gl (tg + 64 * d)) := by
      intro d hd
      rw [Y d hd tg (by omega)]
      cases hl1 : ly (tg + 64 * d) with
      | false => rfl
      | true =>
        rw [Bool.true_and, Bool.true_and]
        apply Bool.eq_iff_iff.mpr
        rw [decide_eq_true_iff]; exact (arr d hd hl1).symm
    -- the second loop
    have loop2 : ∀ s, ly s = true → gl s = true → ∀ d i, i + d = 4 → ∀ (hi2 : Nat → Nat → Int32) (hl2 : Nat → Nat → Int64), (∀ a b, ¬ a = 82 → hi2 a b = hi a b) → (∀ a b, ¬ (a = 80 ∧ 4 * u ≤ b ∧ b < 4 * u + i) → hl2 a b = hl a b) → (∀ e, e < i → ∀ q, q < 64 → cf_has (hl2 80 (4 * u + e)) q = (ly (q + 64 * e) && gl (q + 64 * e))) → (∀ e, e < i → hi2 82 (u % 2 * 256 + (tg + 64 * e)) = 0) →
        rx_aw 68 87 [.ref 77, .int (nI u), .long x, rx_no, .int 1, .int (nI i), rx_no] [] (rx_hp L t hi2 hl2 v) (fun r h2 => ∃ z : Int32, r = some (.int z) ∧ rx_ok2 L t h2 (RI z)) := by
      intro s hs1 hs2 d
      induction d with
      | zero =>
        intro i hi0 hi2 hl2 F Fl G G2
        have : i = 4 := by omega
        subst this
        refine w68_arrives_87 ⟨fun _ => ⟨Or.inr rfl, c_retI (k1 s hs1 hs2 hi2 hl2 F Fl G (fun s2 h1 h2 => ?_))⟩, fun g => absurd (by decide) g⟩
        obtain ⟨e, he, rfl⟩ := hd4 s2 h1 h2
        exact G2 e he
      | succ d ih =>
        intro i hi0 hi2 hl2 F Fl G G2
        have X2 : cf_CX S c l f tg wt last hi2 hl2 v := cf_CX_fx X0 ⟨F, fun a b q => Fl a b (by omega)⟩
        have ix : ∀ y : Int32, y = nI tg → ((nI u &&& 1) * 256 + ((nI i <<< ((6 : Int32) &&& 31)) ||| y)) = nI (u % 2 * 256 + (tg + 64 * i)) := by
          intro y hy
          rw [hy, cf_u1, show (6 : Int32) = nI 6 from rfl, cf_nshl i 6 (by decide), cf_nor, show (256 : Int32) = nI 256 from rfl, cf_nmul, nI_add, show (2 : Nat) ^ 6 = 64 from rfl, Nat.or_comm, cf_or6 (by omega)]
        have store : ∀ z : Int64, (∀ q, q < 64 → cf_has z q = (ly (q + 64 * i) && gl (q + 64 * i))) → rx_aw 68 87 [.ref 77, .int (nI u), .long x, rx_no, .int 1, .int (nI (i + 1)), rx_no] [] (rx_hp L t (rx_u hi2 82 (u % 2 * 256 + (tg + 64 * i)) 0) (rx_u hl2 80 (4 * u + i) z) v) (fun r h2 => ∃ z : Int32, r = some (.int z) ∧ rx_ok2 L t h2 (RI z)) := by
          intro z hz
          refine ih (i + 1) (by omega) _ _ (fun a b q => by rw [cf_ru_ne (by omega)]; exact F a b q) (fun a b q => by rw [cf_ru_ne (by omega)]; exact Fl a b (by omega)) (fun e he q hq => ?_) (fun e he => ?_)
          · by_cases ee : e = i
            · subst ee; rw [cf_ru_eq]; exact hz q hq
            · rw [cf_ru_ne (by omega)]; exact G e (by omega) q hq
          · by_cases ee : e = i
            · subst ee; rw [cf_ru_eq]
            · rw [cf_ru_ne (by omega)]; exact G2 e (by omega)
        refine w68_arrives_87 ⟨fun g => ?_, fun _ => ⟨fun g => absurd g (by decide), fun _ => ?_⟩⟩
        · rw [show (4 : Int32) = nI 4 from rfl] at g; exact absurd g (nI_ge (by omega) (by decide))
        have e80 : hl2 80 (4 * u + i) = hl 80 (4 * u + i) := Fl _ _ (by omega)
        have only : ∀ q, q < 64 → ¬ q = tg → (ly (q + 64 * i) && gl (q + 64 * i)) = false := by
          intro q hq hne
          rw [cf_not_true, Bool.and_eq_true]
          rintro ⟨h1, h2⟩
          obtain ⟨e, he, h3⟩ := hd4 _ h1 h2
          omega
        refine c69 X2 hc htg hu2 (by omega) ?_
        rw [e80, val i (by omega)]
        refine ⟨fun g => ⟨4 * u + i, cf_4i, by omega, u % 2 * 256 + (tg + 64 * i), ix _ X2.2.2.1, by omega, ?_⟩, fun g => ?_⟩
        · rw [nI_1]
          refine store 0 (fun q hq => ?_)
          rw [cf_h0]
          by_cases hne : q = tg
          · subst hne; exact (cf_B_eq g).symm
          · exact (only q hq hne).symm
        · rw [X2.2.2.1]
          refine c9 (by omega) ⟨4 * u + i, cf_4i, by omega, u % 2 * 256 + (tg + 64 * i), ix _ X2.2.2.1, by omega, ?_⟩
          rw [nI_1]
          refine store (cf_bt tg) (fun q hq => ?_)
          rw [cf_hbt, decide_eq_true (show tg < 64 by omega), Bool.true_and]
          by_cases hne : q = tg
          · subst hne; rw [cf_B_ne g, decide_eq_true rfl]
          · rw [only q hq hne, decide_eq_false (fun q => hne q.symm)]
    -- the first loop
    have loop1 : ∀ d i, i + d = 4 → rx_aw 68 59 [.ref 77, .int (nI u), .long x, rx_no, .int (cf_B (cf_any (fun e => ly (tg + 64 * e) && gl (tg + 64 * e)) i)), .int (nI i), rx_no] [] (rx_hp L t hi hl v) (fun r h2 => ∃ z : Int32, r = some (.int z) ∧ rx_ok2 L t h2 (RI z)) := by
      intro d
      induction d with
      | zero =>
        intro i hi0
        have : i = 4 := by omega
        subst this
        refine w68_arrives_59 ⟨fun _ => ?_, fun g => absurd (by decide) g⟩
        cases ha : cf_any (fun e => ly (tg + 64 * e) && gl (tg + 64 * e)) 4 with
        | false =>
          refine w68_arrives_87 ⟨fun g => absurd g (by decide), fun _ => ⟨fun _ => ⟨Or.inl rfl, c_retI (k0 (fun s h1 => ?_))⟩, fun g => absurd rfl g⟩⟩
          rw [cf_not_true]
          intro h2
          obtain ⟨e, he, rfl⟩ := hd4 s h1 h2
          have := cf_any_true (p := fun e => ly (tg + 64 * e) && gl (tg + 64 * e)) he (by rw [h1, h2]; rfl)
          rw [ha] at this; cases this
        | true =>
          obtain ⟨e, he, h⟩ := cf_any_iff.mp ha
          rw [Bool.and_eq_true] at h
          exact loop2 _ h.1 h.2 4 0 (by omega) hi hl (fun _ _ _ => rfl) (fun _ _ _ => rfl) (fun e he => by omega) (fun e he => by omega)
      | succ d ih =>
        intro i hi0
        have := ih (i + 1) (by omega)
        refine w68_arrives_59 ⟨fun g => ?_, fun _ => c69 X0 hc htg hu2 (by omega) ?_⟩
        · rw [show (4 : Int32) = nI 4 from rfl] at g; exact absurd g (nI_ge (by omega) (by decide))
        · rw [val i (by omega), nI_1]
          rw [cf_any] at this
          have eor : ∀ a b : Bool, cf_B a ||| cf_B b = cf_B (a || b) := by decide
          rw [eor]; exact this
    exact loop1 4 0 (by omega)
  have nev : ∀ j3, (if hi 77 9 < nI u then hi 77 9 else nI u) = nI j3 → j3 = min u (cf_clm S c f) → ∀ q, q < 64 → cf_has (hl 79 j3) q = cf_any (fun j => cf_has (cf_blk S c l (min u (cf_clm S c f) + j)) q) (cf_clm S c f + 1 - min u (cf_clm S c f)) := by
    intro j3 _ h q hq
    subst h
    exact (htab _ (by omega) (by omega)).2 q hq
  have tail : (decide (wt = 0) || cf_ly (S 0 2) (cf_st S u) (cf_sp S u) tg (wt - 1)) = true → ((hi 77 12) = 0 → rx_aw 68 59 [.ref 77, .int (nI u), .long 0, rx_no, .int 0, .int 0, rx_no] [] (rx_hp L t hi hl v) (fun r h2 => ∃ z : Int32, r = some (.int z) ∧ rx_ok2 L t h2 (RI z))) ∧ (¬ (hi 77 12) = 0 → (∃ j3 : Nat, (if hi 77 9 < nI u then hi 77 9 else nI u) = nI j3 ∧ j3 < 402 ∧ rx_aw 68 59 [.ref 77, .int (nI u), .long (hl 79 j3), rx_no, .int 0, .int 0, rx_no] [] (rx_hp L t hi hl v) (fun r h2 => ∃ z : Int32, r = some (.int z) ∧ rx_ok2 L t h2 (RI z)))) := by
    intro hw
    rw [h12]
    refine ⟨fun g => rest hw 0 (fun _ => rfl) (fun g2 => ?_), fun g => ⟨min u (cf_clm S c f), cf_min h9 (by omega) (by omega), by omega, rest hw _ (fun g2 => ?_) (fun _ => nev _ (cf_min h9 (by omega) (by omega)) rfl)⟩⟩
    · rw [cf_B_eq g] at g2; cases g2
    · rw [cf_B_ne g] at g2; cases g2
  refine w68_arrives ⟨fun g => tail ?_, fun g => ?_⟩
  · rw [h11, cf_oneg (by omega)] at g
    rw [decide_eq_true g]; rfl
  · rw [h11, cf_oneg (by omega)] at g
    obtain ⟨p, hp⟩ : ∃ p, wt = p + 1 := ⟨wt - 1, by omega⟩
    rw [h11, h10, hp, cf_oS]
    refine c46R X1 (by omega) (by omega) (by omega) ⟨fun g4 => c_retI (k0 (fun s h1 => ?_)), fun g4 => tail ?_⟩
    · rw [← hgle]
      unfold cf_gl
      rw [hp, Nat.add_sub_cancel, cf_B_eq g4, decide_eq_false (show ¬ p + 1 = 0 by omega), Bool.or_false, Bool.and_false, Bool.false_and]
    · rw [hp, Nat.add_sub_cancel, cf_B_ne g4, Bool.or_true]
theorem c76 {S : cf_S} {c l f tg wt : Nat} {last : Bool} (X : cf_CX S c l f tg wt last hi hl v) (hf : f ≤ 400) {u : Nat} (hu2 : u < 400) {ly ly2 : Nat → Bool} (Y : cf_LY hl u ly) (Y2 : cf_LY hl (u + 1) ly2)
    (k0 : RI 0 hi hl v) (k1 : ((∀ s, s < 256 → ly2 s = false) ∨ (cf_clm S c f ≤ u ∧ ∀ s, s < 256 → ly2 s = ly s)) → RI 1 hi hl v) : rx_CI L t 76 [.ref 77, .int (nI u)] hi hl v RI := by
  have V := X.1.1.1
  have h9 := X.2.2.2.2.2.1
  have hclm := cf_clm_b V (c := c) (show f ≤ 401 by omega)
  have loop : ∀ d i, i + d = 4 → ∀ a b : Bool, (a = true → ∀ e, e < i → ∀ q, q < 64 → ly2 (q + 64 * e) = false) → (b = true → cf_clm S c f ≤ u ∧ ∀ e, e < i → ∀ q, q < 64 → ly2 (q + 64 * e) = ly (q + 64 * e)) →
      rx_aw 76 19 [.ref 77, .int (nI u), .int (cf_B a), .int (cf_B b), .int (nI i)] [] (rx_hp L t hi hl v) (fun r h2 => ∃ z : Int32, r = some (.int z) ∧ rx_ok2 L t h2 (RI z)) := by
    intro d
    induction d with
    | zero =>
      intro i hi0 a b ha hb
      have : i = 4 := by omega
      subst this
      have sp : ∀ s, s < 256 → s = s % 64 + 64 * (s / 64) := fun s hs => by omega
      refine w76_isSpent_19 ⟨fun _ => ⟨fun g => ⟨fun g2 => c_retI k0, fun g2 => c_retI (k1 (Or.inr ?_))⟩, fun g => c_retI (k1 (Or.inl (fun s hs => ?_)))⟩, fun g => absurd (by decide) g⟩
      · obtain ⟨h1, h2⟩ := hb (cf_B_ne g2)
        refine ⟨h1, fun s hs => ?_⟩
        rw [sp s hs]; exact h2 (s / 64) (by omega) (s % 64) (by omega)
      · rw [sp s hs]; exact ha (cf_B_ne g) (s / 64) (by omega) (s % 64) (by omega)
    | succ d ih =>
      intro i hi0 a b ha hb
      have ix : ((4 : Int32) * nI u + 4) + nI i = nI (4 * (u + 1) + i) := by
        rw [show (4 : Int32) = nI 4 from rfl, cf_nmul, nI_add, nI_add]; congr 1
      have eq1 : ∀ x : Int64, (lg_cmp (hl 80 (4 * (u + 1) + i)) x = 0 ↔ hl 80 (4 * (u + 1) + i) = x) := fun x => cf_cmp0
      have same : hl 80 (4 * (u + 1) + i) = hl 80 (4 * u + i) → ∀ q, q < 64 → ly2 (q + 64 * i) = ly (q + 64 * i) := by
        intro h q hq
        rw [← Y i (by omega) q hq, ← Y2 i (by omega) q hq, h]
      have zero : hl 80 (4 * (u + 1) + i) = 0 → ∀ q, q < 64 → ly2 (q + 64 * i) = false := by
        intro h q hq
        rw [← Y2 i (by omega) q hq, h, cf_h0]
      have f1 : ∀ x : Bool, cf_B x &&& (1 : Int32) = cf_B x := cf_Band1
      have f0 : ∀ x : Bool, cf_B x &&& (0 : Int32) = cf_B false := cf_Band0
      refine w76_isSpent_19 ⟨fun g => ?_, fun _ => ⟨4 * (u + 1) + i, ix, by omega, fun g => ⟨4 * (u + 1) + i, ix, by omega, 4 * u + i, cf_4i, by omega, fun g2 => ?_, fun g2 => ?_⟩, fun g => ⟨4 * (u + 1) + i, ix, by omega, 4 * u + i, cf_4i, by omega, fun g2 => ?_, fun g2 => ?_⟩⟩⟩
      · rw [show (4 : Int32) = nI 4 from rfl] at g; exact absurd g (nI_ge (by omega) (by decide))
      · rw [eq1] at g g2
        rw [f1, f1, nI_1]
        refine ih (i + 1) (by omega) a b (fun h e he q hq => ?_) (fun h => ⟨(hb h).1, fun e he q hq => ?_⟩)
        · by_cases ee : e = i
          · subst ee; exact zero g q hq
          · exact ha h e (by omega) q hq
        · by_cases ee : e = i
          · subst ee; exact same g2 q hq
          · exact (hb h).2 e (by omega) q hq
      · rw [eq1] at g
        rw [f1, f0, nI_1]
        refine ih (i + 1) (by omega) a false (fun h e he q hq => ?_) (fun h => by cases h)
        by_cases ee : e = i
        · subst ee; exact zero g q hq
        · exact ha h e (by omega) q hq
      · rw [eq1] at g2
        rw [f0, f1, nI_1]
        refine ih (i + 1) (by omega) false b (fun h => by cases h) (fun h => ⟨(hb h).1, fun e he q hq => ?_⟩)
        by_cases ee : e = i
        · subst ee; exact same g2 q hq
        · exact (hb h).2 e (by omega) q hq
      · rw [f0, f0, nI_1]
        exact ih (i + 1) (by omega) false false (fun h => by cases h) (fun h => by cases h)
  refine w76_isSpent ⟨fun g => loop 4 0 (by omega) true false (fun _ e he => by omega) (fun h => by cases h), fun g => loop 4 0 (by omega) true true (fun _ e he => by omega) (fun _ => ⟨?_, fun e he => by omega⟩)⟩
  rw [h9, nI_ltI (by omega) (by omega)] at g; omega
end RXE
