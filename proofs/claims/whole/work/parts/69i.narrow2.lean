/-! Search.narrow. -/
section RXE
variable {L : Nat} {t : List (Nat × Nat)} {v : Nat → Nat → Option Nat}
variable {RV : (Nat → Nat → Int32) → (Nat → Nat → Int64) → (Nat → Nat → Option Nat) → Prop}
theorem c77 {S : cf_S} {hi : Nat → Nat → Int32} {hl : Nat → Nat → Int64} {c l f tg wt : Nat} {last : Bool} (X : cf_CX S c l f tg wt last hi hl v) (hc : c < S 0 2) (hE : S 4 c ≤ f) (hf : f ≤ 400) {u : Nat} (hu : f ≤ u) (hu2 : u < 400) {ly kp : Nat → Bool} {D : Nat → Nat} (hv : cf_lyv S c l u ly) (Y : cf_LY hl u ly) (K : cf_KP S c l u kp D hi hl)
    (k : ∀ hi2 hl2, (∀ a b, ¬ (a = 82 ∧ u % 2 * 256 ≤ b ∧ b < u % 2 * 256 + 256) → hi2 a b = hi a b) → (∀ a b, ¬ a = 83 → ¬ (a = 80 ∧ 4 * u ≤ b ∧ b < 4 * u + 4) → ¬ (a = 81 ∧ 16 * u ≤ b ∧ b < 16 * u + 16) → hl2 a b = hl a b) → cf_LY hl2 u (fun s => ly s && decide (cf_bst S (cf_gT S (cf_sp S) (cf_hd S) c l) (cf_sd S) D c u s 5 < 1000000)) →
      (∀ s, ly s = true → cf_bst S (cf_gT S (cf_sp S) (cf_hd S) c l) (cf_sd S) D c u s 5 < 1000000 → hi2 82 (u % 2 * 256 + s) = nI (cf_bst S (cf_gT S (cf_sp S) (cf_hd S) c l) (cf_sd S) D c u s 5) ∧ cf_nb (hl2 81 (16 * u + s / 16)) (s % 16) (cf_lm S (cf_gT S (cf_sp S) (cf_hd S) c l) (cf_sd S) D c u s (cf_bst S (cf_gT S (cf_sp S) (cf_hd S) c l) (cf_sd S) D c u s 5) 5 - 1)) → RV hi2 hl2 v) :
    rx_CV L t 77 [.ref 77, .int (nI u)] hi hl v RV := by
  have V := X.1.1.1
  have h6 := V.2.2.1
  have hwh := cf_V_wh V
  have hkd := (V.2.2.2.2.2.2.1 c hc).1
  have hC := X.1.1.2.2.2.2.1.2.2.1 c hc
  have K1 := X.1.1.2.1
  have K3 := X.1.1.2.2.2.1
  obtain ⟨kv, kY, kD, kt⟩ := K
  generalize hbs : (fun s => cf_bst S (cf_gT S (cf_sp S) (cf_hd S) c l) (cf_sd S) D c u s 5) = bs at *
  have hbse : ∀ s, cf_bst S (cf_gT S (cf_sp S) (cf_hd S) c l) (cf_sd S) D c u s 5 = bs s := fun s => by rw [← hbs]
  generalize hbm : (fun s => cf_lm S (cf_gT S (cf_sp S) (cf_hd S) c l) (cf_sd S) D c u s (bs s) 5 - 1) = bm at *
  have hbme : ∀ s, cf_lm S (cf_gT S (cf_sp S) (cf_hd S) c l) (cf_sd S) D c u s (bs s) 5 - 1 = bm s := fun s => by rw [← hbm]
  simp only [hbse, hbme] at k
  have hbl : ∀ s, bs s ≤ 1000000 := fun s => by rw [← hbse]; exact cf_bst_le _
  -- all squares of the next layer
  generalize hany : hl 80 (4 * u + 4) ||| hl 80 (4 * u + 5) ||| hl 80 (4 * u + 6) ||| hl 80 (4 * u + 7) = any
  have hin : cf_in (S 0 0) (S 0 1) any := by
    rw [← hany]
    exact cf_in_or (cf_in_or (cf_in_or (cf_LY_in (d := 0) kv kY (by decide)) (cf_LY_in (d := 1) kv kY (by decide))) (cf_LY_in (d := 2) kv kY (by decide))) (cf_LY_in (d := 3) kv kY (by decide))
  have hanyh : ∀ r, kp r = true → cf_has any (r % 64) = true := by
    intro r hr
    have hr2 := (kv r hr).2.1
    have := kY (r / 64) (by omega) (r % 64) (by omega)
    rw [show r % 64 + 64 * (r / 64) = r by omega, hr] at this
    rw [← hany, cf_hor, cf_hor, cf_hor]
    rcases cf_dd4 (show r / 64 < 4 by omega) with q | q | q | q <;> rw [q] at this <;> rw [show 4 * u + 4 = 4 * (u + 1) + 0 by omega, show 4 * u + 5 = 4 * (u + 1) + 1 by omega, show 4 * u + 6 = 4 * (u + 1) + 2 by omega, show 4 * u + 7 = 4 * (u + 1) + 3 by omega, this] <;> simp
  have e4 : ∀ j : Nat, (4 : Int32) * nI u + nI j = nI (4 * u + j) := fun j => cf_4i
  have e0 : (4 : Int32) * nI u = nI (4 * u) := by rw [show (4 : Int32) = nI 4 from rfl, cf_nmul]
  -- the loops, near being what it must be
  have rest : ∀ near : Int64, (∀ s, ly s = true → bs s < 1000000 → cf_has near (s % 64) = true) → rx_CV L t 74 [.ref 77, .int (nI u)] hi hl v (fun hi8 hl8 v8 => rx_aw 77 77 [.ref 77, .int (nI u), .int ((4 : Int32) * nI u), .long near, rx_no, .int 0, rx_no, rx_no, rx_no, rx_no, rx_no, rx_no, rx_no] [] (rx_hp L t hi8 hl8 v8) (fun r h2 => r = none ∧ rx_ok2 L t h2 RV)) := by
    intro near hnear
    rw [e0]
    refine c74 X hc hf hu (by omega) (fun hl1 F1 G1 => ?_)
    -- what is known once the states below a place are through
    have loop : ∀ e i, i + e = 4 → ∀ (hi2 : Nat → Nat → Int32) (hl2 : Nat → Nat → Int64), (∀ a b, ¬ (a = 82 ∧ u % 2 * 256 ≤ b ∧ b < u % 2 * 256 + 256) → hi2 a b = hi a b) → (∀ a b, ¬ (a = 80 ∧ 4 * u ≤ b ∧ b < 4 * u + i) → ¬ (a = 81 ∧ 16 * u ≤ b ∧ b < 16 * u + 16) → hl2 a b = hl1 a b) → (∀ d, d < i → ∀ q, q < 64 → cf_has (hl2 80 (4 * u + d)) q = (ly (q + 64 * d) && decide (bs (q + 64 * d) < 1000000))) →
        (∀ s, ly s = true → bs s < 1000000 → s / 64 < i → hi2 82 (u % 2 * 256 + s) = nI (bs s) ∧ cf_nb (hl2 81 (16 * u + s / 16)) (s % 16) (bm s)) →
        rx_aw 77 77 [.ref 77, .int (nI u), .int (nI (4 * u)), .long near, rx_no, .int (nI i), rx_no, rx_no, rx_no, rx_no, rx_no, rx_no, rx_no] [] (rx_hp L t hi2 hl2 v) (fun r h2 => r = none ∧ rx_ok2 L t h2 RV) := by
      intro e
      induction e with
      | zero =>
        intro i hi0 hi2 hl2 F Fl G P
        have : i = 4 := by omega
        subst this
        refine w77_narrow_77 ⟨fun _ => c_retV (k hi2 hl2 F (fun a b q1 q2 q3 => (Fl a b q2 q3).trans (F1 a b q1)) G (fun s h1 h2 => P s h1 h2 ?_)), fun g => absurd (by decide) g⟩
        have := (hv s h1).2.1
        omega
      | succ e ih =>
        intro i hi0 hi2 hl2 F Fl G P
        refine w77_narrow_77 ⟨fun g => ?_, fun _ => ⟨4 * u + i, nI_add _ _, by omega, ?_⟩⟩
        · rw [show (4 : Int32) = nI 4 from rfl] at g; exact absurd g (nI_ge (by omega) (by decide))
        have hLv : ∀ p, p < 64 → cf_has (hl2 80 (4 * u + i) &&& near) p = (ly (p + 64 * i) && cf_has near p) := by
          intro p hp
          rw [cf_hand, Fl 80 _ (by omega) (by omega), F1 80 _ (by omega), Y i (by omega) p hp]
        have inner : ∀ e2 n, n + e2 = 64 → ∀ b, n ≤ b → b ≤ 64 → ∀ (hi3 : Nat → Nat → Int32) (hl3 : Nat → Nat → Int64) (left kept : Int64), (∀ a b, ¬ (a = 82 ∧ u % 2 * 256 ≤ b ∧ b < u % 2 * 256 + 256) → hi3 a b = hi a b) → (∀ a b, ¬ (a = 80 ∧ 4 * u ≤ b ∧ b < 4 * u + i) → ¬ (a = 81 ∧ 16 * u ≤ b ∧ b < 16 * u + 16) → hl3 a b = hl1 a b) → (∀ d, d < i → ∀ q, q < 64 → cf_has (hl3 80 (4 * u + d)) q = (ly (q + 64 * d) && decide (bs (q + 64 * d) < 1000000))) →
            (∀ p, p < 64 → cf_has left p = (ly (p + 64 * i) && cf_has near p && decide (b ≤ p))) → (∀ p, p < 64 → cf_has kept p = (ly (p + 64 * i) && decide (bs (p + 64 * i) < 1000000) && decide (p < b))) →
            (∀ s, ly s = true → bs s < 1000000 → (s / 64 < i ∨ (s / 64 = i ∧ s % 64 < b)) → hi3 82 (u % 2 * 256 + s) = nI (bs s) ∧ cf_nb (hl3 81 (16 * u + s / 16)) (s % 16) (bm s)) →
            rx_aw 77 102 [.ref 77, .int (nI u), .int (nI (4 * u)), .long near, rx_no, .int (nI i), .long left, rx_no, .long kept, rx_no, .int (nI n), rx_no, rx_no] [] (rx_hp L t hi3 hl3 v) (fun r h2 => r = none ∧ rx_ok2 L t h2 RV) := by
          intro e2
          have done : ∀ b (hi3 : Nat → Nat → Int32) (hl3 : Nat → Nat → Int64) (kept : Int64), (∀ p, p < 64 → b ≤ p → ly (p + 64 * i) = true → bs (p + 64 * i) < 1000000 → False) → (∀ a b, ¬ (a = 82 ∧ u % 2 * 256 ≤ b ∧ b < u % 2 * 256 + 256) → hi3 a b = hi a b) → (∀ a b, ¬ (a = 80 ∧ 4 * u ≤ b ∧ b < 4 * u + i) → ¬ (a = 81 ∧ 16 * u ≤ b ∧ b < 16 * u + 16) → hl3 a b = hl1 a b) → (∀ d, d < i → ∀ q, q < 64 → cf_has (hl3 80 (4 * u + d)) q = (ly (q + 64 * d) && decide (bs (q + 64 * d) < 1000000))) →
            (∀ p, p < 64 → cf_has kept p = (ly (p + 64 * i) && decide (bs (p + 64 * i) < 1000000) && decide (p < b))) →
            (∀ s, ly s = true → bs s < 1000000 → (s / 64 < i ∨ (s / 64 = i ∧ s % 64 < b)) → hi3 82 (u % 2 * 256 + s) = nI (bs s) ∧ cf_nb (hl3 81 (16 * u + s / 16)) (s % 16) (bm s)) →
            (∃ j14 : Nat, nI (4 * u) + nI i = nI j14 ∧ j14 < 1608 ∧ rx_aw 77 77 [.ref 77, .int (nI u), .int (nI (4 * u)), .long near, rx_no, .int (nI i + 1), rx_no, rx_no, rx_no, rx_no, rx_no, rx_no, rx_no] [] (rx_hp L t hi3 (rx_u hl3 80 j14 kept) v) (fun r h2 => r = none ∧ rx_ok2 L t h2 RV)) := by
            intro b hi3 hl3 kept hz F3 Fl3 G3 Kp P3
            refine ⟨4 * u + i, nI_add _ _, by omega, ?_⟩
            rw [nI_1]
            refine ih (i + 1) (by omega) hi3 _ F3 (fun a b q1 q2 => by rw [cf_ru_ne (by omega)]; exact Fl3 a b (by omega) q2) (fun d hd q hq => ?_) (fun s h1 h2 h3 => ?_)
            · by_cases ee : d = i
              · subst ee
                rw [cf_ru_eq, Kp q hq]
                by_cases hqb : q < b
                · rw [decide_eq_true hqb, Bool.and_true]
                · rw [decide_eq_false hqb, Bool.and_false]
                  symm
                  rw [cf_not_true, Bool.and_eq_true, decide_eq_true_iff]
                  rintro ⟨h1, h2⟩
                  exact hz q hq (by omega) h1 h2
              · rw [cf_ru_ne (by omega)]; exact G3 d (by omega) q hq
            · rw [cf_ru_ne (by omega)]
              refine P3 s h1 h2 ?_
              have hs := (hv s h1).2.1
              by_cases g : s / 64 < i
              · exact Or.inl g
              · right
                refine ⟨by omega, ?_⟩
                rcases Nat.lt_or_ge (s % 64) b with q | q
                · exact q
                · exact absurd (hz (s % 64) (by omega) q (by rw [show s % 64 + 64 * i = s by omega]; exact h1) (by rw [show s % 64 + 64 * i = s by omega]; exact h2)) id
          induction e2 with
          | zero =>
            intro n hn b hb1 hb2 hi3 hl3 left kept F3 Fl3 G3 Lf Kp P3
            have : n = 64 := by omega
            subst this
            exact w77_narrow_102 ⟨fun _ => done b hi3 hl3 kept (fun p hp hbp => by omega) F3 Fl3 G3 Kp P3, fun g => absurd (by decide) g⟩
          | succ e2 ih2 =>
            intro n hn b hb1 hb2 hi3 hl3 left kept F3 Fl3 G3 Lf Kp P3
            refine w77_narrow_102 ⟨fun g => ?_, fun _ => ⟨fun g => ?_, fun g => ?_⟩⟩
            · rw [show (64 : Int32) = nI 64 from rfl] at g; exact absurd g (nI_ge (by omega) (by decide))
            · rw [cf_cmp0] at g
              refine done b hi3 hl3 kept (fun p hp hbp h1 h2 => ?_) F3 Fl3 G3 Kp P3
              have := Lf p hp
              rw [g, cf_h0, h1, decide_eq_true hbp, Bool.and_true, Bool.true_and] at this
              have h3 := hnear _ h1 h2
              rw [(cf_cod hp (show i < 4 by omega)).1, ← this] at h3; cases h3
            · rw [cf_cmp0] at g
              obtain ⟨q, hq, q1, q2, q3⟩ := cf_low g
              rw [Lf q hq, Bool.and_eq_true, Bool.and_eq_true, decide_eq_true_iff] at q1
              obtain ⟨⟨l1, l2⟩, hbq⟩ := q1
              obtain ⟨v1, v2, v3⟩ := hv _ l1
              rw [q3]
              refine c13 ?_
              rw [cf_pop_bt hq, show (6 : Int32) = nI 6 from rfl, cf_nshl i 6 (by decide), cf_nor, show (2 : Nat) ^ 6 = 64 from rfl, Nat.or_comm, cf_or6 hq]
              -- before the first call of pick nothing else has changed that it looks at
              have X3 : cf_CX S c l f tg wt last hi3 hl3 v := cf_CX_fx X ⟨fun a b q => F3 a b (by omega), fun a b q => (Fl3 a b (by omega) (by omega)).trans (F1 a b (by omega))⟩
              have K3p : cf_KP S c l u kp D hi3 hl3 := by
                refine ⟨kv, fun d hd q hq => ?_, kD, fun r hr => ?_⟩
                · rw [Fl3 80 _ (by omega) (by omega), F1 80 _ (by omega)]; exact kY d hd q hq
                · have := (kv r hr).2.1
                  rw [F3 82 _ (by omega)]; exact kt r hr
              have G83 : ∀ d, d < 4 → ∀ q, q < 64 → cf_has (hl3 83 d) q = cf_fcd S c f u d q := fun d hd q hq => by
                rw [Fl3 83 _ (by omega) (by omega)]; exact G1 d hd q hq
              have lf2 : ∀ p, p < 64 → cf_has (left ^^^ cf_bt q) p = (ly (p + 64 * i) && cf_has near p && decide (q + 1 ≤ p)) := by
                intro p hp
                rw [cf_hxor, Lf p hp, cf_hbt, decide_eq_true hq, Bool.true_and]
                by_cases e1 : q = p
                · subst e1
                  rw [decide_eq_true rfl, l1, l2, decide_eq_true hbq, decide_eq_false (show ¬ q + 1 ≤ q by omega)]; rfl
                · rw [decide_eq_false e1, Bool.xor_false]
                  by_cases e2 : q + 1 ≤ p
                  · rw [decide_eq_true e2, decide_eq_true (show b ≤ p by omega)]
                  · rw [decide_eq_false e2, Bool.and_false]
                    have := q2 p (by omega)
                    rw [Lf p hp] at this; exact this
              -- between b and q there is none that is kept
              have gap : ∀ p, p < 64 → b ≤ p → p < q → ly (p + 64 * i) = true → bs (p + 64 * i) < 1000000 → False := by
                intro p hp h1 h2 h3 h4
                have := q2 p h2
                have h5 := hnear _ h3 h4
                rw [(cf_cod hp (show i < 4 by omega)).1] at h5
                rw [Lf p hp, h3, h5, decide_eq_true h1] at this; cases this
              have kp2 : ∀ (x : Int64), (∀ p, p < 64 → cf_has x p = (cf_has kept p || (decide (p = q) && decide (bs (q + 64 * i) < 1000000)))) → ∀ p, p < 64 → cf_has x p = (ly (p + 64 * i) && decide (bs (p + 64 * i) < 1000000) && decide (p < q + 1)) := by
                intro x hx p hp
                rw [hx p hp, Kp p hp]
                by_cases e1 : p = q
                · subst e1
                  rw [l1, decide_eq_true rfl, decide_eq_true (show p < p + 1 by omega), decide_eq_false (show ¬ p < b by omega)]
                  simp
                · rw [decide_eq_false e1, Bool.false_and, Bool.or_false]
                  by_cases e2 : p < b
                  · rw [decide_eq_true e2, decide_eq_true (show p < q + 1 by omega)]
                  · rw [decide_eq_false e2, Bool.and_false]
                    symm
                    rw [cf_not_true, Bool.and_eq_true, Bool.and_eq_true, decide_eq_true_iff, decide_eq_true_iff]
                    rintro ⟨⟨h1, h2⟩, h3⟩
                    exact gap p hp (by omega) (by omega) h1 h2
              refine c79 X3 hc hE hf hu hu2 K3p G83 v1 v2 v3 (fun hno => ⟨fun _ => ?_, fun g => absurd rfl g⟩) (fun hyes x hx1 hx2 => ⟨fun g => absurd g (by decide), fun _ => ?_⟩)
              · rw [hbse] at hno
                rw [nI_1]
                refine ih2 (n + 1) (by omega) (q + 1) (by omega) (by omega) hi3 hl3 _ _ F3 Fl3 G3 lf2 (kp2 kept (fun p hp => ?_)) (fun s h1 h2 h3 => P3 s h1 h2 ?_)
                · rw [decide_eq_false (show ¬ bs (q + 64 * i) < 1000000 by omega), Bool.and_false, Bool.or_false]
                · rcases h3 with h3 | ⟨h3, h4⟩
                  · exact Or.inl h3
                  · right
                    refine ⟨h3, ?_⟩
                    have hs := (hv s h1).2.1
                    have es : s = s % 64 + 64 * i := by omega
                    rcases Nat.lt_or_ge (s % 64) b with r | r
                    · exact r
                    · by_cases e5 : s % 64 = q
                      · rw [es, e5] at h2; omega
                      · rw [es] at h1 h2; exact absurd (gap (s % 64) (by omega) r (by omega) h1 h2) id
              · rw [hbse] at hyes
                rw [hbse, hbme] at hx1
                rw [hbse, nI_1]
                refine ih2 (n + 1) (by omega) (q + 1) (by omega) (by omega) _ _ _ _ (fun a b q' => by rw [cf_ru_ne (by omega)]; exact F3 a b q') (fun a b q1 q2 => by rw [cf_ru_ne (by omega)]; exact Fl3 a b q1 q2) (fun d hd q' hq' => by rw [cf_ru_ne (by omega)]; exact G3 d hd q' hq') lf2 (kp2 _ (fun p hp => ?_)) (fun s h1 h2 h3 => ?_)
                · rw [cf_hor, cf_hbt, decide_eq_true hq, Bool.true_and, decide_eq_true hyes, Bool.and_true]
                  by_cases e1 : p = q
                  · subst e1; rfl
                  · rw [decide_eq_false e1, decide_eq_false (fun r => e1 r.symm)]
                · have hs := (hv s h1).2.1
                  by_cases e5 : s = q + 64 * i
                  · subst e5
                    rw [cf_ru_eq, cf_ru_eq]
                    exact ⟨rfl, hx1⟩
                  · have old : hi3 82 (u % 2 * 256 + s) = nI (bs s) ∧ cf_nb (hl3 81 (16 * u + s / 16)) (s % 16) (bm s) := by
                      refine P3 s h1 h2 ?_
                      rcases h3 with h3 | ⟨h3, h4⟩
                      · exact Or.inl h3
                      · right
                        refine ⟨h3, ?_⟩
                        have es : s = s % 64 + 64 * i := by omega
                        rcases Nat.lt_or_ge (s % 64) b with r | r
                        · exact r
                        · rw [es] at h1 h2; exact absurd (gap (s % 64) (by omega) r (by omega) h1 h2) id
                    refine ⟨by rw [cf_ru_ne (by omega)]; exact old.1, ?_⟩
                    by_cases e6 : s / 16 = (q + 64 * i) / 16
                    · rw [e6, cf_ru_eq]
                      refine hx2 _ _ (by omega) (by omega) ?_
                      rw [← e6]; exact old.2
                    · rw [cf_ru_ne (by omega)]; exact old.2
        refine inner 64 0 (by omega) 0 (Nat.le_refl _) (by omega) hi2 hl2 _ 0 F Fl G (fun p hp => ?_) (fun p hp => ?_) (fun s h1 h2 h3 => P s h1 h2 (by omega))
        · rw [hLv p hp, decide_eq_true (Nat.zero_le p), Bool.and_true]
        · rw [cf_h0, decide_eq_false (Nat.not_lt_zero p), Bool.and_false]
    exact loop 4 0 (by omega) hi hl1 (fun _ _ _ => rfl) (fun _ _ _ _ => rfl) (fun d hd => by omega) (fun s h1 h2 h3 => by omega)
  -- what is kept lies near
  have near0 : ∀ s, ly s = true → bs s < 1000000 → cf_has (bif cf_two (S 3 c) then cf_spr (S 0 0) (S 0 1) (cf_spr (S 0 0) (S 0 1) any) else cf_spr (S 0 0) (S 0 1) any) (s % 64) = true := by
    intro s h1 h2
    obtain ⟨v1, v2, v3⟩ := hv s h1
    rw [← hbse] at h2
    obtain ⟨m, hm, em⟩ := cf_bst_ex h2
    rw [← em] at h2
    unfold cf_cst at h2
    cases ey : cf_may S (cf_gT S (cf_sp S) (cf_hd S) c l) (cf_sd S) c u s m with
    | none => rw [ey] at h2; exact absurd h2 (Nat.lt_irrefl _)
    | some r =>
      rw [ey] at h2
      dsimp only at h2
      exact cf_near hwh v1 hm (cf_may_iff.mp ey).1 (hanyh r ((kD r).mpr (by omega)))
  refine w77_narrow ⟨4 * u + 4, e4 4, by omega, 4 * u + 5, e4 5, by omega, 4 * u + 6, e4 6, by omega, 4 * u + 7, e4 7, by omega, ?_⟩
  rw [hany]
  refine c78 K1 K3 hin (Or.inr ⟨c, by omega, X.2.1, fun g => ?_, fun g => ?_⟩)
  · rw [hC.1, cf_lt2 hkd] at g
    rw [cf_not_true.mpr g, cond_false] at near0
    exact rest _ near0
  · rw [hC.1, cf_lt2 hkd] at g
    rw [Classical.not_not.mp g, cond_true] at near0
    exact c78 K1 K3 (cf_spr_in hin) (rest _ near0)
end RXE
