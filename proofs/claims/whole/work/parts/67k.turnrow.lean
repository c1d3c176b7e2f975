/-! go: the row of fewest turns, from the arrival back. -/
section RXE
variable {L : Nat} {t : List (Nat × Nat)} {hl : Nat → Nat → Int64} {v : Nat → Nat → Option Nat}
variable {Q : Option Value → rx_H → Prop}
def cf_fz (hi hi2 : Nat → Nat → Int32) : Prop := ∀ a b, ¬ (a = 90 ∧ (b = 33 ∨ b = 34)) → ¬ a = 116 → hi2 a b = hi a b
theorem cf_M_fz {S : cf_S} {hi hi2 : Nat → Nat → Int32} (M : cf_M S hi) (F : cf_fz hi hi2) : cf_M S hi2 := by
  obtain ⟨⟨a1, a2, a3, a4, a5, a6, a7⟩, b, c, d, e, f, g⟩ := M
  refine ⟨⟨a1, a2, a3, a4, (F 90 0 (by omega) (by omega)).trans a5, (F 90 1 (by omega) (by omega)).trans a6, (F 90 2 (by omega) (by omega)).trans a7⟩, (F 90 6 (by omega) (by omega)).trans b, (F 90 21 (by omega) (by omega)).trans c, fun q hq => (F 91 q (by omega) (by omega)).trans (d q hq), fun q hq => (F 92 q (by omega) (by omega)).trans (e q hq), fun i hi0 => ?_, fun s hs => (F 107 s (by omega) (by omega)).trans (g s hs)⟩
  obtain ⟨f1, f2, f3, f4, f5, f6, f7, f8, f9, f10⟩ := f i hi0
  exact ⟨(F 93 i (by omega) (by omega)).trans f1, (F 94 i (by omega) (by omega)).trans f2, (F 96 i (by omega) (by omega)).trans f3, fun q => ⟨(F 97 i (by omega) (by omega)).trans (f4 q).1, (F 98 i (by omega) (by omega)).trans (f4 q).2⟩, (F 99 i (by omega) (by omega)).trans f5, (F 100 i (by omega) (by omega)).trans f6, fun j hj => (F 95 _ (by omega) (by omega)).trans (f7 j hj), (F 101 _ (by omega) (by omega)).trans f8, (F 102 _ (by omega) (by omega)).trans f9, (F 103 _ (by omega) (by omega)).trans f10⟩
theorem cf_RW_fz {n m : Nat} {st sp : Nat → Nat → Nat} {sd hd : Nat → Nat → Int64} {hi hi2 : Nat → Nat → Int32} (W : cf_RW n m st sp sd hd hi hl) (F : cf_fz hi hi2) : cf_RW n m st sp sd hd hi2 hl := by
  refine ⟨fun c hc u hu => ?_, fun s hs u hu => ⟨(F 108 _ (by omega) (by omega)).trans (W.2 s hs u hu).1, (W.2 s hs u hu).2⟩⟩
  obtain ⟨a, b, d, e, f, g⟩ := W.1 c hc u hu
  exact ⟨(F 101 _ (by omega) (by omega)).trans a, (F 102 _ (by omega) (by omega)).trans b, (F 103 _ (by omega) (by omega)).trans d, e, f, g⟩
set_option maxRecDepth 100000 in
theorem g165a {S : cf_S} {hi : Nat → Nat → Int32} (V : cf_V S) (M : cf_M S hi) {st sp : Nat → Nat → Nat} {sd hd : Nat → Nat → Int64} (W : cf_RW (S 0 2) (S 0 3) st sp sd hd hi hl) {T Lt : Nat → Int64} (hT : ∀ u, u < 402 → (hl 90 43 ||| hl 117 u) ||| hl 119 u = T u) (hL : ∀ u, u < 402 → hl 118 u ||| hl 120 u = Lt u)
    {c f n tg wt s0 : Nat} {last : Bool} (hc : c < S 0 2) (hf : f + n ≤ 400) (htg : tg < 64) (hwt : wt ≤ S 0 3) (h0 : cf_vs (S 0 0) (S 0 1) (cf_two (S 3 c)) s0 ∧ s0 < 256) {N : Nat} (hN : N = 256)
    (R : ∀ i, i ≤ n → ∀ r, r < 256 → hi 115 (256 * (f + i) + r) = cf_B (cf_lr (cf_may S T sd c) f s0 i (cf_dec r)))
    (k : ∀ hi2, cf_fz hi hi2 → (∀ j, j ≤ n → ∀ r, r < 256 → hi2 116 (256 * (f + (n - j)) + r) = nI (cf_tl S T sd c f s0 n (fun s => cf_gl S st sp Lt c tg wt last s (f + n)) j (cf_dec r))) →
      rx_aw 165 37 [.ref 90, .int (nI c), .int (nI tg), .int (oI wt), .int (cf_B last), .int (nI f), .int (nI (f + n)), .int (oI f), rx_no, rx_no] [] (rx_hp L t hi2 hl v) Q) :
    ∀ e j, j + e = n + 1 → ∀ hi2, cf_fz hi hi2 → (∀ j', j' < j → ∀ r, r < 256 → hi2 116 (256 * (f + (n - j')) + r) = nI (cf_tl S T sd c f s0 n (fun s => cf_gl S st sp Lt c tg wt last s (f + n)) j' (cf_dec r))) →
      rx_aw 165 37 [.ref 90, .int (nI c), .int (nI tg), .int (oI wt), .int (cf_B last), .int (nI f), .int (nI (f + n)), .int (oI (f + (n + 1 - j))), rx_no, rx_no] [] (rx_hp L t hi2 hl v) Q := by
  have h6 := V.2.2.1
  have hwh := cf_V_wh V
  have i256 : (256 : Int32) = nI 256 := rfl
  intro e
  induction e with
  | zero =>
    intro j hj hi2 F P
    have : j = n + 1 := by omega
    subst this
    rw [show f + (n + 1 - (n + 1)) = f by omega]
    exact k hi2 F (fun j hj => P j (by omega))
  | succ e ih =>
    intro j hj hi2 F P
    rw [show f + (n + 1 - j) = f + (n - j) + 1 by omega, cf_oS]
    refine w165_go_r_37 ⟨fun g => absurd g (nI_nlt (by omega) (by omega)), fun _ => ?_⟩
    have row := R (n - j) (by omega)
    have inner : ∀ d x, x + d = N → ∀ hi3, cf_fz hi hi3 → (∀ j', j' < j → ∀ r, r < 256 → hi3 116 (256 * (f + (n - j')) + r) = nI (cf_tl S T sd c f s0 n (fun s => cf_gl S st sp Lt c tg wt last s (f + n)) j' (cf_dec r))) → (∀ r, r < x → hi3 116 (256 * (f + (n - j)) + r) = nI (cf_tl S T sd c f s0 n (fun s => cf_gl S st sp Lt c tg wt last s (f + n)) j (cf_dec r))) →
        rx_aw 165 47 [.ref 90, .int (nI c), .int (nI tg), .int (oI wt), .int (cf_B last), .int (nI f), .int (nI (f + n)), .int (nI (f + (n - j))), .int (nI x), rx_no] [] (rx_hp L t hi3 hl v) Q := by
      intro d
      induction d with
      | zero =>
        intro x hx hi3 F3 P3 G3
        have : x = N := by omega
        subst this
        refine w165_go_r_47 ⟨fun _ => ?_, fun g => absurd ?_ g⟩
        · rw [cf_addm]
          have := ih (j + 1) (by omega) hi3 F3 (fun j' h1 r hr => by
            by_cases e5 : j' = j
            · subst e5; exact G3 r (by omega)
            · exact P3 j' (by omega) r hr)
          rw [show f + (n + 1 - (j + 1)) = f + (n - j) by omega] at this
          exact this
        · rw [i256, hN]; exact nI_le (Nat.le_refl _) (by decide)
      | succ d ihd =>
        intro x hx hi3 F3 P3 G3
        have hx256 : x < 256 := by omega
        have M3 := cf_M_fz M F3
        have W3 := cf_RW_fz W F3
        have at0 : (256 : Int32) * nI (f + (n - j)) + nI x = nI (256 * (f + (n - j)) + x) := by rw [i256, cf_nmul, nI_add]
        have store : ∀ hi4 : Nat → Nat → Int32, cf_fg hi3 hi4 → ∀ z, z = nI (cf_tl S T sd c f s0 n (fun s => cf_gl S st sp Lt c tg wt last s (f + n)) j (cf_dec x)) → rx_aw 165 47 [.ref 90, .int (nI c), .int (nI tg), .int (oI wt), .int (cf_B last), .int (nI f), .int (nI (f + n)), .int (nI (f + (n - j))), .int (nI (x + 1)), rx_no] [] (rx_hp L t (rx_u hi4 116 (256 * (f + (n - j)) + x) z) hl v) Q := by
          intro hi4 F4 z hz
          refine ihd (x + 1) (by omega) _ (fun a b q1 q2 => ?_) (fun j' h1 r hr => ?_) (fun r hr => ?_)
          · rw [cf_ru_ne (by omega)]; exact (F4 a b q1).trans (F3 a b q1 q2)
          · rw [cf_ru_ne (by omega), F4 116 _ (by omega)]; exact P3 j' h1 r hr
          · by_cases e5 : r = x
            · subst e5; rw [cf_ru_eq, hz]
            · rw [cf_ru_ne (by omega), F4 116 _ (by omega)]; exact G3 r (by omega)
        have F00 : cf_fg hi3 hi3 := fun _ _ _ => rfl
        refine w165_go_r_47 ⟨fun g => ?_, fun _ => ⟨256 * (f + (n - j)) + x, at0, by omega, fun g => ⟨256 * (f + (n - j)) + x, at0, by omega, ?_⟩, fun g => ⟨fun g2 => ?_, fun g2 => ?_⟩⟩⟩
        · rw [i256] at g; exact absurd g (nI_ge (by omega) (by decide))
        · rw [F3 115 _ (by omega) (by omega), row x hx256] at g
          rw [nI_1]
          refine store hi3 F00 _ ?_
          cases j with
          | zero => rw [cf_tl]; rw [Nat.sub_zero] at g; rw [cf_B_eq g]; rfl
          | succ j => rw [cf_tl, cf_B_eq g]; rfl
        · rw [nI_leI (by omega) (by omega)] at g2
          have hj0 : j = 0 := by
            rcases Nat.eq_zero_or_pos j with q | q
            · exact q
            · omega
          subst hj0
          rw [F3 115 _ (by omega) (by omega), row x hx256] at g
          have hl1 := cf_B_ne g
          have hv := cf_lr_vs V h0 _ _ hl1
          obtain ⟨q, d4, hd4, rfl⟩ : ∃ q d4, d4 < 4 ∧ x = 4 * q + d4 := ⟨x / 4, x % 4, by omega, by omega⟩
          have hdec : cf_dec (4 * q + d4) = q + 64 * d4 := by unfold cf_dec; omega
          have hq : q < S 0 0 * S 0 1 := by
            have := hv.1.1
            rw [hdec] at this; omega
          rw [Nat.sub_zero] at hl1
          refine c177 (last := last) V M3 W3 hL hc hd4 hq htg hwt (by omega) ⟨fun g5 => ⟨256 * (f + (n - 0)) + (4 * q + d4), at0, by omega, ?_⟩, fun g5 => ⟨256 * (f + (n - 0)) + (4 * q + d4), at0, by omega, ?_⟩⟩
          · rw [nI_1]
            refine store hi3 F00 _ ?_
            have := cf_B_eq g5
            rw [Nat.sub_zero] at this
            rw [cf_tl, hl1, hdec, this]; rfl
          · rw [nI_1]
            refine store hi3 F00 _ ?_
            have := cf_B_ne g5
            rw [Nat.sub_zero] at this
            rw [cf_tl, hl1, hdec, this]; rfl
        · rw [nI_leI (by omega) (by omega)] at g2
          obtain ⟨j1, rfl⟩ : ∃ j1, j = j1 + 1 := ⟨j - 1, by omega⟩
          rw [F3 115 _ (by omega) (by omega), row x hx256] at g
          have hl1 := cf_B_ne g
          have hv := cf_lr_vs V h0 _ _ hl1
          obtain ⟨q, d4, hd4, rfl⟩ : ∃ q d4, d4 < 4 ∧ x = 4 * q + d4 := ⟨x / 4, x % 4, by omega, by omega⟩
          have hdec : cf_dec (4 * q + d4) = q + 64 * d4 := by unfold cf_dec; omega
          have hvs := hv.1
          rw [hdec] at hvs
          have hq : q < S 0 0 * S 0 1 := by
            have := hvs.1
            omega
          refine c188 (D := cf_tl S T sd c f s0 n (fun s => cf_gl S st sp Lt c tg wt last s (f + n)) j1) V M3 hT (fun c hc u hu => (W.1 c hc u hu).2.2.2.1) hc hd4 (by omega) hvs hq (fun r hvr hr => ⟨?_, cf_tl_le _ _⟩) (fun hi4 F4 => ⟨256 * (f + (n - (j1 + 1))) + (4 * q + d4), at0, by omega, ?_⟩)
          · have := P3 j1 (by omega) (cf_enc r) (by unfold cf_enc; omega)
            rw [cf_dec_enc hr] at this
            rw [show 256 * (f + (n - (j1 + 1)) + 1) + 4 * (r % 64) + r / 64 % 4 = 256 * (f + (n - j1)) + cf_enc r by unfold cf_enc; omega]
            exact this
          · rw [nI_1]
            refine store hi4 F4 _ ?_
            rw [cf_tl, hl1, hdec]; rfl
    exact inner N 0 (by omega) hi2 F P (fun r hr => by omega)
end RXE
