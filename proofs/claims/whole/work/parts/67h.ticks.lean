/-! goalTick: the first tick of arrival. -/
section RXE
variable {L : Nat} {t : List (Nat × Nat)} {hl : Nat → Nat → Int64} {v : Nat → Nat → Option Nat}
variable {RI : Int32 → (Nat → Nat → Int32) → (Nat → Nat → Int64) → (Nat → Nat → Option Nat) → Prop}
theorem cf_RW_fy {n m p : Nat} {st sp : Nat → Nat → Nat} {sd hd : Nat → Nat → Int64} {hi hi2 : Nat → Nat → Int32} (W : cf_RW n m st sp sd hd hi hl) (F : cf_fy p hi hi2) : cf_RW n m st sp sd hd hi2 hl := by
  refine ⟨fun c hc u hu => ?_, fun s hs u hu => ⟨(F 108 _ (by omega) (by omega)).trans (W.2 s hs u hu).1, (W.2 s hs u hu).2⟩⟩
  obtain ⟨a, b, d, e, f, g⟩ := W.1 c hc u hu
  exact ⟨(F 101 _ (by omega) (by omega)).trans a, (F 102 _ (by omega) (by omega)).trans b, (F 103 _ (by omega) (by omega)).trans d, e, f, g⟩
set_option maxRecDepth 100000 in
theorem g172b {S : cf_S} {hi : Nat → Nat → Int32} (V : cf_V S) (M : cf_M S hi) {st sp : Nat → Nat → Nat} {sd hd : Nat → Nat → Int64} (W : cf_RW (S 0 2) (S 0 3) st sp sd hd hi hl) {T Lt : Nat → Int64} (hT : ∀ u, u < 402 → (hl 90 43 ||| hl 117 u) ||| hl 119 u = T u) (hL : ∀ u, u < 402 → hl 118 u ||| hl 120 u = Lt u)
    {c f tg wt s0 : Nat} {last : Bool} (hc : c < S 0 2) (hf : f ≤ 400) (htg : tg < 64) (hwt : wt ≤ S 0 3) (h0 : cf_vs (S 0 0) (S 0 1) (cf_two (S 3 c)) s0 ∧ s0 < 256) {N : Nat} (hN : N = 256) {x5 x6 : Int32}
    (p : Nat → Bool) (hp : ∀ i, p i = cf_any (fun r => cf_lr (cf_may S T sd c) f s0 i (cf_dec r) && cf_gl S st sp Lt c tg wt last (cf_dec r) (f + i)) N)
    (hlr : ∀ i s, cf_lr (cf_may S T sd c) f s0 (i + 1) s = cf_any (fun r => cf_lr (cf_may S T sd c) f s0 i (cf_dec r) && cf_any (fun m => decide (cf_may S T sd c (f + i) (cf_dec r) m = some s)) 5) N)
    (k0 : cf_ff p (401 - f) = 0 → ∀ hi2, cf_fy (256 * f) hi hi2 → RI (-1) hi2 hl v)
    (k1 : ∀ i, i < 401 - f → cf_ff p (401 - f) = i + 1 → ∀ hi2, cf_fy (256 * f) hi hi2 → (∀ i', i' ≤ i → ∀ r, r < 256 → hi2 115 (256 * (f + i') + r) = cf_B (cf_lr (cf_may S T sd c) f s0 i' (cf_dec r))) → RI (nI (f + i)) hi2 hl v) :
    ∀ e i, i + e = 401 - f → ∀ hi2, cf_fy (256 * f) hi hi2 → cf_ff p i = 0 → (∀ i', i' ≤ i → f + i' ≤ 400 → ∀ r, r < 256 → hi2 115 (256 * (f + i') + r) = cf_B (cf_lr (cf_may S T sd c) f s0 i' (cf_dec r))) → (∀ b, 256 * (f + i + 1) ≤ b → b < 102912 → hi2 115 b = 0) →
    rx_aw 172 103 [.ref 90, .int (nI c), .int (nI tg), .int (oI wt), .int (cf_B last), .int x5, .int x6, .int (nI (f + i)), rx_no, rx_no] [] (rx_hp L t hi2 hl v) (fun r h2 => ∃ z : Int32, r = some (.int z) ∧ rx_ok2 L t h2 (RI z)) := by
  have h6 := V.2.2.1
  have hwh := cf_V_wh V
  have i4 : (4 : Int32) = nI 4 := rfl
  intro e
  induction e with
  | zero =>
    intro i hi0 hi2 F P R Z
    refine w172_goalTick_r_103 ⟨fun _ => c_retI (k0 (by rw [← show i = 401 - f by omega]; exact P) hi2 F), fun g => absurd ?_ g⟩
    rw [show (400 : Int32) = nI 400 from rfl]; exact nI_lt (by omega) (by omega)
  | succ e ih =>
    intro i hi0 hi2 F P R Z
    have M2 := cf_M_fy M F
    have W2 := cf_RW_fy W F
    refine w172_goalTick_r_103 ⟨fun g => ?_, fun _ => ?_⟩
    · rw [show (400 : Int32) = nI 400 from rfl, nI_ltI (by decide) (by omega)] at g; omega
    have row := R i (Nat.le_refl _) (by omega)
    have l114 : ∀ d x, x + d = N → cf_any (fun r => cf_lr (cf_may S T sd c) f s0 i (cf_dec r) && cf_gl S st sp Lt c tg wt last (cf_dec r) (f + i)) x = false →
        rx_aw 172 114 [.ref 90, .int (nI c), .int (nI tg), .int (oI wt), .int (cf_B last), .int x5, .int x6, .int (nI (f + i)), .int (nI x), rx_no] [] (rx_hp L t hi2 hl v) (fun r h2 => ∃ z : Int32, r = some (.int z) ∧ rx_ok2 L t h2 (RI z)) := by
      intro d
      induction d with
      | zero =>
        intro x hx ha
        have : x = N := by omega
        subst this
        have hpi : p i = false := by rw [hp i]; exact ha
        have P1 : cf_ff p (i + 1) = 0 := by rw [cf_ff, if_pos P, hpi]; rfl
        refine w172_goalTick_r_114 ⟨fun _ => ?_, fun g => absurd ?_ g⟩
        · by_cases hlast : f + i = 400
          · refine w172_goalTick_r_167 ⟨fun g => absurd g (by decide), fun _ => ⟨fun _ => ?_, fun g => absurd ?_ g⟩⟩
            · rw [nI_1]
              exact ih (i + 1) (by omega) hi2 F P1 (fun i' h1 h2 => R i' (by omega) h2) (fun b h1 h2 => by omega)
            · rw [hlast]; decide
          · refine g172a V M2 hT (fun c hc u hu => (W.1 c hc u hu).2.2.2.1) hc (by omega) (cf_lr_vs V h0 i) row (fun r hr => Z _ (by omega) (by omega)) hN ?_
            intro hi3 F3 G3 P3
            refine ih (i + 1) (by omega) hi3 (fun a b q1 q2 => (F3 a b q1 (by omega)).trans (F a b q1 q2)) P1 (fun i' h1 h2 r hr => ?_) (fun b h1 h2 => (G3 b (by omega)).trans (Z b (by omega) h2))
            by_cases e5 : i' = i + 1
            · subst e5
              rw [hlr i]; exact P3 r hr
            · rw [F3 115 _ (by omega) (by omega)]; exact R i' (by omega) h2 r hr
        · rw [show (256 : Int32) = nI 256 from rfl, hN]; exact nI_le (Nat.le_refl _) (by decide)
      | succ d ihd =>
        intro x hx ha
        have hx256 : x < 256 := by omega
        have next : (cf_lr (cf_may S T sd c) f s0 i (cf_dec x) && cf_gl S st sp Lt c tg wt last (cf_dec x) (f + i)) = false → rx_aw 172 114 [.ref 90, .int (nI c), .int (nI tg), .int (oI wt), .int (cf_B last), .int x5, .int x6, .int (nI (f + i)), .int (nI (x + 1)), rx_no] [] (rx_hp L t hi2 hl v) (fun r h2 => ∃ z : Int32, r = some (.int z) ∧ rx_ok2 L t h2 (RI z)) := fun hb => ihd (x + 1) (by omega) (by rw [cf_any, ha, hb]; rfl)
        refine w172_goalTick_r_114 ⟨fun g => ?_, fun _ => ⟨256 * (f + i) + x, ?_, by omega, fun g => ?_, fun g => ?_⟩⟩
        · rw [show (256 : Int32) = nI 256 from rfl] at g; exact absurd g (nI_ge (by omega) (by decide))
        · rw [show (256 : Int32) = nI 256 from rfl, cf_nmul, nI_add]
        · rw [row x hx256] at g
          rw [nI_1]
          exact next (by rw [cf_B_eq g, Bool.false_and])
        · rw [row x hx256] at g
          have hl1 := cf_B_ne g
          have hv := cf_lr_vs V h0 i _ hl1
          have hdq := cf_dec_q x hx256
          have hq : x / 4 < S 0 0 * S 0 1 := by rw [← hdq.1]; exact hv.1.1
          rw [show nI x = nI (4 * (x / 4) + x % 4) by congr 1; omega]
          refine c177 (last := last) V M2 W2 hL hc (by omega) hq htg hwt (by omega) ⟨fun g5 => ?_, fun g5 => c_retI ?_⟩
          · rw [show 4 * (x / 4) + x % 4 = x by omega, nI_1]
            exact next (by rw [hl1, Bool.true_and]; exact cf_B_eq g5)
          · have hpi : p i = true := by rw [hp i]; exact cf_any_true (i := x) (by omega) (by rw [hl1, Bool.true_and]; exact cf_B_ne g5)
            exact k1 i (by omega) (cf_ff_at P hpi _ (by omega)) hi2 F (fun i' h1 r hr => R i' h1 (by omega) r hr)
    exact l114 N 0 (by omega) rfl
end RXE
