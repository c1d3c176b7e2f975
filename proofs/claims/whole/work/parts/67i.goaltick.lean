section RXE
variable {L : Nat} {t : List (Nat × Nat)} {hl : Nat → Nat → Int64} {v : Nat → Nat → Option Nat}
variable {RI : Int32 → (Nat → Nat → Int32) → (Nat → Nat → Int64) → (Nat → Nat → Option Nat) → Prop}
theorem cf_nar0 : vp_nar .boolean (0 : Int32) = 0 := rfl
theorem cf_nar1 : vp_nar .boolean (1 : Int32) = 1 := rfl
set_option maxRecDepth 100000 in
theorem c172 {S : cf_S} {hi : Nat → Nat → Int32} (V : cf_V S) (M : cf_M S hi) {st sp : Nat → Nat → Nat} {sd hd : Nat → Nat → Int64} (W : cf_RW (S 0 2) (S 0 3) st sp sd hd hi hl) {T Lt : Nat → Int64} (hT : ∀ u, u < 402 → (hl 90 43 ||| hl 117 u) ||| hl 119 u = T u) (hL : ∀ u, u < 402 → hl 118 u ||| hl 120 u = Lt u)
    {c f tg wt : Nat} {last : Bool} (hc : c < S 0 2) (hf : S 4 c = f) (htg : tg < 64) (hwt : wt ≤ S 0 3) (h0 : cf_vs (S 0 0) (S 0 1) (cf_two (S 3 c)) (st f c % 256)) {N : Nat} (hN : N = 256)
    (p : Nat → Bool) (hp : ∀ i, p i = cf_any (fun r => cf_lr (cf_may S T sd c) f (st f c % 256) i (cf_dec r) && cf_gl S st sp Lt c tg wt last (cf_dec r) (f + i)) N)
    (hlr : ∀ i s, cf_lr (cf_may S T sd c) f (st f c % 256) (i + 1) s = cf_any (fun r => cf_lr (cf_may S T sd c) f (st f c % 256) i (cf_dec r) && cf_any (fun m => decide (cf_may S T sd c (f + i) (cf_dec r) m = some s)) 5) N)
    (k0 : (cf_fit S st sp hd c f = false ∨ cf_mta (S 0 2) sd hd c f = true ∨ cf_ff p (401 - f) = 0) → ∀ hi2, cf_fy (256 * f) hi hi2 → RI (-1) hi2 hl v)
    (k1 : cf_fit S st sp hd c f = true → cf_mta (S 0 2) sd hd c f = false → ∀ i, i < 401 - f → cf_ff p (401 - f) = i + 1 → ∀ hi2, cf_fy (256 * f) hi hi2 → (∀ i', i' ≤ i → ∀ r, r < 256 → hi2 115 (256 * (f + i') + r) = cf_B (cf_lr (cf_may S T sd c) f (st f c % 256) i' (cf_dec r))) → RI (nI (f + i)) hi2 hl v) :
    rx_CI L t 172 [.ref 90, .int (nI c), .int (nI tg), .int (oI wt), .int (cf_B last)] hi hl v RI := by
  have h6 := V.2.2.1
  have h400 := (V.2.2.2.2.2.2.1 c hc).2.2.2.1
  have i256 : (256 : Int32) = nI 256 := rfl
  refine w172_goalTick_r ⟨c, rfl, by omega, ?_⟩
  rw [(M.2.2.2.2.2.1 c hc).2.1, hf, i256, cf_nmul]
  have loop : ∀ e x, x + e = 102912 → 256 * f ≤ x → ∀ hi2, cf_fy (256 * f) hi hi2 → (∀ b, 256 * f ≤ b → b < x → hi2 115 b = 0) →
      rx_aw 172 16 [.ref 90, .int (nI c), .int (nI tg), .int (oI wt), .int (cf_B last), .int (nI f), .int (nI x), rx_no, rx_no, rx_no] [] (rx_hp L t hi2 hl v) (fun r h2 => ∃ z : Int32, r = some (.int z) ∧ rx_ok2 L t h2 (RI z)) := by
    intro e
    induction e with
    | zero =>
      intro x hx hxf hi2 F Z
      have : x = 102912 := by omega
      subst this
      have M2 := cf_M_fy M F
      have W2 := cf_RW_fy W F
      obtain ⟨w1, w2, _⟩ := W2.1 c hc f (by omega)
      refine w172_goalTick_r_16 ⟨fun _ => c173 V M2 W2 hc (by omega) ⟨fun g => c_retI (k0 (Or.inl (cf_B_eq g)) hi2 F), fun g => c174 M2.2.1 W2 h6 hc (by omega) ⟨fun g2 => ⟨402 * c + f, cf_402, by omega, 402 * c + f, cf_402, by omega, 256 * f + cf_enc (st f c % 256), ?_, by unfold cf_enc; omega, ?_⟩, fun g2 => c_retI (k0 (Or.inr (Or.inl (cf_B_ne g2))) hi2 F)⟩⟩, fun g => absurd (by decide) g⟩
      · rw [w1, w2, i256, show (4 : Int32) = nI 4 from rfl, cf_nmul, cf_nmul, nI_add, nI_add]; congr 1; unfold cf_enc; omega
      · have hs : st f c % 256 < 256 := by omega
        refine g172b V M W hT hL hc (by omega) htg hwt ⟨h0, hs⟩ hN p hp hlr (fun h => k0 (Or.inr (Or.inr h))) (k1 (cf_B_ne g) (cf_B_eq g2)) (401 - f) 0 (by omega) _ (fun a b q1 q2 => ?_) rfl (fun i' h1 h2 r hr => ?_) (fun b h1 h2 => ?_)
        · rw [cf_ru_ne (fun q => q2 ⟨q.1, by rw [q.2]; exact Nat.le_add_right _ _⟩)]; exact F a b q1 q2
        · have : i' = 0 := by omega
          subst this
          rw [Nat.add_zero]
          by_cases e : r = cf_enc (st f c % 256)
          · subst e
            rw [cf_ru_eq, cf_dec_enc hs, cf_nar1]
            show (1 : Int32) = cf_B (decide (st f c % 256 = st f c % 256))
            rw [decide_eq_true rfl]; rfl
          · rw [cf_ru_ne (by omega), Z _ (by omega) (by omega)]
            show (0 : Int32) = cf_B (decide (cf_dec r = st f c % 256))
            rw [decide_eq_false (fun q => e (by rw [← q, cf_enc_dec hr]))]; rfl
        · rw [cf_ru_ne (by unfold cf_enc; omega)]; exact Z b (by omega) h2
    | succ e ih =>
      intro x hx hxf hi2 F Z
      refine w172_goalTick_r_16 ⟨fun g => ?_, fun _ => ⟨x, rfl, by omega, ?_⟩⟩
      · rw [show (102912 : Int32) = nI 102912 from rfl] at g; exact absurd g (nI_ge (by omega) (by decide))
      · rw [nI_1, cf_nar0]
        refine ih (x + 1) (by omega) (by omega) _ (fun a b q1 q2 => ?_) (fun b h1 h2 => ?_)
        · rw [cf_ru_ne (by omega)]; exact F a b q1 q2
        · by_cases e : b = x
          · subst e; rw [cf_ru_eq]
          · rw [cf_ru_ne (by omega)]; exact Z b h1 (by omega)
  exact loop (102912 - 256 * f) (256 * f) (by omega) (Nat.le_refl _) hi (fun _ _ _ _ => rfl) (fun b h1 h2 => by omega)
end RXE
