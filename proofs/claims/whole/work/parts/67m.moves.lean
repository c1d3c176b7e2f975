/-! go: the moves are written. -/
section RXE
variable {L : Nat} {t : List (Nat × Nat)} {hl : Nat → Nat → Int64} {v : Nat → Nat → Option Nat}
variable {Q : Option Value → rx_H → Prop}
/-- only newSquare, newHeading and the moves of cart c from tick f on have changed -/
def cf_fm (c f : Nat) (hi hi2 : Nat → Nat → Int32) : Prop := ∀ a b, ¬ (a = 90 ∧ (b = 33 ∨ b = 34)) → ¬ (a = 95 ∧ 400 * c + f ≤ b ∧ b < 400 * (c + 1)) → hi2 a b = hi a b
theorem cf_M_fm {S : cf_S} {c f : Nat} {hi hi2 : Nat → Nat → Int32} (V : cf_V S) (M : cf_M S hi) (hf : S 4 c ≤ f) (F : cf_fm c f hi hi2) : cf_M S hi2 := by
  obtain ⟨⟨a1, a2, a3, a4, a5, a6, a7⟩, b, d, e, g, h, k⟩ := M
  refine ⟨⟨a1, a2, a3, a4, (F 90 0 (by omega) (by omega)).trans a5, (F 90 1 (by omega) (by omega)).trans a6, (F 90 2 (by omega) (by omega)).trans a7⟩, (F 90 6 (by omega) (by omega)).trans b, (F 90 21 (by omega) (by omega)).trans d, fun q hq => (F 91 q (by omega) (by omega)).trans (e q hq), fun q hq => (F 92 q (by omega) (by omega)).trans (g q hq), fun i hi0 => ?_, fun s hs => (F 107 s (by omega) (by omega)).trans (k s hs)⟩
  obtain ⟨f1, f2, f3, f4, f5, f6, f7, f8, f9, f10⟩ := h i hi0
  have h400 := (V.2.2.2.2.2.2.1 i hi0).2.2.2.1
  refine ⟨(F 93 i (by omega) (by omega)).trans f1, (F 94 i (by omega) (by omega)).trans f2, (F 96 i (by omega) (by omega)).trans f3, fun q => ⟨(F 97 i (by omega) (by omega)).trans (f4 q).1, (F 98 i (by omega) (by omega)).trans (f4 q).2⟩, (F 99 i (by omega) (by omega)).trans f5, (F 100 i (by omega) (by omega)).trans f6, fun j hj => (F 95 _ (by omega) ?_).trans (f7 j hj), (F 101 _ (by omega) (by omega)).trans f8, (F 102 _ (by omega) (by omega)).trans f9, (F 103 _ (by omega) (by omega)).trans f10⟩
  by_cases e : i = c
  · subst e; omega
  · omega
set_option maxRecDepth 100000 in
theorem g165b {S : cf_S} {hi : Nat → Nat → Int32} (V : cf_V S) (M : cf_M S hi) {T : Nat → Int64} (hT : ∀ u, u < 402 → (hl 90 43 ||| hl 117 u) ||| hl 119 u = T u) {sd : Nat → Nat → Int64} (W : ∀ c, c < S 0 2 → ∀ u, u < 402 → hl 105 (402 * c + u) = sd u c)
    {c f n s0 : Nat} {gl : Nat → Bool} (hc : c < S 0 2) (hf : S 4 c ≤ f) (hn : f + n ≤ 400) (h0 : cf_vs (S 0 0) (S 0 1) (cf_two (S 3 c)) s0 ∧ s0 < 256) (ht : cf_tl S T sd c f s0 n gl n s0 < 1000000)
    (R : ∀ j, j ≤ n → ∀ r, r < 256 → hi 116 (256 * (f + (n - j)) + r) = nI (cf_tl S T sd c f s0 n gl j (cf_dec r))) {x2 x3 x4 x5 : Int32}
    (k : ∀ hi2, cf_fm c f hi hi2 → (∀ i, i < n → hi2 95 (400 * c + (f + i)) = nI (cf_pmv S T sd c f s0 n gl i)) →
      rx_aw 165 184 [.ref 90, .int (nI c), .int x2, .int x3, .int x4, .int x5, .int (nI (f + n)), .int (nI (cf_enc (cf_pth S T sd c f s0 n gl n))), .int (nI (f + n)), rx_no] [] (rx_hp L t hi2 hl v) Q) :
    ∀ e i, i + e = n → ∀ hi2, cf_fm c f hi hi2 → (∀ i', i' < i → hi2 95 (400 * c + (f + i')) = nI (cf_pmv S T sd c f s0 n gl i')) →
      rx_aw 165 184 [.ref 90, .int (nI c), .int x2, .int x3, .int x4, .int x5, .int (nI (f + n)), .int (nI (cf_enc (cf_pth S T sd c f s0 n gl i))), .int (nI (f + i)), rx_no] [] (rx_hp L t hi2 hl v) Q := by
  have h6 := V.2.2.1
  have hwh := cf_V_wh V
  have hok := cf_pth_ok (S := S) (T := T) (sd := sd) (c := c) (f := f) (s0 := s0) (n := n) (gl := gl) (fun i s h => (cf_lr_vs V h0 i s h).2) ht
  intro e
  induction e with
  | zero =>
    intro i hi0 hi2 F P
    have : i = n := by omega
    subst this
    exact k hi2 F P
  | succ e ih =>
    intro i hi0 hi2 F P
    obtain ⟨a1, a2, a3⟩ := hok i (by omega)
    obtain ⟨b1, b2, b3, b4, b5⟩ := a3 (by omega)
    have hv := cf_lr_vs V h0 i _ a1
    generalize hs : cf_pth S T sd c f s0 n gl i = s at *
    have hse : s = s % 64 + 64 * (s / 64 % 4) := by have := hv.2; omega
    refine w165_go_r_184 ⟨fun g => absurd g (nI_ge (by omega) (by omega)), fun _ => ?_⟩
    have call : ∀ (m : Nat) (hi3 : Nat → Nat → Int32), m < 5 → cf_fm c f hi hi3 → ∀ RI : Int32 → (Nat → Nat → Int32) → (Nat → Nat → Int64) → (Nat → Nat → Option Nat) → Prop,
        (¬ cf_cst S T sd (cf_tl S T sd c f s0 n gl (n - (i + 1))) c (f + i) s m = cf_tl S T sd c f s0 n gl (n - i) s → ∀ hi4, cf_fg hi3 hi4 → RI 0 hi4 hl v) →
        (∀ r, cf_may S T sd c (f + i) s m = some r → cf_cst S T sd (cf_tl S T sd c f s0 n gl (n - (i + 1))) c (f + i) s m = cf_tl S T sd c f s0 n gl (n - i) s → ∀ hi4, cf_fg hi3 hi4 → hi4 90 33 = nI (r % 64) → hi4 90 34 = nI (r / 64 % 4) → RI 1 hi4 hl v) →
        rx_CI L t 190 [.ref 90, .int (nI c), .int (nI (cf_enc s)), .int (nI m), .int (nI (f + i))] hi3 hl v RI := by
      intro m hi3 hm F3 RI q0 q1
      refine c190 (q := s % 64) (d := s / 64 % 4) (D := cf_tl S T sd c f s0 n gl (n - (i + 1))) (D1 := cf_tl S T sd c f s0 n gl (n - i) s) V (cf_M_fm V M hf F3) hT W hc (by omega) hm (by omega) (by rw [← hse]; exact hv.1) hv.1.1 (fun r hvr hr => ⟨?_, cf_tl_le _ _⟩) ?_ a2 (fun h => q0 (by rw [← hse] at h; exact h)) (fun r e1 e2 => q1 r (by rw [← hse] at e1; exact e1) (by rw [← hse] at e2; exact e2))
      · have := R (n - (i + 1)) (by omega) (cf_enc r) (by unfold cf_enc; omega)
        rw [cf_dec_enc hr, show f + (n - (n - (i + 1))) = f + i + 1 by omega] at this
        rw [F3 116 _ (by omega) (by omega), show 256 * (f + i + 1) + 4 * (r % 64) + r / 64 % 4 = 256 * (f + i + 1) + cf_enc r by unfold cf_enc; omega]
        exact this
      · have := R (n - i) (by omega) (cf_enc s) (by unfold cf_enc; omega)
        rw [cf_dec_enc hv.2, show f + (n - (n - i)) = f + i by omega] at this
        rw [F3 116 _ (by omega) (by omega)]
        exact this
    have inner : ∀ d m, m + d = cf_pmv S T sd c f s0 n gl i → ∀ hi3, cf_fm c f hi hi3 → (∀ i', i' < i → hi3 95 (400 * c + (f + i')) = nI (cf_pmv S T sd c f s0 n gl i')) →
        rx_aw 165 194 [.ref 90, .int (nI c), .int x2, .int x3, .int x4, .int x5, .int (nI (f + n)), .int (nI (cf_enc s)), .int (nI (f + i)), .int (nI m)] [] (rx_hp L t hi3 hl v) Q := by
      intro d
      induction d with
      | zero =>
        intro m hm hi3 F3 P3
        have hm2 : m = cf_pmv S T sd c f s0 n gl i := by omega
        subst hm2
        refine w165_go_r_194 (call _ hi3 b1 F3 _ (fun h hi4 F4 => absurd b3 h) (fun r e1 e2 hi4 F4 f1 f2 => ⟨fun g => absurd g (by decide), fun _ => ⟨400 * c + (f + i), cf_400, by omega, ?_⟩⟩))
        have er : cf_pth S T sd c f s0 n gl (i + 1) = r := by rw [e1] at b2; exact (Option.some_inj.mp b2).symm
        rw [cf_ru_ne (by omega), cf_ru_ne (by omega), f1, f2, show (4 : Int32) = nI 4 from rfl, cf_nmul, nI_add, nI_1]
        have := ih (i + 1) (by omega) (rx_u hi4 95 (400 * c + (f + i)) (nI (cf_pmv S T sd c f s0 n gl i))) (fun a b q1 q2 => by rw [cf_ru_ne (by omega)]; exact (F4 a b q1).trans (F3 a b q1 q2)) (fun i' h1 => by
          by_cases e5 : i' = i
          · subst e5; rw [cf_ru_eq]
          · rw [cf_ru_ne (by omega), F4 95 _ (by omega)]; exact P3 i' (by omega))
        rw [er] at this
        exact this
      | succ d ihd =>
        intro m hm hi3 F3 P3
        refine w165_go_r_194 (call _ hi3 (by omega) F3 _ (fun h hi4 F4 => ⟨fun _ => ?_, fun g => absurd rfl g⟩) (fun r e1 e2 => absurd e2 (b4 m (by omega))))
        rw [nI_1]
        exact ihd (m + 1) (by omega) hi4 (fun a b q1 q2 => (F4 a b q1).trans (F3 a b q1 q2)) (fun i' h1 => (F4 95 _ (by omega)).trans (P3 i' h1))
    exact inner (cf_pmv S T sd c f s0 n gl i) 0 (by omega) hi2 F P
end RXE
