/-! The fewest TURNS from a state, one tick back: bestOf, isBest. -/
/-- the turns of a MOVE and of what is left behind it; FAR if it can't be made -/
def cf_cst (S : cf_S) (T : Nat → Int64) (sd : Nat → Nat → Int64) (D : Nat → Nat) (c t s m : Nat) : Nat :=
  match cf_may S T sd c t s m with
  | none => 1000000
  | some r => (bif cf_itn (S 3 c) (s / 64 % 4) m then 1 else 0) + D r
/-- the least of them over the MOVES below n, at most FAR -/
def cf_bst (S : cf_S) (T : Nat → Int64) (sd : Nat → Nat → Int64) (D : Nat → Nat) (c t s : Nat) : Nat → Nat
  | 0 => 1000000
  | n + 1 => min (cf_bst S T sd D c t s n) (cf_cst S T sd D c t s n)
theorem cf_may_vs {S : cf_S} (V : cf_V S) {T : Nat → Int64} {sd : Nat → Nat → Int64} {c t s m r : Nat} (hs : cf_vs (S 0 0) (S 0 1) (cf_two (S 3 c)) s) (hm : m < 5) (e : cf_may S T sd c t s m = some r) : cf_vs (S 0 0) (S 0 1) (cf_two (S 3 c)) r ∧ r < 256 := by
  unfold cf_may at e
  split at e
  · cases e
  · rename_i r' hr
    cases hb : (decide (((cf_std (S 0 0) (S 0 1) (cf_two (S 3 c)) s ||| cf_tq (S 0 0) (S 0 1) (S 3 c) s m) &&& T t) = 0) && decide (((cf_std (S 0 0) (S 0 1) (cf_two (S 3 c)) r' ||| cf_tq (S 0 0) (S 0 1) (S 3 c) s m) &&& T (t + 1)) = 0)
      && !cf_any (fun o => !decide (o = c) && cf_swap (cf_std (S 0 0) (S 0 1) (cf_two (S 3 c)) s) (cf_std (S 0 0) (S 0 1) (cf_two (S 3 c)) r') (sd t o) (sd (t + 1) o)) (S 0 2)) with
    | false => rw [hb] at e; cases e
    | true =>
      rw [hb] at e; cases e
      exact ⟨cf_mv_vs (cf_V_wh V) hs hm hr, cf_mv_lt (cf_V_wh V) hs.1 hm hr⟩
theorem cf_M_fg {S : cf_S} {hi hi2 : Nat → Nat → Int32} (M : cf_M S hi) (F : cf_fg hi hi2) : cf_M S hi2 := by
  obtain ⟨a, b, c, d, e, f, g⟩ := M
  refine ⟨cf_K4_fg a F, (F 90 6 (by omega)).trans b, (F 90 21 (by omega)).trans c, fun q hq => (F 91 q (by omega)).trans (d q hq), fun q hq => (F 92 q (by omega)).trans (e q hq), fun i hi0 => ?_, fun s hs => (F 107 s (by omega)).trans (g s hs)⟩
  obtain ⟨f1, f2, f3, f4, f5, f6, f7, f8, f9, f10⟩ := f i hi0
  exact ⟨(F 93 i (by omega)).trans f1, (F 94 i (by omega)).trans f2, (F 96 i (by omega)).trans f3, fun q => ⟨(F 97 i (by omega)).trans (f4 q).1, (F 98 i (by omega)).trans (f4 q).2⟩, (F 99 i (by omega)).trans f5, (F 100 i (by omega)).trans f6, fun j hj => (F 95 _ (by omega)).trans (f7 j hj), (F 101 _ (by omega)).trans f8, (F 102 _ (by omega)).trans f9, (F 103 _ (by omega)).trans f10⟩
section RXE
variable {L : Nat} {t : List (Nat × Nat)} {hi : Nat → Nat → Int32} {hl : Nat → Nat → Int64} {v : Nat → Nat → Option Nat}
variable {RI : Int32 → (Nat → Nat → Int32) → (Nat → Nat → Int64) → (Nat → Nat → Option Nat) → Prop}
theorem c188 {S : cf_S} (V : cf_V S) (M : cf_M S hi) {T : Nat → Int64} (hT : ∀ u, u < 402 → (hl 90 43 ||| hl 117 u) ||| hl 119 u = T u) {sd : Nat → Nat → Int64} (W : ∀ c, c < S 0 2 → ∀ u, u < 402 → hl 105 (402 * c + u) = sd u c) {c q d j : Nat} (hc : c < S 0 2) (hd : d < 4) (hj : j < 401) (hs : cf_vs (S 0 0) (S 0 1) (cf_two (S 3 c)) (q + 64 * d)) (hq : q < S 0 0 * S 0 1)
    {D : Nat → Nat} (hD : ∀ r, cf_vs (S 0 0) (S 0 1) (cf_two (S 3 c)) r → r < 256 → hi 116 (256 * (j + 1) + 4 * (r % 64) + r / 64 % 4) = nI (D r) ∧ D r ≤ 1000000)
    (k : ∀ hi2, cf_fg hi hi2 → RI (nI (cf_bst S T sd D c j (q + 64 * d) 5)) hi2 hl v) : rx_CI L t 188 [.ref 90, .int (nI c), .int (nI (4 * q + d)), .int (nI j)] hi hl v RI := by
  have h6 := V.2.2.1
  have hwh := cf_V_wh V
  have hkd := (V.2.2.2.2.2.2.1 c hc).1
  obtain ⟨g1, g2⟩ := cf_cod (show q < 64 by omega) hd
  have e4 : nI (4 * q + d) / (4 : Int32) = nI q := by
    rw [show (4 : Int32) = nI 4 from rfl, cf_ndiv (by omega) (by decide)]; congr 1; omega
  have em : nI (4 * q + d) - nI (4 * q + d) / (4 : Int32) * (4 : Int32) = nI d := by
    rw [show (4 : Int32) = nI 4 from rfl, cf_nmod (by omega) (by decide)]; congr 1; omega
  have hle : ∀ i, cf_bst S T sd D c j (q + 64 * d) i ≤ 1000000 := by
    intro i
    induction i with
    | zero => exact Nat.le_refl _
    | succ i ih => rw [cf_bst]; omega
  refine w188_bestOf_r ?_
  have loop : ∀ e i, i + e = 5 → ∀ hi2, cf_fg hi hi2 → rx_aw 188 8 [.ref 90, .int (nI c), .int (nI (4 * q + d)), .int (nI j), .int (nI (cf_bst S T sd D c j (q + 64 * d) i)), .int (nI i), rx_no] [] (rx_hp L t hi2 hl v) (fun r h2 => ∃ z : Int32, r = some (.int z) ∧ rx_ok2 L t h2 (RI z)) := by
    intro e
    induction e with
    | zero =>
      intro i hi0 hi2 F
      have : i = 5 := by omega
      subst this
      exact w188_bestOf_r_8 ⟨fun _ => c_retI (k hi2 F), fun g => absurd (by decide) g⟩
    | succ e ih =>
      intro i hi0 hi2 F
      have hl1 := hle i
      refine w188_bestOf_r_8 ⟨fun g => ?_, fun _ => ?_⟩
      · rw [show (4 : Int32) = nI 4 from rfl, nI_ltI (by decide) (by omega)] at g; omega
      rw [em, e4, nI_1]
      refine c183 V (cf_M_fg M F) hT W hc hd (by omega) hj hs hq (fun en hi3 F3 => ⟨fun _ => ?_, fun g => absurd rfl g⟩) (fun r er hi3 F3 f1 f2 => ⟨fun g => absurd g (by decide), fun _ => ⟨c, rfl, by omega, ?_⟩⟩)
      · have := ih (i + 1) (by omega) hi3 (fun a b q => (F3 a b q).trans (F a b q))
        rw [cf_bst] at this
        unfold cf_cst at this
        rw [en] at this
        dsimp only at this
        rw [Nat.min_eq_left hl1] at this
        exact this
      · obtain ⟨hvr, hr⟩ := cf_may_vs V hs (by omega) er
        have hDr := hD r hvr hr
        have F4 : cf_fg hi hi3 := fun a b q => (F3 a b q).trans (F a b q)
        have M3 := cf_M_fg M F4
        rw [(M3.2.2.2.2.2.1 c hc).1]
        refine c189 hkd hd (by omega) ⟨256 * (j + 1) + 4 * (r % 64) + r / 64 % 4, ?_, by omega, ?_⟩
        · rw [f1, f2, show (256 : Int32) = nI 256 from rfl, show (4 : Int32) = nI 4 from rfl, nI_1, cf_nmul, cf_nmul, nI_add, nI_add]
        · rw [F4 116 _ (by omega), hDr.1]
          have ec : cf_cst S T sd D c j (q + 64 * d) i = (bif cf_itn (S 3 c) d i then 1 else 0) + D r := by
            unfold cf_cst; rw [er, g2]
          have eb : cf_B (cf_itn (S 3 c) d i) = nI (bif cf_itn (S 3 c) d i then 1 else 0) := by cases cf_itn (S 3 c) d i <;> rfl
          have hb1 : (bif cf_itn (S 3 c) d i then 1 else 0 : Nat) ≤ 1 := by cases cf_itn (S 3 c) d i <;> decide
          have nx := ih (i + 1) (by omega) hi3 F4
          rw [cf_bst, ec] at nx
          rw [eb, nI_add]
          generalize (bif cf_itn (S 3 c) d i then 1 else 0 : Nat) = b at *
          refine ⟨fun g => ?_, fun g => ?_⟩
          · rw [nI_leI (by omega) (by omega)] at g
            rw [Nat.min_eq_left g] at nx; exact nx
          · rw [nI_leI (by omega) (by omega)] at g
            rw [Nat.min_eq_right (by omega)] at nx; exact nx
  exact loop 5 0 (by omega) hi (fun _ _ _ => rfl)
end RXE
