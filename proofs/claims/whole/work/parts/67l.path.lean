/-! The moves that go() writes: the least best one at each tick. -/
/-- the least best MOVE (and 1) among those below n -/
def cf_lm (S : cf_S) (T : Nat → Int64) (sd : Nat → Nat → Int64) (D : Nat → Nat) (c t s d1 n : Nat) : Nat := cf_ff (fun m => decide (cf_cst S T sd D c t s m = d1)) n
/-- the state after i ticks, and the MOVE that is made then -/
def cf_pth (S : cf_S) (T : Nat → Int64) (sd : Nat → Nat → Int64) (c f s0 n : Nat) (gl : Nat → Bool) : Nat → Nat
  | 0 => s0
  | i + 1 => (cf_may S T sd c (f + i) (cf_pth S T sd c f s0 n gl i) (cf_lm S T sd (cf_tl S T sd c f s0 n gl (n - (i + 1))) c (f + i) (cf_pth S T sd c f s0 n gl i) (cf_tl S T sd c f s0 n gl (n - i) (cf_pth S T sd c f s0 n gl i)) 5 - 1)).getD 0
def cf_pmv (S : cf_S) (T : Nat → Int64) (sd : Nat → Nat → Int64) (c f s0 n : Nat) (gl : Nat → Bool) (i : Nat) : Nat :=
  cf_lm S T sd (cf_tl S T sd c f s0 n gl (n - (i + 1))) c (f + i) (cf_pth S T sd c f s0 n gl i) (cf_tl S T sd c f s0 n gl (n - i) (cf_pth S T sd c f s0 n gl i)) 5 - 1
theorem cf_ff_pos {p : Nat → Bool} : ∀ {n : Nat}, (∃ i, i < n ∧ p i = true) → ∃ i, i < n ∧ p i = true ∧ cf_ff p n = i + 1 ∧ ∀ i', i' < i → p i' = false
  | 0, ⟨i, h, _⟩ => absurd h (by omega)
  | n + 1, h => by
    by_cases g : ∃ i, i < n ∧ p i = true
    · obtain ⟨i, h1, h2, h3, h4⟩ := cf_ff_pos g
      exact ⟨i, by omega, h2, by rw [cf_ff, h3, if_neg (by omega)], h4⟩
    · have hz : ∀ i, i < n → p i = false := fun i hi => by
        cases e : p i with
        | false => rfl
        | true => exact absurd ⟨i, hi, e⟩ g
      obtain ⟨i, h1, h2⟩ := h
      have : i = n := by
        rcases Nat.lt_or_ge i n with q | q
        · rw [hz i q] at h2; cases h2
        · omega
      subst this
      exact ⟨i, by omega, h2, by rw [cf_ff, cf_ff_zero hz, if_pos rfl, h2]; rfl, hz⟩
set_option maxRecDepth 100000 in
/-- along the path all is well: the state is reached, few turns are left, the MOVE can be made -/
theorem cf_pth_ok {S : cf_S} {T : Nat → Int64} {sd : Nat → Nat → Int64} {c f s0 n : Nat} {gl : Nat → Bool} (hv : ∀ i s, cf_lr (cf_may S T sd c) f s0 i s = true → s < 256) (h0 : cf_tl S T sd c f s0 n gl n s0 < 1000000) : ∀ i, i ≤ n → cf_lr (cf_may S T sd c) f s0 i (cf_pth S T sd c f s0 n gl i) = true ∧ cf_tl S T sd c f s0 n gl (n - i) (cf_pth S T sd c f s0 n gl i) < 1000000
    ∧ (i < n → cf_pmv S T sd c f s0 n gl i < 5 ∧ cf_may S T sd c (f + i) (cf_pth S T sd c f s0 n gl i) (cf_pmv S T sd c f s0 n gl i) = some (cf_pth S T sd c f s0 n gl (i + 1)) ∧ cf_cst S T sd (cf_tl S T sd c f s0 n gl (n - (i + 1))) c (f + i) (cf_pth S T sd c f s0 n gl i) (cf_pmv S T sd c f s0 n gl i) = cf_tl S T sd c f s0 n gl (n - i) (cf_pth S T sd c f s0 n gl i)
      ∧ (∀ m, m < cf_pmv S T sd c f s0 n gl i → ¬ cf_cst S T sd (cf_tl S T sd c f s0 n gl (n - (i + 1))) c (f + i) (cf_pth S T sd c f s0 n gl i) m = cf_tl S T sd c f s0 n gl (n - i) (cf_pth S T sd c f s0 n gl i)) ∧ cf_tl S T sd c f s0 n gl (n - (i + 1)) (cf_pth S T sd c f s0 n gl (i + 1)) < 1000000) := by
  intro i
  have step : ∀ i, i < n → cf_lr (cf_may S T sd c) f s0 i (cf_pth S T sd c f s0 n gl i) = true → cf_tl S T sd c f s0 n gl (n - i) (cf_pth S T sd c f s0 n gl i) < 1000000 → cf_pmv S T sd c f s0 n gl i < 5 ∧ cf_may S T sd c (f + i) (cf_pth S T sd c f s0 n gl i) (cf_pmv S T sd c f s0 n gl i) = some (cf_pth S T sd c f s0 n gl (i + 1)) ∧ cf_cst S T sd (cf_tl S T sd c f s0 n gl (n - (i + 1))) c (f + i) (cf_pth S T sd c f s0 n gl i) (cf_pmv S T sd c f s0 n gl i) = cf_tl S T sd c f s0 n gl (n - i) (cf_pth S T sd c f s0 n gl i)
      ∧ (∀ m, m < cf_pmv S T sd c f s0 n gl i → ¬ cf_cst S T sd (cf_tl S T sd c f s0 n gl (n - (i + 1))) c (f + i) (cf_pth S T sd c f s0 n gl i) m = cf_tl S T sd c f s0 n gl (n - i) (cf_pth S T sd c f s0 n gl i)) ∧ cf_tl S T sd c f s0 n gl (n - (i + 1)) (cf_pth S T sd c f s0 n gl (i + 1)) < 1000000 := by
    intro i hi hl ht
    obtain ⟨j, hj⟩ : ∃ j, n - i = j + 1 := ⟨n - i - 1, by omega⟩
    have hj1 : n - (i + 1) = j := by omega
    have hji : n - (j + 1) = i := by omega
    have et : cf_tl S T sd c f s0 n gl (n - i) (cf_pth S T sd c f s0 n gl i) = cf_bst S T sd (cf_tl S T sd c f s0 n gl j) c (f + i) (cf_pth S T sd c f s0 n gl i) 5 := by
      rw [hj, cf_tl, hji, hl, cond_true]
    have hb := ht
    rw [et] at hb
    obtain ⟨m, hm, em⟩ := cf_bst_ex hb
    obtain ⟨m1, g1, g2, g3, g4⟩ := cf_ff_pos (p := fun m => decide (cf_cst S T sd (cf_tl S T sd c f s0 n gl (n - (i + 1))) c (f + i) (cf_pth S T sd c f s0 n gl i) m = cf_tl S T sd c f s0 n gl (n - i) (cf_pth S T sd c f s0 n gl i))) (n := 5) ⟨m, hm, decide_eq_true (by rw [hj1, et]; exact em)⟩
    have epm : cf_pmv S T sd c f s0 n gl i = m1 := by unfold cf_pmv cf_lm; rw [g3]; omega
    have g2 := of_decide_eq_true g2
    cases emay : cf_may S T sd c (f + i) (cf_pth S T sd c f s0 n gl i) m1 with
    | none =>
      unfold cf_cst at g2
      rw [emay] at g2
      dsimp only at g2
      omega
    | some r =>
      have ep : cf_pth S T sd c f s0 n gl (i + 1) = r := by
        show (cf_may S T sd c (f + i) (cf_pth S T sd c f s0 n gl i) (cf_pmv S T sd c f s0 n gl i)).getD 0 = r
        rw [epm, emay]; rfl
      refine ⟨by omega, by rw [epm, emay, ep], by rw [epm]; exact g2, fun m hm => by rw [epm] at hm; exact of_decide_eq_false (g4 m hm), ?_⟩
      have g5 := g2
      unfold cf_cst at g5
      rw [emay] at g5
      dsimp only at g5
      rw [ep]
      omega
  induction i with
  | zero =>
    intro _
    have hl0 : cf_lr (cf_may S T sd c) f s0 0 s0 = true := decide_eq_true rfl
    exact ⟨hl0, by rw [Nat.sub_zero]; exact h0, fun hi => step 0 hi hl0 (by rw [Nat.sub_zero]; exact h0)⟩
  | succ i ih =>
    intro hi
    obtain ⟨a1, a2, a3⟩ := ih (by omega)
    obtain ⟨b1, b2, b3, b4, b5⟩ := a3 (by omega)
    have hlt := hv i _ a1
    have hl' : cf_lr (cf_may S T sd c) f s0 (i + 1) (cf_pth S T sd c f s0 n gl (i + 1)) = true := by
      rw [cf_lr, cf_any_iff]
      refine ⟨cf_enc (cf_pth S T sd c f s0 n gl i), by unfold cf_enc; omega, ?_⟩
      rw [cf_dec_enc hlt, a1, Bool.true_and, cf_any_iff]
      exact ⟨_, b1, decide_eq_true b2⟩
    exact ⟨hl', b5, fun h => step (i + 1) h hl' b5⟩
