/-! The fewest TURNS to the arrival, by the ticks that are left; that they are few; that a best MOVE is there. -/
def cf_tl (S : cf_S) (T : Nat → Int64) (sd : Nat → Nat → Int64) (c f s0 n : Nat) (gl : Nat → Bool) : Nat → Nat → Nat
  | 0, s => bif cf_lr (cf_may S T sd c) f s0 n s && gl s then 0 else 1000000
  | j + 1, s => bif cf_lr (cf_may S T sd c) f s0 (n - (j + 1)) s then cf_bst S T sd (cf_tl S T sd c f s0 n gl j) c (f + (n - (j + 1))) s 5 else 1000000
theorem cf_bst_le {S : cf_S} {T : Nat → Int64} {sd : Nat → Nat → Int64} {D : Nat → Nat} {c t s : Nat} : ∀ n, cf_bst S T sd D c t s n ≤ 1000000
  | 0 => Nat.le_refl _
  | n + 1 => by have := cf_bst_le (S := S) (T := T) (sd := sd) (D := D) (c := c) (t := t) (s := s) n; rw [cf_bst]; omega
theorem cf_bst_m {S : cf_S} {T : Nat → Int64} {sd : Nat → Nat → Int64} {D : Nat → Nat} {c t s m : Nat} : ∀ {n : Nat}, m < n → cf_bst S T sd D c t s n ≤ cf_cst S T sd D c t s m
  | 0, h => by omega
  | n + 1, h => by
    rw [cf_bst]
    by_cases e : m = n
    · subst e; omega
    · have := cf_bst_m (S := S) (T := T) (sd := sd) (D := D) (c := c) (t := t) (s := s) (m := m) (n := n) (by omega); omega
theorem cf_bst_ex {S : cf_S} {T : Nat → Int64} {sd : Nat → Nat → Int64} {D : Nat → Nat} {c t s : Nat} : ∀ {n : Nat}, cf_bst S T sd D c t s n < 1000000 → ∃ m, m < n ∧ cf_cst S T sd D c t s m = cf_bst S T sd D c t s n
  | 0, h => absurd h (Nat.lt_irrefl _)
  | n + 1, h => by
    rw [cf_bst] at h ⊢
    by_cases g : cf_bst S T sd D c t s n ≤ cf_cst S T sd D c t s n
    · rw [Nat.min_eq_left g] at h ⊢
      obtain ⟨m, hm, e⟩ := cf_bst_ex h
      exact ⟨m, by omega, e⟩
    · exact ⟨n, by omega, by rw [Nat.min_eq_right (by omega)]⟩
theorem cf_tl_le {S : cf_S} {T : Nat → Int64} {sd : Nat → Nat → Int64} {c f s0 n : Nat} {gl : Nat → Bool} : ∀ j s, cf_tl S T sd c f s0 n gl j s ≤ 1000000
  | 0, s => by
    rw [cf_tl]
    cases cf_lr (cf_may S T sd c) f s0 n s && gl s
    · exact Nat.le_refl _
    · exact Nat.zero_le _
  | j + 1, s => by
    rw [cf_tl]
    cases cf_lr (cf_may S T sd c) f s0 (n - (j + 1)) s
    · exact Nat.le_refl _
    · exact cf_bst_le _
set_option maxRecDepth 100000 in
/-- from an arrival back to the start there are states with few turns to go -/
theorem cf_tl_few {S : cf_S} {T : Nat → Int64} {sd : Nat → Nat → Int64} {c f s0 n : Nat} {gl : Nat → Bool} {g : Nat} (h1 : cf_lr (cf_may S T sd c) f s0 n g = true) (h2 : gl g = true) : ∀ j, j ≤ n → ∃ s, cf_lr (cf_may S T sd c) f s0 (n - j) s = true ∧ cf_tl S T sd c f s0 n gl j s ≤ j
  | 0, _ => ⟨g, h1, by rw [cf_tl, h1, h2]; exact Nat.le_refl _⟩
  | j + 1, hj => by
    obtain ⟨s, hs, hd⟩ := cf_tl_few h1 h2 j (by omega)
    obtain ⟨i, hi⟩ : ∃ i, n - j = i + 1 := ⟨n - j - 1, by omega⟩
    rw [hi, cf_lr, cf_any_iff] at hs
    obtain ⟨r, hr, hs⟩ := hs
    rw [Bool.and_eq_true, cf_any_iff] at hs
    obtain ⟨hl, m, hm, he⟩ := hs
    have he := of_decide_eq_true he
    have hni : n - (j + 1) = i := by omega
    refine ⟨cf_dec r, by rw [hni]; exact hl, ?_⟩
    rw [cf_tl, hni, hl, cond_true]
    have h3 := cf_bst_m (S := S) (T := T) (sd := sd) (D := cf_tl S T sd c f s0 n gl j) (c := c) (t := f + i) (s := cf_dec r) hm
    have h4 : cf_cst S T sd (cf_tl S T sd c f s0 n gl j) c (f + i) (cf_dec r) m ≤ 1 + cf_tl S T sd c f s0 n gl j s := by
      unfold cf_cst
      rw [he]
      dsimp only
      cases cf_itn (S 3 c) (cf_dec r / 64 % 4) m <;> simp only [cond_true, cond_false] <;> omega
    omega
