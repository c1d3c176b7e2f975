/-! Layers of what can be reached. A state by the reference's number r = 4 square + heading. -/
def cf_dec (r : Nat) : Nat := r / 4 + 64 * (r % 4)
def cf_lr (mv : Nat → Nat → Nat → Option Nat) (f s0 : Nat) : Nat → Nat → Bool
  | 0, s => decide (s = s0)
  | i + 1, s => cf_any (fun r => cf_lr mv f s0 i (cf_dec r) && cf_any (fun m => decide (mv (f + i) (cf_dec r) m = some s)) 5) 256
set_option maxRecDepth 100000 in
theorem cf_lr_vs {S : cf_S} (V : cf_V S) {T : Nat → Int64} {sd : Nat → Nat → Int64} {c f s0 : Nat} (h0 : cf_vs (S 0 0) (S 0 1) (cf_two (S 3 c)) s0 ∧ s0 < 256) : ∀ i s, cf_lr (cf_may S T sd c) f s0 i s = true → cf_vs (S 0 0) (S 0 1) (cf_two (S 3 c)) s ∧ s < 256
  | 0, s, h => by
    have : s = s0 := of_decide_eq_true h
    rw [this]; exact h0
  | i + 1, s, h => by
    rw [cf_lr, cf_any_iff] at h
    obtain ⟨r, hr, h⟩ := h
    rw [Bool.and_eq_true, cf_any_iff] at h
    obtain ⟨h1, m, hm, h2⟩ := h
    exact cf_may_vs V (cf_lr_vs V h0 i _ h1).1 hm (of_decide_eq_true h2)
set_option maxRecDepth 100000 in
theorem cf_dec_q (r : Nat) (h : r < 256) : cf_dec r % 64 = r / 4 ∧ cf_dec r / 64 % 4 = r % 4 ∧ cf_dec r < 256 := by
  have : ∀ r : Fin 256, cf_dec r.val % 64 = r.val / 4 ∧ cf_dec r.val / 64 % 4 = r.val % 4 ∧ cf_dec r.val < 256 := by decide +kernel
  exact this ⟨r, h⟩
/-- the number of a state -/
def cf_enc (s : Nat) : Nat := 4 * (s % 64) + s / 64 % 4
set_option maxRecDepth 100000 in
theorem cf_enc_dec {r : Nat} (h : r < 256) : cf_enc (cf_dec r) = r := by
  have : ∀ r : Fin 256, cf_enc (cf_dec r.val) = r.val := by decide +kernel
  exact this ⟨r, h⟩
set_option maxRecDepth 100000 in
theorem cf_dec_enc {s : Nat} (h : s < 256) : cf_dec (cf_enc s) = s := by
  have : ∀ r : Fin 256, cf_dec (cf_enc r.val) = r.val := by decide +kernel
  exact this ⟨s, h⟩
/-- the first tick of arrival, and 1, among the first n; 0 if there is none -/
def cf_arr (mv : Nat → Nat → Nat → Option Nat) (gl : Nat → Nat → Bool) (f s0 n : Nat) : Nat := cf_ff (fun i => cf_any (fun r => cf_lr mv f s0 i (cf_dec r) && gl (cf_dec r) (f + i)) 256) n
