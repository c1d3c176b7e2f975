/-! Walking rules: arrays by natural indices, fields of cells whose number is a variable, loops. -/
theorem rx_in_nI {k n : Nat} (h : k < n) (hn : n < 2 ^ 31) : rx_in (nI k) n = true := by
  unfold rx_in
  exact decide_eq_true (nI_in h hn)
theorem rx_one_ex {call : Nat → List Value → rx_H → Option (Option Value × rx_H)} {m pc : Nat} {i : Instr} {ls st : List Value} {h : rx_H} {g : rx_C} (hP : rx_P m pc = some i) (hex : rx_ex i pc ls st h = some g) : rx_one call m pc ls st h = some (.inr g) := by
  unfold rx_one
  rw [hP]
  cases i <;> first | (dsimp only; rw [hex]) | (cases hex; done)
theorem rx_aw_ex {m pc : Nat} {i : Instr} {ls st : List Value} {h : rx_H} {g : rx_C} {Q : Option Value → rx_H → Prop} (hP : rx_P m pc = some i) (hex : rx_ex i pc ls st h = some g) (k : rx_aw m g.1 g.2.1 g.2.2.1 g.2.2.2 Q) : rx_aw m pc ls st h Q := rx_aw_one (rx_one_ex hP hex) k
section RXW
variable {m pc i n : Nat} {ls st : List Value} {h : rx_H} {Q : Option Value → rx_H → Prop} {x : Int32}
theorem rx_aw_iald (j : Nat) (hx : x = nI j) (hP : rx_P m pc = some .iaload) (hk : rx_kind h i = 14) (hn : rx_len h i = n) (hj : j < n) (hb : n < 2 ^ 31) (k : rx_aw m (pc + 1) ls (.int (h.2.1 i j) :: st) h Q) : rx_aw m pc ls (.int x :: .ref i :: st) h Q := by
  subst hx
  refine rx_aw_ex hP (g := (pc + 1, ls, .int (h.2.1 i j) :: st, h)) ?_ k
  show (bif Nat.beq (rx_kind h i) 14 && rx_in (nI j) (rx_len h i) then some (pc + 1, ls, Value.int (h.2.1 i (nI j).toNatClampNeg) :: st, h) else none) = _
  rw [hk, hn, rx_in_nI hj hb, nI_clamp (by omega)]
  rfl
theorem rx_aw_bald (j : Nat) (hx : x = nI j) (hP : rx_P m pc = some .baload) (hk : rx_kind h i = 13 ∨ rx_kind h i = 16) (h0 : 0 < i) (hn : rx_len h i = n) (hj : j < n) (hb : n < 2 ^ 31) (k : rx_aw m (pc + 1) ls (.int (h.2.1 i j) :: st) h Q) : rx_aw m pc ls (.int x :: .ref i :: st) h Q := by
  subst hx
  refine rx_aw_ex hP (g := (pc + 1, ls, .int (h.2.1 i j) :: st, h)) ?_ k
  show (bif (Nat.beq (rx_kind h i) 13 || Nat.beq (rx_kind h i) 16) && Nat.blt 0 i && rx_in (nI j) (rx_len h i) then some (pc + 1, ls, Value.int (h.2.1 i (nI j).toNatClampNeg) :: st, h) else none) = _
  have h1 : Nat.blt 0 i = true := Nat.ble_eq_true_of_le h0
  rw [hn, rx_in_nI hj hb, nI_clamp (by omega), h1]
  rcases hk with hk | hk <;> rw [hk] <;> rfl
theorem rx_aw_lald (j : Nat) (hx : x = nI j) (hP : rx_P m pc = some .laload) (hk : rx_kind h i = 15) (h0 : 0 < i) (hn : rx_len h i = n) (hj : j < n) (hb : n < 2 ^ 31) (k : rx_aw m (pc + 1) ls (.long (h.2.2.1 i j) :: st) h Q) : rx_aw m pc ls (.int x :: .ref i :: st) h Q := by
  subst hx
  refine rx_aw_ex hP (g := (pc + 1, ls, .long (h.2.2.1 i j) :: st, h)) ?_ k
  show (bif Nat.beq (rx_kind h i) 15 && Nat.blt 0 i && rx_in (nI j) (rx_len h i) then some (pc + 1, ls, Value.long (h.2.2.1 i (nI j).toNatClampNeg) :: st, h) else none) = _
  have h1 : Nat.blt 0 i = true := Nat.ble_eq_true_of_le h0
  rw [hk, hn, rx_in_nI hj hb, nI_clamp (by omega), h1]
  rfl
theorem rx_aw_aald (j : Nat) (hx : x = nI j) (hP : rx_P m pc = some .aaload) (hk : rx_kind h i = 17 ∨ rx_kind h i = 18) (h0 : 0 < i) (hn : rx_len h i = n) (hj : j < n) (hb : n < 2 ^ 31) (k : rx_aw m (pc + 1) ls (va_rf (h.2.2.2 i j) :: st) h Q) : rx_aw m pc ls (.int x :: .ref i :: st) h Q := by
  subst hx
  refine rx_aw_ex hP (g := (pc + 1, ls, va_rf (h.2.2.2 i j) :: st, h)) ?_ k
  show (bif (Nat.beq (rx_kind h i) 17 || Nat.beq (rx_kind h i) 18) && Nat.blt 0 i && rx_in (nI j) (rx_len h i) then some (pc + 1, ls, va_rf (h.2.2.2 i (nI j).toNatClampNeg) :: st, h) else none) = _
  have h1 : Nat.blt 0 i = true := Nat.ble_eq_true_of_le h0
  rw [hn, rx_in_nI hj hb, nI_clamp (by omega), h1]
  rcases hk with hk | hk <;> rw [hk] <;> rfl
theorem rx_aw_iast (j : Nat) {v : Int32} (hx : x = nI j) (hP : rx_P m pc = some .iastore) (hk : rx_kind h i = 14) (h0 : 0 < i) (hn : rx_len h i = n) (hj : j < n) (hb : n < 2 ^ 31) (k : rx_aw m (pc + 1) ls st (rx_si h i j v) Q) : rx_aw m pc ls (.int v :: .int x :: .ref i :: st) h Q := by
  subst hx
  refine rx_aw_ex hP (g := (pc + 1, ls, st, rx_si h i j v)) ?_ k
  show (bif Nat.beq (rx_kind h i) 14 && Nat.blt 0 i && rx_in (nI j) (rx_len h i) then some (pc + 1, ls, st, rx_si h i (nI j).toNatClampNeg v) else none) = _
  have h1 : Nat.blt 0 i = true := Nat.ble_eq_true_of_le h0
  rw [hk, hn, rx_in_nI hj hb, nI_clamp (by omega), h1]
  rfl
theorem rx_aw_bast (j : Nat) {v : Int32} (hx : x = nI j) (hP : rx_P m pc = some .bastore) (hk : rx_kind h i = 13) (h0 : 0 < i) (hn : rx_len h i = n) (hj : j < n) (hb : n < 2 ^ 31) (k : rx_aw m (pc + 1) ls st (rx_si h i j (vp_nar .byte v)) Q) : rx_aw m pc ls (.int v :: .int x :: .ref i :: st) h Q := by
  subst hx
  refine rx_aw_ex hP (g := (pc + 1, ls, st, rx_si h i j (vp_nar .byte v))) ?_ k
  show (bif Nat.blt 0 i && rx_in (nI j) (rx_len h i) then (bif Nat.beq (rx_kind h i) 13 then some (pc + 1, ls, st, rx_si h i (nI j).toNatClampNeg (vp_nar .byte v)) else bif Nat.beq (rx_kind h i) 16 then some (pc + 1, ls, st, rx_si h i (nI j).toNatClampNeg (vp_nar .boolean v)) else none) else none) = _
  have h1 : Nat.blt 0 i = true := Nat.ble_eq_true_of_le h0
  rw [hk, hn, rx_in_nI hj hb, nI_clamp (by omega), h1]
  rfl
theorem rx_aw_zast (j : Nat) {v : Int32} (hx : x = nI j) (hP : rx_P m pc = some .bastore) (hk : rx_kind h i = 16) (h0 : 0 < i) (hn : rx_len h i = n) (hj : j < n) (hb : n < 2 ^ 31) (k : rx_aw m (pc + 1) ls st (rx_si h i j (vp_nar .boolean v)) Q) : rx_aw m pc ls (.int v :: .int x :: .ref i :: st) h Q := by
  subst hx
  refine rx_aw_ex hP (g := (pc + 1, ls, st, rx_si h i j (vp_nar .boolean v))) ?_ k
  show (bif Nat.blt 0 i && rx_in (nI j) (rx_len h i) then (bif Nat.beq (rx_kind h i) 13 then some (pc + 1, ls, st, rx_si h i (nI j).toNatClampNeg (vp_nar .byte v)) else bif Nat.beq (rx_kind h i) 16 then some (pc + 1, ls, st, rx_si h i (nI j).toNatClampNeg (vp_nar .boolean v)) else none) else none) = _
  have h1 : Nat.blt 0 i = true := Nat.ble_eq_true_of_le h0
  rw [hk, hn, rx_in_nI hj hb, nI_clamp (by omega), h1]
  rfl
theorem rx_aw_last (j : Nat) {v : Int64} (hx : x = nI j) (hP : rx_P m pc = some .lastore) (hk : rx_kind h i = 15) (h0 : 0 < i) (hn : rx_len h i = n) (hj : j < n) (hb : n < 2 ^ 31) (k : rx_aw m (pc + 1) ls st (rx_sl h i j v) Q) : rx_aw m pc ls (.long v :: .int x :: .ref i :: st) h Q := by
  subst hx
  refine rx_aw_ex hP (g := (pc + 1, ls, st, rx_sl h i j v)) ?_ k
  show (bif Nat.beq (rx_kind h i) 15 && Nat.blt 0 i && rx_in (nI j) (rx_len h i) then some (pc + 1, ls, st, rx_sl h i (nI j).toNatClampNeg v) else none) = _
  have h1 : Nat.blt 0 i = true := Nat.ble_eq_true_of_le h0
  rw [hk, hn, rx_in_nI hj hb, nI_clamp (by omega), h1]
  rfl
/-- a field of a cell whose number is a variable -/
theorem rx_aw_getf {f : Nat} (hP : rx_P m pc = some (.getfield f)) (hi : rx_is h i (f / 64) (f % 64) = true) (k : rx_aw m (pc + 3) ls (rx_gv h i f :: st) h Q) : rx_aw m pc ls (.ref i :: st) h Q := by
  refine rx_aw_ex hP (g := (pc + 3, ls, rx_gv h i f :: st, h)) ?_ k
  show (bif rx_is h i (f / 64) (f % 64) then some (pc + 3, ls, rx_gv h i f :: st, h) else none) = _
  rw [hi]
  rfl
theorem rx_aw_putI {f : Nat} {v : Int32} (hP : rx_P m pc = some (.putfield f)) (hi : rx_is h i (f / 64) (f % 64) = true) (hk : rx_kd (rx_ty (f / 64) (f % 64)) = 0) (k : rx_aw m (pc + 3) ls st (rx_si h i (f % 64) v) Q) : rx_aw m pc ls (.int v :: .ref i :: st) h Q := by
  refine rx_aw_ex hP (g := (pc + 3, ls, st, rx_si h i (f % 64) v)) ?_ k
  show (bif rx_is h i (f / 64) (f % 64) then _ else none) = _
  rw [hi, cond_true, hk]
  rfl
theorem rx_aw_putZ {f : Nat} {v : Int32} (hP : rx_P m pc = some (.putfield f)) (hi : rx_is h i (f / 64) (f % 64) = true) (hk : rx_kd (rx_ty (f / 64) (f % 64)) = 3) (hv : v = 0 ∨ v = 1) (k : rx_aw m (pc + 3) ls st (rx_si h i (f % 64) v) Q) : rx_aw m pc ls (.int v :: .ref i :: st) h Q := by
  refine rx_aw_ex hP (g := (pc + 3, ls, st, rx_si h i (f % 64) v)) ?_ k
  show (bif rx_is h i (f / 64) (f % 64) then _ else none) = _
  rw [hi, cond_true, hk]
  show (bif decide (v = 0 ∨ v = 1) then _ else none) = _
  rw [decide_eq_true hv]
  rfl
theorem rx_aw_div {v : Int32} (hP : rx_P m pc = some .idiv) (hv : ¬ v = 0) (k : rx_aw m (pc + 1) ls (.int (x / v) :: st) h Q) : rx_aw m pc ls (.int v :: .int x :: st) h Q := by
  refine rx_aw_ex hP (g := (pc + 1, ls, .int (x / v) :: st, h)) ?_ k
  show (bif decide (¬ v = 0) then _ else none) = _
  rw [decide_eq_true hv]
  rfl
theorem rx_aw_rem {v : Int32} (hP : rx_P m pc = some .irem) (hv : ¬ v = 0) (k : rx_aw m (pc + 1) ls (.int (x - x / v * v) :: st) h Q) : rx_aw m pc ls (.int v :: .int x :: st) h Q := by
  refine rx_aw_ex hP (g := (pc + 1, ls, .int (x - x / v * v) :: st, h)) ?_ k
  show (bif decide (¬ v = 0) then _ else none) = _
  rw [decide_eq_true hv]
  rfl
/-- a loop whose states are told by their number -/
theorem rx_aw_loop (e : Nat) (S : Nat → List Value × rx_H) (hs : ∀ k, k < e → rx_aw m pc (S (k + 1)).1 [] (S (k + 1)).2 Q → rx_aw m pc (S k).1 [] (S k).2 Q) (hx : rx_aw m pc (S e).1 [] (S e).2 Q) : rx_aw m pc (S 0).1 [] (S 0).2 Q := by
  have : ∀ d, d ≤ e → rx_aw m pc (S (e - d)).1 [] (S (e - d)).2 Q := by
    intro d
    induction d with
    | zero => intro _; exact hx
    | succ d ih =>
      intro hd
      have h1 := ih (by omega)
      rw [show e - d = e - (d + 1) + 1 by omega] at h1
      exact hs (e - (d + 1)) (by omega) h1
  have h2 := this e (Nat.le_refl e)
  rw [Nat.sub_self] at h2
  exact h2
/-- a loop that ends somewhere: a measure falls, the invariant holds -/
theorem rx_aw_while {σ : Type} (S : σ → List Value × rx_H) (I : σ → Prop) (μ : σ → Nat) (hs : ∀ s, I s → (∀ s2, I s2 → μ s2 < μ s → rx_aw m pc (S s2).1 [] (S s2).2 Q) → rx_aw m pc (S s).1 [] (S s).2 Q) (s : σ) (hI : I s) : rx_aw m pc (S s).1 [] (S s).2 Q := by
  have : ∀ d s, μ s < d → I s → rx_aw m pc (S s).1 [] (S s).2 Q := by
    intro d
    induction d with
    | zero => intro s hd; omega
    | succ d ih => intro s hd hI; exact hs s hI (fun s2 h2 hm => ih s2 (by omega) h2)
  exact this (μ s + 1) s (by omega) hI
end RXW
